/-! asks */ -/
def nA (C : CF) (ρ hk hv : RW) (m q i : Int) : Int := if fpB C ρ hk hv m q i = true then 1 else 0
def nV (C : CF) (ρ hk hv : RW) (m k v q i : Int) : Int := if fpB C ρ hk hv m q i = true then (if prp ρ q i k = v then 1 else 0) else 0
def tA (C : CF) (ρ hk hv : RW) (m : Int) : Int := sm (fun q => sm (nA C ρ hk hv m q) 16 0) 5 0
def tV (C : CF) (ρ hk hv : RW) (m k v : Int) : Int := sm (fun q => sm (nV C ρ hk hv m k v q) 16 0) 5 0
def mxV (a t : Int) : Int := if t < a - t then a - t else t
def bsS (f : Int → Int) (k v : Int) (s : Int × Int) : Int × Int := if f v < s.2 then (10 * k + v, f v) else s
def bsV (f : Int → Int) (k : Int) : Nat → Int → Int × Int → Int × Int
  | 0, _, s => s
  | n + 1, v, s => bsV f k n (v + 1) (bsS f k v s)
def bsK (F : Int → Int → Int) : Nat → Int → Int × Int → Int × Int
  | 0, _, s => s
  | n + 1, k, s => bsK F n (k + 1) (bsV (F k) k (wrt k).toNat 0 s)
section ra01
variable {d : Nat} {S T U : SS} {I J K G I2 : II} {C : CF} {ρ σ hk hv : RW} {a b q k v j m id N i x : Int} {s : Int × Int}
theorem sm_swp2 (F : Int → Int → Int) (n : Nat) (a : Int) : ∀ (l : Nat) (b : Int), sm (fun v => sm (fun q => F v q) n a) l b = sm (fun q => sm (fun v => F v q) l b) n a := by
  intro l
  induction l with
  | zero => intro b; exact (sm_zero n a (fun _ _ _ => rfl)).symm
  | succ l ih =>
    intro b
    have e : (fun q => sm (fun v => F v q) (l + 1) b) = fun q => F b q + sm (fun v => F v q) l (b + 1) := by funext q; rfl
    rw [sm_succ, ih (b + 1), e, sm_add]
theorem sm_cut {f : Int → Int} {M : Int} (h : ∀ j, M ≤ j → f j = 0) : ∀ (n : Nat) (k : Int), M ≤ k + n → sm f n k = sm f (M - k).toNat k := by
  intro n
  induction n with
  | zero => intro k hk; rw [show (M - k).toNat = 0 by omega]
  | succ n ih =>
    intro k hk
    by_cases g : M ≤ k
    · rw [show (M - k).toNat = 0 by omega]
      exact sm_zero _ _ (fun j j0 _ => h j (by omega))
    · rw [show (M - k).toNat = (M - (k + 1)).toNat + 1 by omega, sm_succ, sm_succ, ih (k + 1) (by omega)]
theorem one10 (h0 : 0 ≤ x) (h1 : x < 10) : sm (fun v => if x = v then 1 else 0) 10 0 = 1 := by
  rcases (by omega : x = 0 ∨ x = 1 ∨ x = 2 ∨ x = 3 ∨ x = 4 ∨ x = 5 ∨ x = 6 ∨ x = 7 ∨ x = 8 ∨ x = 9) with rfl | rfl | rfl | rfl | rfl | rfl | rfl | rfl | rfl | rfl <;> decide
theorem fpB_c (h : fpB C ρ hk hv m q i = true) : 0 ≤ q ∧ q < C.1 ∧ 0 ≤ cadS ρ q i := by
  have := fpB_iff.mp h
  have f := this.2
  unfold fitb at f
  simp only [Bool.and_eq_true, decide_eq_true_eq] at f
  exact ⟨this.1.1, this.1.2, f.1⟩
theorem nA_b (C : CF) (ρ hk hv : RW) (m q i : Int) : 0 ≤ nA C ρ hk hv m q i ∧ nA C ρ hk hv m q i ≤ 1 := by unfold nA; split <;> omega
theorem nV_b (C : CF) (ρ hk hv : RW) (m k v q i : Int) : 0 ≤ nV C ρ hk hv m k v q i ∧ nV C ρ hk hv m k v q i ≤ nA C ρ hk hv m q i := by
  unfold nV nA; split
  · split <;> omega
  · omega
theorem tA_b (C : CF) (ρ hk hv : RW) (m : Int) : 0 ≤ tA C ρ hk hv m ∧ tA C ρ hk hv m ≤ 80 := by
  refine ⟨sm_nonneg _ _ (fun q _ _ => sm_nonneg _ _ (fun i _ _ => (nA_b C ρ hk hv m q i).1)), ?_⟩
  have h := sm_le (f := fun q => sm (nA C ρ hk hv m q) 16 0) (g := fun _ => sm (fun _ => 1) 16 0) 5 0 (fun q _ _ => sm_le _ _ (fun i _ _ => (nA_b C ρ hk hv m q i).2))
  have e : sm (fun _ => sm (fun _ => 1) 16 0) 5 0 = 80 := by decide
  rw [e] at h
  exact h
theorem tV_b (C : CF) (ρ hk hv : RW) (m k v : Int) : 0 ≤ tV C ρ hk hv m k v ∧ tV C ρ hk hv m k v ≤ tA C ρ hk hv m :=
  ⟨sm_nonneg _ _ (fun q _ _ => sm_nonneg _ _ (fun i _ _ => (nV_b C ρ hk hv m k v q i).1)), sm_le _ _ (fun q _ _ => sm_le _ _ (fun i _ _ => (nV_b C ρ hk hv m k v q i).2))⟩
theorem tV_sum (hw : WF C ρ) (hkC : okC C) : sm (fun v => tV C ρ hk hv m k v) 10 0 = tA C ρ hk hv m := by
  have hn5 := hkC.2.1
  unfold tV tA
  rw [sm_swp2 (fun v q => sm (nV C ρ hk hv m k v q) 16 0)]
  refine sm_congr _ _ (fun q q0 q1 => ?_)
  show sm (fun v => sm (fun i => nV C ρ hk hv m k v q i) 16 0) 10 0 = _
  rw [sm_swp2 (fun v i => nV C ρ hk hv m k v q i)]
  refine sm_congr _ _ (fun i i0 i1 => ?_)
  show sm (fun v => nV C ρ hk hv m k v q i) 10 0 = nA C ρ hk hv m q i
  unfold nA nV
  by_cases g : fpB C ρ hk hv m q i = true
  · obtain ⟨c0, c1, c2⟩ := fpB_c g
    have pb := prp_b (k := k) hw c0 (by omega : q < 5) c2
    simp only [if_pos g]
    exact one10 pb.1 pb.2
  · simp only [if_neg g]
    exact sm_zero _ _ (fun _ _ _ => rfl)
theorem nA_out (h : C.1 ≤ q) : nA C ρ hk hv m q i = 0 := by
  unfold nA; rw [if_neg (fun g => by have := (fpB_c g).2.1; omega)]
theorem nV_out (h : C.1 ≤ q) : nV C ρ hk hv m k v q i = 0 := by
  unfold nV; rw [if_neg (fun g => by have := (fpB_c g).2.1; omega)]
theorem mxV_b {t : Int} (h0 : 0 ≤ t) (h1 : t ≤ a) (h2 : a ≤ 80) : 0 ≤ mxV a t ∧ mxV a t ≤ 80 := by unfold mxV; split <;> omega
theorem mxV_w {t : Int} (h0 : 0 ≤ t) (h1 : t ≤ a) (h2 : a ≤ 80) : (if w t < w (a - t) then w (a - t) else w t) = mxV a t := by
  rw [w_small (z := t) (by omega) (by omega), w_small (z := a - t) (by omega) (by omega)]; rfl
/-- the class counts, by worth -/
theorem c_spr1 (hQ : QA S 0) (h : RelD C I 5 ρ) (hw : WF C ρ) (hkC : okC C) (hB : BdN N ρ) (hN : N < 1073741824) (q0 : 0 ≤ q) (q1 : q < 5) (hh : cHs I m hk hv) (k0 : 0 ≤ k) (k1 : k < 4) (x0 : 455 ≤ x) (hx : KA S x 20 10) : ∀ (n : Nat) (i : Int) (J : II) (a6 : AV), (∀ y, y < 455 → J y = I y) → 0 ≤ i → i ≤ 16 → n = (16 - i).toNat →
    ∃ K b6, ev (d + 6) 73 17 [(2, 424), (2, 5), (0, k), (2, x), (0, q), (0, i), a6] [] S J = ev (d + 6) 73 8 [(2, 424), (2, 5), (0, k), (2, x), (0, q + 1), (0, 16), b6] [] S K ∧ (∀ y, y ≠ x → K y = J y) ∧ ∀ v, 0 ≤ v → v < 10 → K x v = J x v + sm (nV C ρ hk hv m k v q) n i := by
  have hn5 := hkC.2.1
  intro n
  induction n with
  | zero =>
    intro i J a6 ht i0 i1 hn
    have : i = 16 := by omega
    subst this
    refine ⟨J, a6, ?_, fun _ _ => rfl, fun v _ _ => by simp [sm]⟩
    rw [E73_17 (HA424 hQ), if_neg (by decide)]
  | succ n ih =>
    intro i J a6 ht i0 i1 hn
    have hR := RelD_mem h hw.1 (J := J) (fun y y0 y1 => ht y (by omega))
    have hH := cHs_of hh (ht 424 (by decide)) (ht 425 (by decide)) (ht 426 (by decide))
    have cf := c_fb (d := d) (S := S) (I := J) hQ hR hw hkC hB hN (q := q) (id := i) ⟨by omega, by omega⟩ ⟨by omega, by omega⟩ hH
    rw [E73_17 (HA424 hQ), w_small (z := i) (by omega) (by omega), if_pos (by omega), cf]
    simp only [Option.bind_some, psh_i]
    by_cases g : fpB C ρ hk hv m q i = true
    · obtain ⟨c0, c1, c2⟩ := fpB_c g
      have pb := prp_b (k := k) hw c0 (by omega : q < 5) c2
      rw [if_pos g, E73_33, if_neg (by decide), c_prp (d := d + 1) (by decide) (DA5 hQ) hR hw hkC hB hN ⟨by omega, by omega⟩ c0 c1 c2 k0 k1]
      simp only [Option.bind_some, psh_i]
      rw [E73_45 hx, w_small (z := prp ρ q i k) (by omega) (by omega), if_neg (by omega), if_pos (by omega), gdR_pos (by omega), gdR_pos (by omega), E73_67]
      obtain ⟨K, b6, z1, z2, z3⟩ := ih (i + 1) (up2 J x (prp ρ q i k) (J x (prp ρ q i k) + 1)) (0, prp ρ q i k) (fun y hy => by rw [up2_oth (by omega)]; exact ht y hy) (by omega) (by omega) (by omega)
      refine ⟨K, b6, z1, fun y hy => by rw [z2 y hy, up2_oth hy], fun v v0 v1 => ?_⟩
      rw [z3 v v0 v1, sm_succ]
      have e : nV C ρ hk hv m k v q i = if prp ρ q i k = v then 1 else 0 := by unfold nV; rw [if_pos g]
      rw [e]
      by_cases gv : prp ρ q i k = v
      · rw [up2_hit rfl gv.symm, if_pos gv, gv]; omega
      · rw [up2_miss (by omega), if_neg gv]; omega
    · rw [if_neg g, E73_33, if_pos (by decide), E73_67]
      obtain ⟨K, b6, z1, z2, z3⟩ := ih (i + 1) J a6 ht (by omega) (by omega) (by omega)
      refine ⟨K, b6, z1, z2, fun v v0 v1 => ?_⟩
      rw [z3 v v0 v1, sm_succ]
      have e : nV C ρ hk hv m k v q i = 0 := by unfold nV; rw [if_neg g]
      rw [e]; omega
theorem c_spr2 (hQ : QA S 0) (h : RelD C I 5 ρ) (hw : WF C ρ) (hkC : okC C) (hB : BdN N ρ) (hN : N < 1073741824) (hh : cHs I m hk hv) (k0 : 0 ≤ k) (k1 : k < 4) (x0 : 455 ≤ x) (hx : KA S x 20 10) : ∀ (n : Nat) (q : Int) (J : II) (a5 a6 : AV), (∀ y, y < 455 → J y = I y) → 0 ≤ q → q ≤ 5 → n = (5 - q).toNat →
    ∃ K, ev (d + 6) 73 8 [(2, 424), (2, 5), (0, k), (2, x), (0, q), a5, a6] [] S J = some ((2, x), S, K) ∧ (∀ y, y ≠ x → K y = J y) ∧ ∀ v, 0 ≤ v → v < 10 → K x v = J x v + sm (fun q => sm (nV C ρ hk hv m k v q) 16 0) n q := by
  intro n
  induction n with
  | zero =>
    intro q J a5 a6 ht q0 q1 hn
    refine ⟨J, ?_, fun _ _ => rfl, fun v _ _ => by simp [sm]⟩
    rw [E73_8, w_small (z := q) (by omega) (by omega), if_neg (by omega)]
  | succ n ih =>
    intro q J a5 a6 ht q0 q1 hn
    obtain ⟨K, b6, z1, z2, z3⟩ := c_spr1 (d := d) (S := S) hQ h hw hkC hB hN q0 (by omega : q < 5) hh k0 k1 x0 hx 16 0 J a6 ht (by decide) (by decide) (by decide)
    obtain ⟨Z, y1, y2, y3⟩ := ih (q + 1) K (0, 16) b6 (fun y hy => by rw [z2 y (by omega)]; exact ht y hy) (by omega) (by omega) (by omega)
    refine ⟨Z, ?_, fun y hy => by rw [y2 y hy, z2 y hy], fun v v0 v1 => ?_⟩
    · rw [E73_8, w_small (z := q) (by omega) (by omega), if_pos (by omega), z1, y1]
    · rw [y3 v v0 v1, z3 v v0 v1, sm_succ (fun q => sm (nV C ρ hk hv m k v q) 16 0) n q]; omega
theorem c_spr (hS : SH S) (h : RelD C I 5 ρ) (hw : WF C ρ) (hkC : okC C) (hB : BdN N ρ) (hN : N < 1073741824) (hh : cHs I m hk hv) (k0 : 0 ≤ k) (k1 : k < 4) : ∃ K, ev (d + 6) 73 0 [(2, 424), (2, 5), (0, k), uU, uU, uU, uU] [] S I = some ((2, (S.1 : Int)), newS S 20 10, K) ∧ (∀ y, y < (S.1 : Int) → K y = I y) ∧ (∀ v, 0 ≤ v → v < 10 → K (S.1 : Int) v = tV C ρ hk hv m k v) ∧ KA (newS S 20 10) (S.1 : Int) 20 10 := by
  have s455 := SH_454 hS
  have kx : KA (newS S 20 10) (S.1 : Int) 20 10 := by
    refine ⟨by omega, ?_, ?_, ?_⟩
    · show (S.1 : Int) < ((S.1 + 1 : Nat) : Int); omega
    · show (if (S.1 : Int) = (S.1 : Int) then ((20 : Int), ((10 : Nat) : Int)) else sH S (S.1 : Int)).1 = 20; rw [if_pos rfl]
    · show (if (S.1 : Int) = (S.1 : Int) then ((20 : Int), ((10 : Nat) : Int)) else sH S (S.1 : Int)).2 = 10; rw [if_pos rfl]; rfl
  obtain ⟨K, z1, z2, z3⟩ := c_spr2 (d := d) (S := newS S 20 10) (QA_ext SE_new hS.1) h hw hkC hB hN hh k0 k1 s455 kx 5 0 (newI S I) uU uU (fun y hy => newI_oth (by omega)) (by decide) (by decide) (by decide)
  refine ⟨K, ?_, fun y hy => by rw [z2 y (by omega), newI_oth hy], fun v v0 v1 => ?_, kx⟩
  · rw [E73_0, E73_4, z1]
  · rw [z3 v v0 v1, newI_own]
    show (0 : Int) + tV C ρ hk hv m k v = _
    omega
theorem c_ask0 {s1 s2 : Int} (hx : KA S x 20 10) : ∀ (n : Nat) (v y : Int) (a9 : AV), 0 ≤ v → v ≤ 10 → n = (10 - v).toNat → ev d 72 30 [(2, 424), (2, 5), (2, 3), (0, s1), (0, s2), (0, k), (2, x), (0, y), (0, v), a9] [] S I = if w (y + sm (I x) n v) = 0 then some ((0, -2), S, I) else ev d 72 64 [(2, 424), (2, 5), (2, 3), (0, s1), (0, s2), (0, k), (2, x), (0, y + sm (I x) n v), (0, 0), a9] [] S I := by
  intro n
  induction n with
  | zero =>
    intro v y a9 v0 v1 hn
    rw [E72_30 hx, w_small (z := v) (by omega) (by omega), if_neg (by omega)]
    simp [sm]
  | succ n ih =>
    intro v y a9 v0 v1 hn
    rw [E72_30 hx, w_small (z := v) (by omega) (by omega), if_pos (by omega), gdR_pos (by omega), ih (v + 1) _ a9 (by omega) (by omega) (by omega), sm_succ, Int.add_assoc]
theorem c_ask1 {f : Int → Int} (hx : KA S x 20 10) (a0 : 0 ≤ a) (a1 : a ≤ 80) (k0 : 0 ≤ k) (k1 : k < 4) (hf : ∀ v, 0 ≤ v → v < 10 → 0 ≤ I x v ∧ I x v ≤ a ∧ f v = mxV a (I x v)) : ∀ (n : Nat) (v : Int) (s : Int × Int) (a9 : AV), 0 ≤ v → v ≤ wrt k → n = (wrt k - v).toNat → 0 ≤ s.2 → s.2 ≤ 1000000 →
    ∃ b9, ev (d + 1) 72 64 [(2, 424), (2, 5), (2, 3), (0, s.1), (0, s.2), (0, k), (2, x), (0, a), (0, v), a9] [] S I = ev (d + 1) 72 9 [(2, 424), (2, 5), (2, 3), (0, (bsV f k n v s).1), (0, (bsV f k n v s).2), (0, k + 1), (2, x), (0, a), (0, wrt k), b9] [] S I ∧ 0 ≤ (bsV f k n v s).2 ∧ (bsV f k n v s).2 ≤ 1000000 := by
  have hb := wrt_b k
  intro n
  induction n with
  | zero =>
    intro v s a9 v0 v1 hn b0 b1
    have : v = wrt k := by omega
    subst this
    refine ⟨a9, ?_, b0, b1⟩
    rw [E72_64, c_worths ⟨by omega, by omega⟩]
    simp only [Option.bind_some, psh_i]
    rw [E72_71 hx, if_neg (by omega), E72_125]
    rfl
  | succ n ih =>
    intro v s a9 v0 v1 hn b0 b1
    obtain ⟨f0, f1, f2⟩ := hf v v0 (by omega)
    have mb := mxV_b f0 f1 a1
    have eu : bsV f k (n + 1) v s = bsV f k n (v + 1) (bsS f k v s) := rfl
    rw [E72_64, c_worths ⟨by omega, by omega⟩, eu]
    simp only [Option.bind_some, psh_i]
    rw [E72_71 hx, w_small (z := v) (by omega) (by omega), w_small (z := wrt k) (by omega) (by omega), if_pos (by omega), if_pos (by omega), gdR_pos (by omega), gdR_pos (by omega), mxV_w f0 f1 a1, w_small (z := s.2) (by omega) (by omega), E72_119, E72_119]
    by_cases g : f v < s.2
    · have e : bsS f k v s = (10 * k + v, f v) := by unfold bsS; rw [if_pos g]
      rw [e, if_pos (by omega), ← f2]
      exact ih (v + 1) (10 * k + v, f v) _ (by omega) (by omega) (by omega) (by show 0 ≤ f v; omega) (by show f v ≤ _; omega)
    · have e : bsS f k v s = s := by unfold bsS; rw [if_neg g]
      rw [e, if_neg (by omega)]
      exact ih (v + 1) s _ (by omega) (by omega) (by omega) b0 b1
theorem c_ask2 (hS : SH S) (h : RelD C I 5 ρ) (hw : WF C ρ) (hkC : okC C) (hB : BdN N ρ) (hN : N < 1073741824) (hh : cHs I m hk hv) (hne : tA C ρ hk hv m ≠ 0) : ∀ (n : Nat) (k : Int) (s : Int × Int) (T : SS) (J : II) (a6 a7 a8 a9 : AV), SE S T → (∀ y, y < 455 → J y = I y) → (T.1 : Int) ≤ S.1 + k → (T.2.1 : Int) ≤ S.2.1 + 10 * k → 0 ≤ k → k ≤ 4 → n = (4 - k).toNat → 0 ≤ s.2 → s.2 ≤ 1000000 →
    ∃ U K, ev (d + 8) 72 9 [(2, 424), (2, 5), (2, 3), (0, s.1), (0, s.2), (0, k), a6, a7, a8, a9] [] T J = some ((0, (bsK (fun k v => mxV (tA C ρ hk hv m) (tV C ρ hk hv m k v)) n k s).1), U, K) ∧ SE S U ∧ (∀ y, y < 455 → y ≠ 3 → y ≠ 4 → K y = I y) ∧ (U.1 : Int) ≤ S.1 + 4 ∧ (U.2.1 : Int) ≤ S.2.1 + 40 ∧ TD K 1 (updR (fun _ => 0) 0 (bsK (fun k v => mxV (tA C ρ hk hv m) (tV C ρ hk hv m k v)) n k s).2) ∧ 0 ≤ (bsK (fun k v => mxV (tA C ρ hk hv m) (tV C ρ hk hv m k v)) n k s).2 ∧ (bsK (fun k v => mxV (tA C ρ hk hv m) (tV C ρ hk hv m k v)) n k s).2 ≤ 1000000 := by
  have ab := tA_b C ρ hk hv m
  intro n
  induction n with
  | zero =>
    intro k s T J a6 a7 a8 a9 hE hJ t1 t2 k0 k1 hn b0 b1
    have hT := SH_ext hE hS
    obtain ⟨A, a1, a2, a3⟩ := c_tell1 (d := d + 6) (S := T) (I := J) (x := s.2) (RA3 hT.1)
    refine ⟨T, A, ?_, hE, fun y hy y3 y4 => by rw [a3 y y3 y4]; exact hJ y hy, by omega, by omega, a2, b0, b1⟩
    rw [E72_9 (HA424 hT.1) (RA3 hT.1), w_small (z := k) (by omega) (by omega), if_neg (by omega), w_small (z := s.2) (by omega) (by omega), a1]
    simp only [Option.bind_some, psh_u]
    rw [E72_138]
    rfl
  | succ n ih =>
    intro k s T J a6 a7 a8 a9 hE hJ t1 t2 k0 k1 hn b0 b1
    have hT := SH_ext hE hS
    have s455 := SH_454 hT
    obtain ⟨K, z1, z2, z3, z4⟩ := c_spr (d := d + 1) (S := T) (I := J) hT (RelD_mem h hw.1 (fun y y0 y1 => hJ y (by omega))) hw hkC hB hN (cHs_of hh (hJ 424 (by decide)) (hJ 425 (by decide)) (hJ 426 (by decide))) k0 (by omega : k < 4)
    have esum : sm (K (T.1 : Int)) 10 0 = tA C ρ hk hv m := by
      rw [← tV_sum (k := k) hw hkC]
      exact sm_congr _ _ (fun v v0 v1 => z3 v v0 (by omega))
    obtain ⟨b9, y1, y2, y3⟩ := c_ask1 (d := d + 7) (S := newS T 20 10) (I := K) (x := (T.1 : Int)) (a := tA C ρ hk hv m) (f := fun v => mxV (tA C ρ hk hv m) (tV C ρ hk hv m k v)) z4 ab.1 ab.2 k0 (by omega : k < 4) (fun v v0 v1 => by
      have := tV_b C ρ hk hv m k v
      rw [z3 v v0 v1]
      exact ⟨this.1, this.2, rfl⟩) (wrt k).toNat 0 s a9 (by decide) (wrt_b k).1 (by rw [Int.sub_zero]) b0 b1
    obtain ⟨U, Z, u1, u2, u3⟩ := ih (k + 1) (bsV (fun v => mxV (tA C ρ hk hv m) (tV C ρ hk hv m k v)) k (wrt k).toNat 0 s) (newS T 20 10) K (2, (T.1 : Int)) (0, tA C ρ hk hv m) (0, wrt k) b9 (SE_trans hE SE_new) (fun y hy => by rw [z2 y (by omega)]; exact hJ y hy) (by show ((T.1 + 1 : Nat) : Int) ≤ _; omega) (by show ((T.2.1 + 10 : Nat) : Int) ≤ _; omega) (by omega) (by omega) (by omega) y2 y3
    refine ⟨U, Z, ?_, u2, u3⟩
    rw [E72_9 (HA424 hT.1) (RA3 hT.1), w_small (z := k) (by omega) (by omega), if_pos (by omega), z1]
    simp only [Option.bind_some, psh_r]
    rw [E72_22, c_ask0 z4 10 0 0 a9 (by decide) (by decide) (by decide), Int.zero_add, esum, w_small (z := tA C ρ hk hv m) (by omega) (by omega), if_neg hne, y1, u1]
    rfl
theorem c_ask_none (hS : SH S) (h : RelD C I 5 ρ) (hw : WF C ρ) (hkC : okC C) (hB : BdN N ρ) (hN : N < 1073741824) (hh : cHs I m hk hv) (hne : tA C ρ hk hv m = 0) : ∃ K, ev (d + 8) 72 0 [(2, 424), (2, 5), (2, 3), uU, uU, uU, uU, uU, uU, uU] [] S I = some ((0, -2), newS S 20 10, K) ∧ (∀ y, y < 455 → K y = I y) := by
  have s455 := SH_454 hS
  obtain ⟨K, z1, z2, z3, z4⟩ := c_spr (d := d + 1) (S := S) (I := I) (k := 0) hS h hw hkC hB hN hh (by decide) (by decide)
  have esum : sm (K (S.1 : Int)) 10 0 = tA C ρ hk hv m := by
    rw [← tV_sum (k := 0) hw hkC]
    exact sm_congr _ _ (fun v v0 v1 => z3 v v0 (by omega))
  refine ⟨K, ?_, fun y hy => z2 y (by omega)⟩
  rw [E72_0, E72_9 (HA424 hS.1) (RA3 hS.1), if_pos (by decide), z1]
  simp only [Option.bind_some, psh_r]
  rw [E72_22, c_ask0 z4 10 0 0 uU (by decide) (by decide) (by decide), Int.zero_add, esum, hne, if_pos (by decide)]
/-- the reference counts -/
theorem m_all1 (hM : MA S 427) (hI : I 438 = ρ) (hw : WF C ρ) (hkC : okC C) (hB : BdN N ρ) (hN : N < 1073741824) (q0 : 0 ≤ q) (q1 : q < C.1) (hh : mHs I m hk hv) : ∀ (n : Nat) (i x : Int), 0 ≤ i → i ≤ 16 → n = (16 - i).toNat → ev (d + 6) 299 19 [(2, 427), (0, x), (0, q), (0, i), uU, uU, uU, uU] [] S I = ev (d + 6) 299 9 [(2, 427), (0, x + sm (nA C ρ hk hv m q) n i), (0, q + 1), (0, 16), uU, uU, uU, uU] [] S I := by
  intro n
  induction n with
  | zero =>
    intro i x i0 i1 hn
    have : i = 16 := by omega
    subst this
    rw [E299_19 hM, if_neg (by decide)]
    simp [sm]
  | succ n ih =>
    intro i x i0 i1 hn
    have cf := m_fb (d := d) (S := S) (I := I) hM hI hw hkC hB hN (q := q) (id := i) q0 q1 ⟨by omega, by omega⟩ hh
    have nb := nA_b C ρ hk hv m q i
    rw [E299_19 hM, w_small (z := i) (by omega) (by omega), if_pos (by omega), cf]
    simp only [Option.bind_some, psh_i]
    rw [show (if fpB C ρ hk hv m q i = true then (1 : Int) else 0) = nA C ρ hk hv m q i from rfl, E299_32, m_flag (by omega)]
    simp only [Option.bind_some, psh_i]
    rw [E299_35, ih (i + 1) _ (by omega) (by omega) (by omega), sm_succ, Int.add_assoc]
theorem m_all2 (hM : MA S 427) (hI : I 438 = ρ) (hw : WF C ρ) (hkC : okC C) (hn : I 427 14 = C.1) (hB : BdN N ρ) (hN : N < 1073741824) (hh : mHs I m hk hv) : ∀ (n : Nat) (q x : Int) (a3 : AV), 0 ≤ q → q ≤ C.1 → n = (C.1 - q).toNat → ∃ b3, ev (d + 6) 299 9 [(2, 427), (0, x), (0, q), a3, uU, uU, uU, uU] [] S I = ev (d + 6) 299 9 [(2, 427), (0, x + sm (fun q => sm (nA C ρ hk hv m q) 16 0) n q), (0, C.1), b3, uU, uU, uU, uU] [] S I := by
  have hn5 := hkC.2.1
  intro n
  induction n with
  | zero =>
    intro q x a3 q0 q1 hn'
    have : q = C.1 := by omega
    subst this
    exact ⟨a3, by simp [sm]⟩
  | succ n ih =>
    intro q x a3 q0 q1 hn'
    obtain ⟨b3, e⟩ := ih (q + 1) (x + sm (nA C ρ hk hv m q) 16 0) (0, 16) (by omega) (by omega) (by omega)
    refine ⟨b3, ?_⟩
    rw [E299_9 hM, w_small (z := q) (by omega) (by omega), hn, w_small (z := C.1) (by omega) (by omega), if_pos (by omega), m_all1 hM hI hw hkC hB hN q0 (by omega) hh 16 0 x (by decide) (by decide) (by decide), e, sm_succ (fun q => sm (nA C ρ hk hv m q) 16 0) n q, Int.add_assoc]
theorem m_so1 (hM : MA S 427) (hI : I 438 = ρ) (hw : WF C ρ) (hkC : okC C) (hB : BdN N ρ) (hN : N < 1073741824) (q0 : 0 ≤ q) (q1 : q < C.1) (hh : mHs I m hk hv) (k0 : 0 ≤ k) (k1 : k < 4) (hv0 : isI v) : ∀ (n : Nat) (i x : Int), 0 ≤ i → i ≤ 16 → n = (16 - i).toNat → ev (d + 6) 300 17 [(2, 427), (0, k), (0, v), (0, x), (0, q), (0, i)] [] S I = ev (d + 6) 300 5 [(2, 427), (0, k), (0, v), (0, x + sm (nV C ρ hk hv m k v q) n i), (0, q + 1), (0, 16)] [] S I := by
  have hn5 := hkC.2.1
  intro n
  induction n with
  | zero =>
    intro i x i0 i1 hn
    have : i = 16 := by omega
    subst this
    rw [E300_17 hM, if_neg (by decide)]
    simp [sm]
  | succ n ih =>
    intro i x i0 i1 hn
    have cf := m_fb (d := d) (S := S) (I := I) hM hI hw hkC hB hN (q := q) (id := i) q0 q1 ⟨by omega, by omega⟩ hh
    rw [E300_17 hM, w_small (z := i) (by omega) (by omega), if_pos (by omega), cf]
    simp only [Option.bind_some, psh_i]
    have fin : ∀ u : Int, (u = 0 ∨ u = 1) → nV C ρ hk hv m k v q i = u → ev (d + 6) 300 54 [(2, 427), (0, k), (0, v), (0, x), (0, q), (0, i)] [(0, u), (0, x)] S I = ev (d + 6) 300 5 [(2, 427), (0, k), (0, v), (0, x + sm (nV C ρ hk hv m k v q) (n + 1) i), (0, q + 1), (0, 16)] [] S I := by
      intro u hu e
      rw [E300_54, m_flag hu]
      simp only [Option.bind_some, psh_i]
      rw [E300_57, ih (i + 1) _ (by omega) (by omega) (by omega), sm_succ, e, Int.add_assoc]
    rw [E300_33 hM]
    by_cases g : fpB C ρ hk hv m q i = true
    · obtain ⟨c0, c1, c2⟩ := fpB_c g
      have e : nV C ρ hk hv m k v q i = if prp ρ q i k = v then 1 else 0 := by unfold nV; rw [if_pos g]
      rw [if_pos g, if_neg (by decide), m_isSo (d := d + 1) hM hI hw hB hN q0 (by omega) ⟨by omega, by omega⟩ c2 k0 k1 hv0]
      simp only [Option.bind_some, psh_i]
      rw [E300_46, E300_53]
      by_cases g2 : prp ρ q i k = v
      · rw [if_pos g2, if_neg (by decide)]
        exact fin 1 (Or.inr rfl) (by rw [e, if_pos g2])
      · rw [if_neg g2, if_pos (by decide)]
        exact fin 0 (Or.inl rfl) (by rw [e, if_neg g2])
    · rw [if_neg g, if_pos (by decide), E300_53]
      exact fin 0 (Or.inl rfl) (by unfold nV; rw [if_neg g])
theorem m_so2 (hM : MA S 427) (hI : I 438 = ρ) (hw : WF C ρ) (hkC : okC C) (hn : I 427 14 = C.1) (hB : BdN N ρ) (hN : N < 1073741824) (hh : mHs I m hk hv) (k0 : 0 ≤ k) (k1 : k < 4) (hv0 : isI v) : ∀ (n : Nat) (q x : Int) (a5 : AV), 0 ≤ q → q ≤ C.1 → n = (C.1 - q).toNat → ev (d + 6) 300 5 [(2, 427), (0, k), (0, v), (0, x), (0, q), a5] [] S I = some ((0, x + sm (fun q => sm (nV C ρ hk hv m k v q) 16 0) n q), S, I) := by
  have hn5 := hkC.2.1
  intro n
  induction n with
  | zero =>
    intro q x a5 q0 q1 hn'
    rw [E300_5 hM, w_small (z := q) (by omega) (by omega), hn, w_small (z := C.1) (by omega) (by omega), if_neg (by omega)]
    simp [sm]
  | succ n ih =>
    intro q x a5 q0 q1 hn'
    rw [E300_5 hM, w_small (z := q) (by omega) (by omega), hn, w_small (z := C.1) (by omega) (by omega), if_pos (by omega), m_so1 hM hI hw hkC hB hN q0 (by omega) hh k0 k1 hv0 16 0 x (by decide) (by decide) (by decide), ih (q + 1) _ _ (by omega) (by omega) (by omega), sm_succ (fun q => sm (nV C ρ hk hv m k v q) 16 0) n q, Int.add_assoc]
theorem m_so (hM : MA S 427) (hI : I 438 = ρ) (hw : WF C ρ) (hkC : okC C) (hn : I 427 14 = C.1) (hB : BdN N ρ) (hN : N < 1073741824) (hh : mHs I m hk hv) (k0 : 0 ≤ k) (k1 : k < 4) (hv0 : isI v) : ev (d + 6) 300 0 [(2, 427), (0, k), (0, v), uU, uU, uU] [] S I = some ((0, tV C ρ hk hv m k v), S, I) := by
  have hn0 := hkC.1
  have hn5 := hkC.2.1
  rw [E300_0, m_so2 hM hI hw hkC hn hB hN hh k0 k1 hv0 (C.1 - 0).toNat 0 0 uU (by decide) hn0 rfl, Int.zero_add]
  unfold tV
  rw [sm_cut (M := C.1) (fun q hq => sm_zero _ _ (fun i _ _ => nV_out hq)) 5 0 (by omega)]
theorem m_ask1 (hM : MA S 427) (hI : I 438 = ρ) (hw : WF C ρ) (hkC : okC C) (hn : I 427 14 = C.1) (hB : BdN N ρ) (hN : N < 1073741824) (hh : mHs I m hk hv) (k0 : 0 ≤ k) (k1 : k < 4) : ∀ (n : Nat) (v : Int) (s : Int × Int) (a6 a7 : AV), 0 ≤ v → v ≤ wrt k → n = (wrt k - v).toNat → 0 ≤ s.2 → s.2 ≤ 1000000 →
    ∃ b6 b7, ev (d + 7) 299 74 [(2, 427), (0, tA C ρ hk hv m), (0, s.1), (0, s.2), (0, k), (0, v), a6, a7] [] S I = ev (d + 7) 299 65 [(2, 427), (0, tA C ρ hk hv m), (0, (bsV (fun v => mxV (tA C ρ hk hv m) (tV C ρ hk hv m k v)) k n v s).1), (0, (bsV (fun v => mxV (tA C ρ hk hv m) (tV C ρ hk hv m k v)) k n v s).2), (0, k + 1), (0, wrt k), b6, b7] [] S I ∧ 0 ≤ (bsV (fun v => mxV (tA C ρ hk hv m) (tV C ρ hk hv m k v)) k n v s).2 ∧ (bsV (fun v => mxV (tA C ρ hk hv m) (tV C ρ hk hv m k v)) k n v s).2 ≤ 1000000 := by
  have hb := wrt_b k
  have ab := tA_b C ρ hk hv m
  intro n
  induction n with
  | zero =>
    intro v s a6 a7 v0 v1 hn' b0 b1
    have : v = wrt k := by omega
    subst this
    refine ⟨a6, a7, ?_, b0, b1⟩
    rw [E299_74, m_highest k0 k1]
    simp only [Option.bind_some, psh_i]
    rw [E299_81 hM, w_small (z := wrt k) (by omega) (by omega), w_small (z := wrt k - 1) (by omega) (by omega), if_pos (by omega)]
    rfl
  | succ n ih =>
    intro v s a6 a7 v0 v1 hn' b0 b1
    have tb := tV_b C ρ hk hv m k v
    have mb := mxV_b tb.1 tb.2 ab.2
    have eu : bsV (fun v => mxV (tA C ρ hk hv m) (tV C ρ hk hv m k v)) k (n + 1) v s = bsV (fun v => mxV (tA C ρ hk hv m) (tV C ρ hk hv m k v)) k n (v + 1) (bsS (fun v => mxV (tA C ρ hk hv m) (tV C ρ hk hv m k v)) k v s) := rfl
    rw [eu, E299_74, m_highest k0 k1]
    simp only [Option.bind_some, psh_i]
    rw [E299_81 hM, w_small (z := v) (by omega) (by omega), w_small (z := wrt k - 1) (by omega) (by omega), if_neg (by omega), m_so hM hI hw hkC hn hB hN hh k0 k1 ⟨by omega, by omega⟩]
    simp only [Option.bind_some, psh_i]
    rw [E299_92, mxV_w tb.1 tb.2 ab.2, w_small (z := s.2) (by omega) (by omega), E299_123, E299_123, w_small (z := s.2) (by omega) (by omega), w_small (z := mxV (tA C ρ hk hv m) (tV C ρ hk hv m k v)) (by omega) (by omega)]
    by_cases g : mxV (tA C ρ hk hv m) (tV C ρ hk hv m k v) < s.2
    · have e : bsS (fun v => mxV (tA C ρ hk hv m) (tV C ρ hk hv m k v)) k v s = (10 * k + v, mxV (tA C ρ hk hv m) (tV C ρ hk hv m k v)) := by unfold bsS; rw [if_pos g]
      rw [e, if_pos g, if_pos g]
      exact ih (v + 1) (10 * k + v, mxV (tA C ρ hk hv m) (tV C ρ hk hv m k v)) _ _ (by omega) (by omega) (by omega) mb.1 (by show mxV _ _ ≤ _; omega)
    · have e : bsS (fun v => mxV (tA C ρ hk hv m) (tV C ρ hk hv m k v)) k v s = s := by unfold bsS; rw [if_neg g]
      rw [e, if_neg g, if_neg g]
      exact ih (v + 1) s _ _ (by omega) (by omega) (by omega) b0 b1
theorem m_ask2 (hM : MA S 427) (hI : I 438 = ρ) (hw : WF C ρ) (hkC : okC C) (hn : I 427 14 = C.1) (hB : BdN N ρ) (hN : N < 1073741824) (hh : mHs I m hk hv) : ∀ (n : Nat) (k : Int) (s : Int × Int) (a5 a6 a7 : AV), 0 ≤ k → k ≤ 4 → n = (4 - k).toNat → 0 ≤ s.2 → s.2 ≤ 1000000 →
    ∃ K, ev (d + 7) 299 65 [(2, 427), (0, tA C ρ hk hv m), (0, s.1), (0, s.2), (0, k), a5, a6, a7] [] S I = some ((0, (bsK (fun k v => mxV (tA C ρ hk hv m) (tV C ρ hk hv m k v)) n k s).1), S, K) ∧ MF I K ∧ MD K 1 (updR (fun _ => 0) 0 (bsK (fun k v => mxV (tA C ρ hk hv m) (tV C ρ hk hv m k v)) n k s).2) := by
  intro n
  induction n with
  | zero =>
    intro k s a5 a6 a7 k0 k1 hn' b0 b1
    obtain ⟨A, a1, a2, a3⟩ := m_next (d := d + 6) (S := S) (I := up2 I 427 1 0) (g := updR (fun _ => 0) 0 s.2) (n := 0) (x := s.2) hM MD_0 (by decide) (by decide) (by rw [updR_hit rfl])
    refine ⟨A, ?_, MF_trans MF_0 a3, a2⟩
    rw [E299_65 hM, w_small (z := k) (by omega) (by omega), if_neg (by omega), w_small (z := s.2) (by omega) (by omega), a1]
    simp only [Option.bind_some, psh_u]
    rw [E299_154]
    rfl
  | succ n ih =>
    intro k s a5 a6 a7 k0 k1 hn' b0 b1
    obtain ⟨b6, b7, y1, y2, y3⟩ := m_ask1 (d := d) hM hI hw hkC hn hB hN hh k0 (by omega : k < 4) (wrt k).toNat 0 s a6 a7 (by decide) (wrt_b k).1 (by rw [Int.sub_zero]) b0 b1
    rw [E299_65 hM, w_small (z := k) (by omega) (by omega), if_pos (by omega), y1]
    exact ih (k + 1) _ _ _ _ (by omega) (by omega) (by omega) y2 y3
theorem bsK_start {F : Int → Int → Int} (h : F 0 0 ≤ 80) : bsK F 4 0 (-1, 81) = bsK F 4 0 (-1, 1000000) := by
  have e : ∀ z : Int, 80 < z → bsK F 4 0 (-1, z) = bsK F 3 1 (bsV (F 0) 0 4 1 (0, F 0 0)) := by
    intro z hz
    show bsK F 3 1 (bsV (F 0) 0 4 1 (bsS (F 0) 0 0 (-1, z))) = _
    have : bsS (F 0) 0 0 (-1, z) = (0, F 0 0) := by unfold bsS; rw [if_pos (by show F 0 0 < z; omega)]; rfl
    rw [this]
  rw [e 81 (by decide), e 1000000 (by decide)]
theorem call_asks (hS : SH S) (h : ST N I) (hN : N < 70000000) : ∃ r T I1 I2, ev (d + 100) 179 0 [(2, 0)] [] S I = some ((0, r), T, I1) ∧ ev (d + 100) 299 0 [(2, 427), uU, uU, uU, uU, uU, uU, uU] [] T I1 = some ((0, r), T, I2) ∧ ST (N + 100000) I2 ∧ SE S T ∧ T.1 ≤ S.1 + 4 ∧ T.2.1 ≤ S.2.1 + 40 := by
  have hS0 := hS
  have s455 := SH_454 hS
  obtain ⟨hQ, hM⟩ := hS
  have hk := h.2.2.2.1.1
  have hn0 := hk.1
  have hn5 := hk.2.1
  have hD := h.2.2.2.1.2
  have hB := h.2.2.2.2.2.2.2.1
  have ab := tA_b (cfM I) (I 438) (I 425) (I 426) (I 424 2)
  have e1 := E179_0 (d := d + 99) (I := I) hQ
  have ref : ∀ (T : SS) (K : II), SE S T → (∀ y, y < 455 → y ≠ 3 → y ≠ 4 → K y = I y) → ∃ b3, ev (d + 100) 299 0 [(2, 427), uU, uU, uU, uU, uU, uU, uU] [] T K = (if tA (cfM I) (I 438) (I 425) (I 426) (I 424 2) = 0 then some ((0, -2), T, up2 K 427 0 0) else ev (d + 100) 299 65 [(2, 427), (0, tA (cfM I) (I 438) (I 425) (I 426) (I 424 2)), (0, -1), (0, 1000000), (0, 0), b3, uU, uU] [] T (up2 K 427 0 0)) := by
    intro T K hE hK
    have hT := SH_ext hE hS0
    have zo : ∀ x, 4 < x → x < 455 → x ≠ 427 → up2 K 427 0 0 x = I x := fun x hx hx2 x0 => by rw [up2_oth x0, hK x hx2 (by omega) (by omega)]
    have z7 : ∀ k, k ≠ 0 → up2 K 427 0 0 427 k = I 427 k := fun k k0 => by rw [up2_miss (by omega), hK 427 (by decide) (by decide) (by decide)]
    obtain ⟨b3, e⟩ := m_all2 (d := d + 94) (S := T) (C := cfM I) (I := up2 K 427 0 0) (ρ := I 438) (N := N) hT.2 (zo 438 (by decide) (by decide) (by decide)) hD.2.1 hk (z7 14 (by decide)) hB (by omega) (mHs_of (mHs_ST h) (z7 36 (by decide)) (zo 448 (by decide) (by decide) (by decide)) (zo 449 (by decide) (by decide) (by decide))) ((cfM I).1 - 0).toNat 0 0 uU (by decide) hn0 rfl
    have ec : (0 : Int) + sm (fun q => sm (nA (cfM I) (I 438) (I 425) (I 426) (I 424 2) q) 16 0) ((cfM I).1 - 0).toNat 0 = tA (cfM I) (I 438) (I 425) (I 426) (I 424 2) := by
      rw [Int.zero_add]
      unfold tA
      rw [sm_cut (M := (cfM I).1) (fun q hq => sm_zero _ _ (fun i _ _ => nA_out hq)) 5 0 (by omega)]
    rw [ec] at e
    have e14 : up2 K 427 0 0 427 14 = (cfM I).1 := z7 14 (by decide)
    refine ⟨uU, ?_⟩
    rw [E299_0 hT.2, e, E299_9 hT.2, e14, if_neg (by omega), w_small (z := tA (cfM I) (I 438) (I 425) (I 426) (I 424 2)) (by omega) (by omega)]
  by_cases g : tA (cfM I) (I 438) (I 425) (I 426) (I 424 2) = 0
  · obtain ⟨K, k1, k2⟩ := c_ask_none (d := d + 91) hS0 hD.1 hD.2.1 hk hB (by omega) (cHs_ST h) g
    rw [k1] at e1
    simp only [Option.bind_some, psh_i] at e1
    rw [E179_15] at e1
    obtain ⟨b3, r1⟩ := ref (newS S 20 10) K SE_new (fun y hy _ _ => k2 y hy)
    rw [if_pos g] at r1
    refine ⟨-2, _, K, _, e1, r1, ?_, SE_new, by show S.1 + 1 ≤ _; omega, by show S.2.1 + 10 ≤ _; omega⟩
    exact rd_ST h (fun x x0 _ _ _ _ _ _ => by rw [up2_oth (by omega), k2 x (by omega)]) (fun k hk => by rw [up2_miss (by omega), k2 427 (by decide)]) (fun x hx => by rw [up2_oth (by omega), k2 x (by omega)]) (cR_mem h.2.1 (by rw [up2_oth (by decide), k2 3 (by decide)]) (by rw [up2_oth (by decide), k2 4 (by decide)]) (by rw [up2_oth (by decide), k2 428 (by decide)]) (by rw [up2_miss (by decide), k2 427 (by decide)])) (by rw [up2_oth (by decide), k2 439 (by decide)]; exact BdN_le h.2.2.2.2.2.2.2.2.1 (by omega))
  · obtain ⟨U, K, k1, k2, k3, k4, k5, k6, k7, k8⟩ := c_ask2 (d := d + 91) (S := S) hS0 hD.1 hD.2.1 hk hB (by omega) (cHs_ST h) g 4 0 (-1, 81) S I uU uU uU uU SE_refl (fun _ _ => rfl) (by omega) (by omega) (by decide) (by decide) (by decide) (by decide) (by decide)
    rw [E72_0, k1] at e1
    simp only [Option.bind_some, psh_i] at e1
    rw [E179_15] at e1
    obtain ⟨b3, r1⟩ := ref U K k2 k3
    rw [if_neg g] at r1
    have hU := SH_ext k2 hS0
    have zo : ∀ x, 4 < x → x < 455 → x ≠ 427 → up2 K 427 0 0 x = I x := fun x hx hx2 x0 => by rw [up2_oth x0, k3 x hx2 (by omega) (by omega)]
    have z7 : ∀ k, k ≠ 0 → up2 K 427 0 0 427 k = I 427 k := fun k k0 => by rw [up2_miss (by omega), k3 427 (by decide) (by decide) (by decide)]
    obtain ⟨Y, y1, y2, y3⟩ := m_ask2 (d := d + 93) (S := U) (C := cfM I) (I := up2 K 427 0 0) (ρ := I 438) (N := N) hU.2 (zo 438 (by decide) (by decide) (by decide)) hD.2.1 hk (z7 14 (by decide)) hB (by omega) (mHs_of (mHs_ST h) (z7 36 (by decide)) (zo 448 (by decide) (by decide) (by decide)) (zo 449 (by decide) (by decide) (by decide))) 4 0 (-1, 1000000) b3 uU uU (by decide) (by decide) (by decide) (by decide) (by decide)
    rw [y1] at r1
    have tb := tV_b (cfM I) (I 438) (I 425) (I 426) (I 424 2) 0 0
    have eb := bsK_start (F := fun k v => mxV (tA (cfM I) (I 438) (I 425) (I 426) (I 424 2)) (tV (cfM I) (I 438) (I 425) (I 426) (I 424 2) k v)) (mxV_b tb.1 tb.2 ab.2).2
    rw [← eb] at r1 y3
    refine ⟨_, U, K, Y, e1, r1, ?_, k2, by omega, by omega⟩
    exact rd_ST h (fun x x0 x1 x2 _ _ _ _ => by rw [y2.2 x (by omega) (by omega), up2_oth (by omega), k3 x (by omega) x1 x2]) (fun k hk => by rw [y2.1 k (by omega), z7 k (by omega)]) (fun x hx => by rw [y2.2 x (by omega) (by omega), zo x (by omega) (by omega) (by omega)]) (cR_of (TD_congr k6 (by rw [y2.2 3 (by decide) (by decide), up2_oth (by decide)]) (by rw [y2.2 4 (by decide) (by decide), up2_oth (by decide)])) y3 (by decide) (by decide)) (by rw [y2.2 439 (by decide) (by decide), up2_oth (by decide), k3 439 (by decide) (by decide) (by decide)]; exact BdN_le h.2.2.2.2.2.2.2.2.1 (by omega))
end ra01
