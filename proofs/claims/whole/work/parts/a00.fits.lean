/-! fits -/
def fpB (C : CF) (ρ hk hv : RW) (m q id : Int) : Bool := decide ((0 ≤ q ∧ q < C.1) ∧ fitb ρ hk hv m q id = true)
def scS (p : Int → Bool) (q i : Int) (s : Int × Int × Int) : Int × Int × Int := if p i = true then (s.1 + 1, if s.1 = 0 then (q, i) else s.2) else s
def scI (p : Int → Bool) (q : Int) : Nat → Int → Int × Int × Int → Int × Int × Int
  | 0, _, s => s
  | n + 1, i, s => scI p q n (i + 1) (scS p q i s)
def scQ (P : Int → Int → Bool) : Nat → Int → Int × Int × Int → Int × Int × Int
  | 0, _, s => s
  | n + 1, q, s => scQ P n (q + 1) (scI (P q) q 16 0 s)
def rwN (s : Int × Int × Int) : Int := if s.1 = 0 then 0 else 2
def rwF (s : Int × Int × Int) : RW := updR (updR (fun _ => 0) 0 s.2.1) 1 s.2.2
section ra00
variable {d : Nat} {S T : SS} {I J K G I2 : II} {C : CF} {ρ σ hk hv : RW} {a b q k v j m id N i : Int} {s : Int × Int × Int} {p : Int → Bool} {P : Int → Int → Bool}
theorem scS_t (h : p i = true) : scS p q i s = (s.1 + 1, if s.1 = 0 then (q, i) else s.2) := by unfold scS; rw [if_pos h]
theorem scS_f (h : ¬ p i = true) : scS p q i s = s := by unfold scS; rw [if_neg h]
theorem scI_f (h : ∀ i, ¬ p i = true) : ∀ (n : Nat) (i : Int) (s : Int × Int × Int), scI p q n i s = s := by
  intro n
  induction n with
  | zero => intro i s; rfl
  | succ n ih => intro i s; unfold scI; rw [scS_f (h i)]; exact ih _ _
theorem scQ_f : ∀ (n : Nat) (q : Int) (s : Int × Int × Int), (∀ x i, q ≤ x → ¬ P x i = true) → scQ P n q s = s := by
  intro n
  induction n with
  | zero => intro q s _; rfl
  | succ n ih => intro q s h; unfold scQ; rw [scI_f (fun i => h q i (Int.le_refl _))]; exact ih _ _ (fun x i hx => h x i (by omega))
theorem scQ_cut {M : Int} (hP : ∀ x i, M ≤ x → ¬ P x i = true) : ∀ (n : Nat) (q : Int) (s : Int × Int × Int), M ≤ q + n → scQ P n q s = scQ P (M - q).toNat q s := by
  intro n
  induction n with
  | zero => intro q s h; rw [show (M - q).toNat = 0 by omega]
  | succ n ih =>
    intro q s h
    by_cases g : M ≤ q
    · rw [show (M - q).toNat = 0 by omega, scQ_f (n + 1) q s (fun x i hx => hP x i (by omega))]; rfl
    · rw [show (M - q).toNat = (M - (q + 1)).toNat + 1 by omega]
      unfold scQ
      exact ih _ _ (by omega)
theorem fpB_iff : fpB C ρ hk hv m q id = true ↔ (0 ≤ q ∧ q < C.1) ∧ fitb ρ hk hv m q id = true := by unfold fpB; rw [decide_eq_true_eq]
theorem c_fb (hQ : QA S 0) (h : RelD C I 5 ρ) (hw : WF C ρ) (hkC : okC C) (hB : BdN N ρ) (hN : N < 1073741824) (hq : isI q) (hid : isI id) (hh : cHs I m hk hv) : ev (d + 5) 70 0 [(2, 424), (2, 5), (0, q), (0, id), uU] [] S I = some ((0, if fpB C ρ hk hv m q id = true then 1 else 0), S, I) := by
  rw [c_fit hQ h hw hkC hB hN hq hid hh]
  by_cases g : (0 ≤ q ∧ q < C.1) ∧ fitb ρ hk hv m q id = true
  · rw [if_pos g, if_pos (fpB_iff.mpr g)]
  · rw [if_neg g, if_neg (fun x => g (fpB_iff.mp x))]
theorem m_fb (hM : MA S 427) (hI : I 438 = ρ) (hw : WF C ρ) (hkC : okC C) (hB : BdN N ρ) (hN : N < 1073741824) (h0 : 0 ≤ q) (h1 : q < C.1) (hid : isI id) (hh : mHs I m hk hv) : ev (d + 5) 296 0 [(2, 427), (0, q), (0, id), uU, uU] [] S I = some ((0, if fpB C ρ hk hv m q id = true then 1 else 0), S, I) := by
  have hn5 := hkC.2.1
  rw [m_fit hM hI hw hB hN h0 (by omega) hid hh]
  by_cases g : fitb ρ hk hv m q id = true
  · rw [if_pos g, if_pos (fpB_iff.mpr ⟨⟨h0, h1⟩, g⟩)]
  · rw [if_neg g, if_neg (fun x => g (fpB_iff.mp x).2)]
theorem cHs_of (h : cHs I m hk hv) (h1 : J 424 = I 424) (h2 : J 425 = I 425) (h3 : J 426 = I 426) : cHs J m hk hv := by unfold cHs at *; rw [h1, h2, h3]; exact h
theorem mHs_of (h : mHs I m hk hv) (h1 : J 427 36 = I 427 36) (h2 : J 448 = I 448) (h3 : J 449 = I 449) : mHs J m hk hv := by unfold mHs at *; rw [h1, h2, h3]; exact h
theorem c_fits1 (hQ : QA S 0) (h : RelD C I 5 ρ) (hw : WF C ρ) (hkC : okC C) (hB : BdN N ρ) (hN : N < 1073741824) (q0 : 0 ≤ q) (q1 : q < 5) (hh : cHs I m hk hv) : ∀ (n : Nat) (i : Int) (s : Int × Int × Int) (J : II), TF I J → TD J (rwN s) (rwF s) → 0 ≤ i → i ≤ 16 → n = (16 - i).toNat → 0 ≤ s.1 → s.1 ≤ 16 * q + i →
    ∃ K, ev (d + 6) 69 18 [(2, 424), (2, 5), (2, 3), (0, s.1), (0, q), (0, i)] [] S J = ev (d + 6) 69 9 [(2, 424), (2, 5), (2, 3), (0, (scI (fpB C ρ hk hv m q) q n i s).1), (0, q + 1), (0, 16)] [] S K ∧ TF I K ∧ TD K (rwN (scI (fpB C ρ hk hv m q) q n i s)) (rwF (scI (fpB C ρ hk hv m q) q n i s)) ∧ 0 ≤ (scI (fpB C ρ hk hv m q) q n i s).1 ∧ (scI (fpB C ρ hk hv m q) q n i s).1 ≤ 16 * (q + 1) := by
  intro n
  induction n with
  | zero =>
    intro i s J ht hp i0 i1 hn b0 b1
    have : i = 16 := by omega
    subst this
    refine ⟨J, ?_, ht, hp, b0, by show s.1 ≤ _; omega⟩
    rw [E69_18 (HA424 hQ), if_neg (by decide)]
    rfl
  | succ n ih =>
    intro i s J ht hp i0 i1 hn b0 b1
    have cf := c_fb (d := d) (S := S) (I := J) hQ (RelD_mem h hw.1 (fun x x0 x1 => TF_hi ht (by omega))) hw hkC hB hN (q := q) (id := i) ⟨by omega, by omega⟩ ⟨by omega, by omega⟩ (cHs_of hh (TF_hi ht (by decide)) (TF_hi ht (by decide)) (TF_hi ht (by decide)))
    rw [E69_18 (HA424 hQ), w_small (z := i) (by omega) (by omega), if_pos (by omega), cf]
    simp only [Option.bind_some, psh_i]
    have eu : scI (fpB C ρ hk hv m q) q (n + 1) i s = scI (fpB C ρ hk hv m q) q n (i + 1) (scS (fpB C ρ hk hv m q) q i s) := rfl
    rw [eu]
    by_cases g : fpB C ρ hk hv m q i = true
    · rw [scS_t g, if_pos g, E69_34 (RA3 hQ), if_neg (by decide), w_small (z := s.1 + 1) (by omega) (by omega)]
      by_cases g1 : s.1 = 0
      · obtain ⟨A, a1, a2, a3⟩ := c_tell2 (d := d + 3) (S := S) (I := J) (x := q) (y := i) (RA3 hQ)
        rw [if_pos (show s.1 + 1 = 1 by omega), w_small (z := q) (by omega) (by omega), w_small (z := i) (by omega) (by omega), a1]
        simp only [Option.bind_some, psh_u]
        rw [E69_55, if_pos g1]
        obtain ⟨K, k1, k2, k3, k4, k5⟩ := ih (i + 1) (s.1 + 1, (q, i)) A (TF_trans ht a3) (by
          rw [show rwN (s.1 + 1, q, i) = 2 by unfold rwN; rw [if_neg (by show ¬ s.1 + 1 = 0; omega)]]
          exact a2) (by omega) (by omega) (by omega) (by show 0 ≤ s.1 + 1; omega) (by show s.1 + 1 ≤ _; omega)
        exact ⟨K, k1, k2, k3, k4, k5⟩
      · rw [if_neg (show ¬ s.1 + 1 = 1 by omega), E69_55, if_neg g1]
        obtain ⟨K, k1, k2, k3, k4, k5⟩ := ih (i + 1) (s.1 + 1, s.2) J ht (by
          have e : rwN (s.1 + 1, s.2) = rwN s := by unfold rwN; rw [if_neg g1, if_neg (by show ¬ s.1 + 1 = 0; omega)]
          rw [e]; exact hp) (by omega) (by omega) (by omega) (by show 0 ≤ s.1 + 1; omega) (by show s.1 + 1 ≤ _; omega)
        exact ⟨K, k1, k2, k3, k4, k5⟩
    · rw [scS_f g, if_neg g, E69_34 (RA3 hQ), if_pos (by decide), E69_55]
      exact ih (i + 1) s J ht hp (by omega) (by omega) (by omega) b0 (by omega)
theorem c_fits2 (hQ : QA S 0) (h : RelD C I 5 ρ) (hw : WF C ρ) (hkC : okC C) (hB : BdN N ρ) (hN : N < 1073741824) (hh : cHs I m hk hv) : ∀ (n : Nat) (q : Int) (s : Int × Int × Int) (J : II) (a5 : AV), TF I J → TD J (rwN s) (rwF s) → 0 ≤ q → q ≤ 5 → n = (5 - q).toNat → 0 ≤ s.1 → s.1 ≤ 16 * q →
    ∃ K, ev (d + 6) 69 9 [(2, 424), (2, 5), (2, 3), (0, s.1), (0, q), a5] [] S J = some ((0, (scQ (fpB C ρ hk hv m) n q s).1), S, K) ∧ TF I K ∧ TD K (rwN (scQ (fpB C ρ hk hv m) n q s)) (rwF (scQ (fpB C ρ hk hv m) n q s)) := by
  intro n
  induction n with
  | zero =>
    intro q s J a5 ht hp q0 q1 hn b0 b1
    refine ⟨J, ?_, ht, hp⟩
    rw [E69_9, w_small (z := q) (by omega) (by omega), if_neg (by omega)]
    rfl
  | succ n ih =>
    intro q s J a5 ht hp q0 q1 hn b0 b1
    obtain ⟨K, k1, k2, k3, k4, k5⟩ := c_fits1 (d := d) (S := S) hQ h hw hkC hB hN q0 (by omega : q < 5) hh 16 0 s J ht hp (by decide) (by decide) (by decide) b0 (by omega)
    rw [E69_9, w_small (z := q) (by omega) (by omega), if_pos (by omega), k1]
    exact ih (q + 1) _ K _ k2 k3 (by omega) (by omega) (by omega) k4 k5
theorem m_fits1 (hM : MA S 427) (hI : I 438 = ρ) (hw : WF C ρ) (hkC : okC C) (hB : BdN N ρ) (hN : N < 1073741824) (q0 : 0 ≤ q) (q1 : q < C.1) (hh : mHs I m hk hv) : ∀ (n : Nat) (i : Int) (s : Int × Int × Int) (J : II) (a4 : AV), MF I J → MD J (rwN s) (rwF s) → 0 ≤ i → i ≤ 16 → n = (16 - i).toNat → 0 ≤ s.1 → s.1 ≤ 16 * q + i →
    ∃ K b4, ev (d + 6) 295 24 [(2, 427), (0, s.1), (0, q), (0, i), a4] [] S J = ev (d + 6) 295 14 [(2, 427), (0, (scI (fpB C ρ hk hv m q) q n i s).1), (0, q + 1), (0, 16), b4] [] S K ∧ MF I K ∧ MD K (rwN (scI (fpB C ρ hk hv m q) q n i s)) (rwF (scI (fpB C ρ hk hv m q) q n i s)) ∧ 0 ≤ (scI (fpB C ρ hk hv m q) q n i s).1 ∧ (scI (fpB C ρ hk hv m q) q n i s).1 ≤ 16 * (q + 1) := by
  have hn5 := hkC.2.1
  intro n
  induction n with
  | zero =>
    intro i s J a4 ht hp i0 i1 hn b0 b1
    have : i = 16 := by omega
    subst this
    refine ⟨J, a4, ?_, ht, hp, b0, by show s.1 ≤ _; omega⟩
    rw [E295_24 hM, if_neg (by decide)]
    rfl
  | succ n ih =>
    intro i s J a4 ht hp i0 i1 hn b0 b1
    have cf := m_fb (d := d) (S := S) (I := J) hM (by rw [ht.2 438 (by decide) (by decide), hI]) hw hkC hB hN (q := q) (id := i) q0 q1 ⟨by omega, by omega⟩ (mHs_of hh (ht.1 36 (by decide)) (ht.2 448 (by decide) (by decide)) (ht.2 449 (by decide) (by decide)))
    rw [E295_24 hM, w_small (z := i) (by omega) (by omega), if_pos (by omega), cf]
    simp only [Option.bind_some, psh_i]
    have eu : scI (fpB C ρ hk hv m q) q (n + 1) i s = scI (fpB C ρ hk hv m q) q n (i + 1) (scS (fpB C ρ hk hv m q) q i s) := rfl
    rw [eu]
    by_cases g : fpB C ρ hk hv m q i = true
    · rw [scS_t g, if_pos g, E295_36 hM, if_neg (by decide), w_small (z := s.1) (by omega) (by omega)]
      by_cases g1 : s.1 = 0
      · have rf0 : rwF (s.1 + 1, q, i) 0 = q := rfl
        have rf1 : rwF (s.1 + 1, q, i) (0 + 1) = i := rfl
        have hp0 : MD J 0 (rwF (s.1 + 1, q, i)) := by
          have e : rwN s = 0 := by unfold rwN; rw [if_pos g1]
          rw [e] at hp
          exact ⟨hp.1, fun j j0 j1 => by omega⟩
        obtain ⟨A, a1, a2, a3⟩ := m_next (d := d + 5) (S := S) (x := q) hM hp0 (by decide) (by decide) rf0.symm
        obtain ⟨B, b1', b2, b3⟩ := m_next (d := d + 5) (S := S) (x := i) hM a2 (by decide) (by decide) rf1.symm
        rw [if_pos g1, w_small (z := q) (by omega) (by omega), a1]
        simp only [Option.bind_some, psh_u]
        rw [E295_53 hM, w_small (z := i) (by omega) (by omega), b1']
        simp only [Option.bind_some, psh_u]
        rw [E295_59, m_flag (Or.inr rfl)]
        simp only [Option.bind_some, psh_i]
        rw [E295_65, if_pos g1]
        obtain ⟨K, b4, k1, k2, k3, k4, k5⟩ := ih (i + 1) (s.1 + 1, (q, i)) B (0, 1) (MF_trans ht (MF_trans a3 b3)) (by
          rw [show rwN (s.1 + 1, q, i) = 0 + 1 + 1 by unfold rwN; rw [if_neg (by show ¬ s.1 + 1 = 0; omega)]; rfl]
          exact b2) (by omega) (by omega) (by omega) (by show 0 ≤ s.1 + 1; omega) (by show s.1 + 1 ≤ _; omega)
        exact ⟨K, b4, k1, k2, k3, k4, k5⟩
      · rw [if_neg g1, E295_59, m_flag (Or.inr rfl)]
        simp only [Option.bind_some, psh_i]
        rw [E295_65, if_neg g1]
        obtain ⟨K, b4, k1, k2, k3, k4, k5⟩ := ih (i + 1) (s.1 + 1, s.2) J (0, 1) ht (by
          have e : rwN (s.1 + 1, s.2) = rwN s := by unfold rwN; rw [if_neg g1, if_neg (by show ¬ s.1 + 1 = 0; omega)]
          rw [e]; exact hp) (by omega) (by omega) (by omega) (by show 0 ≤ s.1 + 1; omega) (by show s.1 + 1 ≤ _; omega)
        exact ⟨K, b4, k1, k2, k3, k4, k5⟩
    · rw [scS_f g, if_neg g, E295_36 hM, if_pos (by decide), E295_59, m_flag (Or.inl rfl)]
      simp only [Option.bind_some, psh_i]
      rw [E295_65, Int.add_zero]
      exact ih (i + 1) s J _ ht hp (by omega) (by omega) (by omega) b0 (by omega)
theorem m_fits2 (hM : MA S 427) (hI : I 438 = ρ) (hw : WF C ρ) (hkC : okC C) (hn : I 427 14 = C.1) (hB : BdN N ρ) (hN : N < 1073741824) (hh : mHs I m hk hv) : ∀ (n : Nat) (q : Int) (s : Int × Int × Int) (J : II) (a3 a4 : AV), MF I J → MD J (rwN s) (rwF s) → 0 ≤ q → q ≤ C.1 → n = (C.1 - q).toNat → 0 ≤ s.1 → s.1 ≤ 16 * q →
    ∃ K, ev (d + 6) 295 14 [(2, 427), (0, s.1), (0, q), a3, a4] [] S J = some ((0, (scQ (fpB C ρ hk hv m) n q s).1), S, K) ∧ MF I K ∧ MD K (rwN (scQ (fpB C ρ hk hv m) n q s)) (rwF (scQ (fpB C ρ hk hv m) n q s)) := by
  have hn5 := hkC.2.1
  intro n
  induction n with
  | zero =>
    intro q s J a3 a4 ht hp q0 q1 hn' b0 b1
    refine ⟨J, ?_, ht, hp⟩
    rw [E295_14 hM, w_small (z := q) (by omega) (by omega), ht.1 14 (by decide), hn, w_small (z := C.1) (by omega) (by omega), if_neg (by omega)]
    rfl
  | succ n ih =>
    intro q s J a3 a4 ht hp q0 q1 hn' b0 b1
    obtain ⟨K, b4, k1, k2, k3, k4, k5⟩ := m_fits1 (d := d) (S := S) hM hI hw hkC hB hN q0 (by omega : q < C.1) hh 16 0 s J a4 ht hp (by decide) (by decide) (by decide) b0 (by omega)
    rw [E295_14 hM, w_small (z := q) (by omega) (by omega), ht.1 14 (by decide), hn, w_small (z := C.1) (by omega) (by omega), if_pos (by omega), k1]
    exact ih (q + 1) _ K _ _ k2 k3 (by omega) (by omega) (by omega) k4 k5
theorem cHs_ST (h : ST N I) : cHs I (I 424 2) (I 425) (I 426) := by
  obtain ⟨t0, t1, t2, t3⟩ := h.2.2.1
  exact ⟨rfl, t0, t1, fun j j0 j1 => ⟨rfl, rfl, (t3 j j0 j1).2.2.1, (t3 j j0 j1).2.2.2.1, (t3 j j0 j1).2.2.2.2.1, (t3 j j0 j1).2.2.2.2.2⟩⟩
theorem mHs_ST (h : ST N I) : mHs I (I 424 2) (I 425) (I 426) := by
  obtain ⟨t0, t1, t2, t3⟩ := h.2.2.1
  exact ⟨t2, t0, t1, fun j j0 j1 => t3 j j0 j1⟩
theorem call_fits (hS : SH S) (h : ST N I) (hN : N < 70000000) : ∃ r I1 I2, ev (d + 100) 178 0 [(2, 0)] [] S I = some ((0, r), S, I1) ∧ ev (d + 100) 295 0 [(2, 427), uU, uU, uU, uU] [] S I1 = some ((0, r), S, I2) ∧ ST (N + 100000) I2 := by
  obtain ⟨hQ, hM⟩ := hS
  have hk := h.2.2.2.1.1
  have hn0 := hk.1
  have hn5 := hk.2.1
  have hD := h.2.2.2.1.2
  have hB := h.2.2.2.2.2.2.2.1
  obtain ⟨A, a1, a2, a3⟩ := c_tclr (d := d + 98) (S := S) (I := I) (RA3 hQ)
  have z0 : rwN ((0 : Int), (0 : Int), (0 : Int)) = 0 := rfl
  obtain ⟨K, k1, k2, k3⟩ := c_fits2 (d := d + 93) (S := S) hQ hD.1 hD.2.1 hk hB (by omega) (cHs_ST h) 5 0 (0, 0, 0) A uU a3 ⟨a2.1, fun j j0 j1 => by rw [z0] at j1; omega⟩ (by decide) (by decide) (by decide) (by decide) (by decide)
  have e1 := E178_0 (d := d + 99) (I := I) hQ
  rw [E69_0 (RA3 hQ), a1] at e1
  simp only [Option.bind_some, psh_u] at e1
  rw [E69_6, k1] at e1
  simp only [Option.bind_some, psh_i] at e1
  rw [E178_15] at e1
  have kh : ∀ x, 4 < x → K x = I x := fun x hx => TF_hi k2 hx
  generalize hZ : up2 (up2 K 427 0 0) 427 1 0 = Z
  have zo : ∀ x, 4 < x → x ≠ 427 → Z x = I x := fun x hx x0 => by rw [← hZ, up2_oth x0, up2_oth x0, kh x hx]
  have z7 : ∀ k, k ≠ 0 → k ≠ 1 → Z 427 k = I 427 k := fun k k0 k1 => by rw [← hZ, up2_miss (by omega), up2_miss (by omega), kh 427 (by decide)]
  obtain ⟨Y, y1, y2, y3⟩ := m_fits2 (d := d + 94) (S := S) (C := cfM I) (I := Z) (ρ := I 438) (N := N) hM (zo 438 (by decide) (by decide)) hD.2.1 hk (z7 14 (by decide) (by decide)) hB (by omega) (mHs_of (mHs_ST h) (z7 36 (by decide) (by decide)) (zo 448 (by decide) (by decide)) (zo 449 (by decide) (by decide))) ((cfM I).1 - 0).toNat 0 (0, 0, 0) Z uU uU MF_refl ⟨by rw [← hZ]; exact up2_hit rfl rfl, fun j j0 j1 => by rw [z0] at j1; omega⟩ (by decide) hn0 rfl (by decide) (by decide)
  have ec := scQ_cut (P := fpB (cfM I) (I 438) (I 425) (I 426) (I 424 2)) (M := (cfM I).1) (fun x i hx hp => by have := (fpB_iff.mp hp).1.2; omega) 5 0 (0, 0, 0) (by omega)
  rw [← ec] at y1 y3
  have nb : 0 ≤ rwN (scQ (fpB (cfM I) (I 438) (I 425) (I 426) (I 424 2)) 5 0 (0, 0, 0)) ∧ rwN (scQ (fpB (cfM I) (I 438) (I 425) (I 426) (I 424 2)) 5 0 (0, 0, 0)) ≤ 12 := by
    unfold rwN; split <;> omega
  refine ⟨_, K, Y, e1, ?_, tl_ST h k2 k3 (fun x x0 x1 => by rw [y2.2 x x0 x1, ← hZ, up2_oth x0, up2_oth x0]) (fun k k0 k1 => by rw [y2.1 k k1, ← hZ, up2_miss (by omega), up2_miss (by omega)]) y3 nb.1 nb.2⟩
  rw [E295_0 hM, hZ]
  exact y1
end ra00
