/-! resets: the row; how many are there -/
def zz (ρ : RW) (m : Int) : RW := fun j => if 0 ≤ j ∧ j < m then 0 else ρ j
def rsS (C : CF) (ρ : RW) : RW := fun j => if 0 ≤ j ∧ j < 89 * C.1 then 0 else if j = 493 ∨ j = 814 ∨ j = 818 ∨ 840 ≤ j ∧ j < 844 then 0 else if 819 ≤ j ∧ j < 822 then ρ (j - 4) else if 822 ≤ j ∧ j < 826 then 4 else ρ j
section r87
variable {d : Nat} {S : SS} {I J G I2 : II} {C : CF} {ρ σ : RW} {b q k r N : Int}
theorem sm_app (f : Int → Int) : ∀ (m n : Nat) (k : Int), sm f (m + n) k = sm f m k + sm f n (k + m) := by
  intro m
  induction m with
  | zero => intro n k; simp [sm]
  | succ m ih =>
    intro n k
    rw [show m + 1 + n = (m + n) + 1 by omega, sm_succ, sm_succ, ih n (k + 1), show k + 1 + (m : Int) = k + ((m + 1 : Nat) : Int) by omega]
    omega
theorem sm_sft (f : Int → Int) (c : Int) : ∀ (n : Nat) (k : Int), sm (fun j => f (c + j)) n k = sm f n (c + k) := by
  intro n
  induction n with
  | zero => intro k; rfl
  | succ n ih => intro k; rw [sm_succ, sm_succ, ih (k + 1), Int.add_assoc]
theorem cnt_hi (h : W0 C ρ) (hn : C.1 ≤ 5) {id : Int} (h0 : 0 ≤ q) (h1 : q < 5) (hq : C.1 ≤ q) (i0 : 0 ≤ id) (i1 : id < 16) : cnt ρ (16 * q + id) = 0 := by
  have e1 : quec ρ (16 * q + id) = 0 := by
    unfold quec
    refine sm_zero _ _ (fun q' g0 g1 => ?_)
    obtain ⟨c1, c2, c3⟩ := h.1 q' g0 (by omega)
    unfold cntsOK at c1
    have r0 : rngc ρ q' (16 * q + id) = 0 := by
      unfold rngc
      refine sm_zero _ _ (fun k k0 k1 => if_neg (fun e => ?_))
      have cm := c2 k k0 (by omega)
      unfold cmdOK at cm
      have : q' = q := by omega
      subst this
      omega
    have p0 : pstc ρ q' (16 * q + id) = 0 := by
      unfold pstc
      refine sm_zero _ _ (fun k k0 k1 => if_neg (fun e => ?_))
      have cm := c3 k k0 (by omega)
      have : q' = q := by omega
      subst this
      omega
    omega
  have e2 : runc ρ (16 * q + id) = 0 := by
    unfold runc
    refine sm_zero _ _ (fun k k0 k1 => ?_)
    have ro := h.2.1.2.2 k k0 (by omega)
    unfold run1OK at ro
    obtain ⟨o1, o2, o3, _, _, o6⟩ := ro
    unfold cmdOK at o3
    unfold run1c
    rw [if_neg (by omega), if_neg (fun e => ?_)]
    · rfl
    · rcases o6 with o6 | ⟨_, o6, _⟩
      · omega
      · unfold cmdOK at o6; omega
  have e3 : outc ρ (16 * q + id) = 0 := by
    unfold outc
    refine sm_zero _ _ (fun k k0 k1 => ?_)
    have ro := h.2.2.1.2.2 k k0 (by omega)
    unfold out1OK at ro
    unfold out1c
    exact if_neg (by omega)
  unfold cnt; omega
theorem usd_cnt (h : WF C ρ) (h0 : 0 ≤ q) (h1 : q < 5) : usd ρ q = sm (fun id => cnt ρ (16 * q + id)) 16 0 := by
  unfold usd
  refine sm_congr _ _ (fun id i0 i1 => ?_)
  have u := used_cnt h.1 h0 h1 i0 (by omega : id < 16)
  have c1 := h.2 (16 * q + id)
  have c0 : 0 ≤ cnt ρ (16 * q + id) := by
    have := quec_nn ρ (16 * q + id); have := runc_nn ρ (16 * q + id); have := outc_nn ρ (16 * q + id); unfold cnt; omega
  by_cases g : usedS ρ q id = true
  · have := u.mp g; rw [if_pos g]; omega
  · rw [if_neg g]
    have : ¬ 0 < cnt ρ (16 * q + id) := fun x => g (u.mpr x)
    omega
theorem quec_all (h : W0 C ρ) : sm (quec ρ) 80 0 = sm (fun q => (ρ (89 * q) - ρ (89 * q + 3)) + (ρ (89 * q + 5) - ρ (89 * q + 6))) 5 0 := by
  unfold quec
  rw [sm_swap (fun q z => rngc ρ q z + pstc ρ q z) 80 0]
  refine sm_congr _ _ (fun q q0 q1 => ?_)
  obtain ⟨c1, c2, c3⟩ := h.1 q q0 (by omega)
  unfold cntsOK at c1
  rw [sm_add]
  have e1 : sm (fun z => rngc ρ q z) 80 0 = ρ (89 * q) - ρ (89 * q + 3) := by
    unfold rngc
    rw [sm_swap (fun k z => if 16 * q + ρ (rAt q k) = z then 1 else 0) 80 0, sm_congr (g := fun _ => 1) _ _ (fun k h1 h2 => ?_), sm_const]
    · omega
    · have cm := c2 k h1 (by omega)
      unfold cmdOK at cm
      exact sm_ind 80 0 (by omega) (by omega)
  have e2 : sm (fun z => pstc ρ q z) 80 0 = ρ (89 * q + 5) - ρ (89 * q + 6) := by
    unfold pstc
    rw [sm_swap (fun k z => if 16 * q + ρ (pAt q k) = z then 1 else 0) 80 0, sm_congr (g := fun _ => 1) _ _ (fun k h1 h2 => ?_), sm_const]
    · omega
    · have cm := c3 k h1 (by omega)
      exact sm_ind 80 0 (by omega) (by omega)
  rw [e1, e2]
theorem usd_tot (h : WF C ρ) (hn0 : 0 ≤ C.1) (hn : C.1 ≤ 5) : sm (usd ρ) C.1.toNat 0 = sm (fun q => ρ (89 * q) - ρ (89 * q + 3)) C.1.toNat 0 + runm ρ + (ρ 814 + sm (fun q => ρ (89 * q + 5) - ρ (89 * q + 6)) C.1.toNat 0) := by
  have cut : ∀ f : Int → Int, (∀ q, C.1 ≤ q → q < 5 → f q = 0) → sm f 5 0 = sm f C.1.toNat 0 := by
    intro f hf
    have e := sm_app f C.1.toNat (5 - C.1.toNat) 0
    rw [show C.1.toNat + (5 - C.1.toNat) = 5 by omega, sm_zero (f := f) (5 - C.1.toNat) _ (fun j j0 j1 => hf j (by omega) (by omega))] at e
    omega
  have u0 : ∀ q, C.1 ≤ q → q < 5 → usd ρ q = 0 := fun q q0 q1 => by
    rw [usd_cnt h (by omega) q1]
    exact sm_zero _ _ (fun id i0 i1 => cnt_hi h.1 hn (by omega) q1 q0 i0 (by omega))
  have z0 : ∀ q, C.1 ≤ q → q < 5 → ρ (89 * q) - ρ (89 * q + 3) = 0 ∧ ρ (89 * q + 5) - ρ (89 * q + 6) = 0 := fun q q0 q1 => by
    have c := (h.1.1 q (by omega) q1).1
    unfold cntsOK at c
    omega
  rw [← cut (usd ρ) u0, ← cut (fun q => ρ (89 * q) - ρ (89 * q + 3)) (fun q q0 q1 => (z0 q q0 q1).1), ← cut (fun q => ρ (89 * q + 5) - ρ (89 * q + 6)) (fun q q0 q1 => (z0 q q0 q1).2)]
  have e1 : sm (usd ρ) 5 0 = sm (cnt ρ) 80 0 := by
    rw [sm_congr (g := fun q => sm (cnt ρ) 16 (16 * q)) 5 0 (fun q q0 q1 => by rw [usd_cnt h q0 (by omega), sm_sft (cnt ρ) (16 * q) 16 0, Int.add_zero])]
    rw [show (80 : Nat) = 16 + (16 + (16 + (16 + 16))) from rfl, sm_app, sm_app, sm_app, sm_app]
    show sm (cnt ρ) 16 (16 * 0) + (sm (cnt ρ) 16 (16 * (0 + 1)) + (sm (cnt ρ) 16 (16 * (0 + 1 + 1)) + (sm (cnt ρ) 16 (16 * (0 + 1 + 1 + 1)) + (sm (cnt ρ) 16 (16 * (0 + 1 + 1 + 1 + 1)) + 0)))) = _
    rw [show (16 : Int) * 0 = 0 from rfl, show (16 : Int) * (0 + 1) = 16 from rfl, show (16 : Int) * (0 + 1 + 1) = 32 from rfl, show (16 : Int) * (0 + 1 + 1 + 1) = 48 from rfl, show (16 : Int) * (0 + 1 + 1 + 1 + 1) = 64 from rfl, show (0 : Int) + ((16 : Nat) : Int) = 16 from rfl, show (16 : Int) + ((16 : Nat) : Int) = 32 from rfl, show (32 : Int) + ((16 : Nat) : Int) = 48 from rfl, show (48 : Int) + ((16 : Nat) : Int) = 64 from rfl, Int.add_zero]
  have e2 : sm (cnt ρ) 80 0 = sm (quec ρ) 80 0 + sm (runc ρ) 80 0 + sm (outc ρ) 80 0 := by
    rw [← sm_add, ← sm_add]; rfl
  rw [e1, e2, quec_all h.1, runc_all h.1 hn, outc_all h.1 hn, sm_add]
  omega
theorem rs_lo {j : Int} (h0 : 0 ≤ j) (h1 : j < 89 * C.1) : rsS C ρ j = 0 := by unfold rsS; rw [if_pos ⟨h0, h1⟩]
theorem rs_mid {j : Int} (h0 : ¬ (0 ≤ j ∧ j < 89 * C.1)) (h1 : j ≠ 493) (h2 : j ≠ 814) (h3 : j < 818 ∨ 826 ≤ j ∧ j < 840 ∨ 844 ≤ j) : rsS C ρ j = ρ j := by
  unfold rsS; rw [if_neg h0, if_neg (by omega), if_neg (by omega), if_neg (by omega)]
theorem rs_0 {j : Int} (hn : C.1 ≤ 5) (h : j = 493 ∨ j = 814 ∨ j = 818 ∨ 840 ≤ j ∧ j < 844) : rsS C ρ j = 0 := by unfold rsS; rw [if_neg (by omega), if_pos h]
theorem rs_c {j : Int} (hn : C.1 ≤ 5) (h0 : 819 ≤ j) (h1 : j < 822) : rsS C ρ j = ρ (j - 4) := by unfold rsS; rw [if_neg (by omega), if_neg (by omega), if_pos ⟨h0, h1⟩]
theorem rs_4 {j : Int} (hn : C.1 ≤ 5) (h0 : 822 ≤ j) (h1 : j < 826) : rsS C ρ j = 4 := by unfold rsS; rw [if_neg (by omega), if_neg (by omega), if_neg (by omega), if_pos ⟨h0, h1⟩]
theorem rs_cnt (h : W0 C ρ) (hn0 : 0 ≤ C.1) (hn : C.1 ≤ 5) (z : Int) : cnt (rsS C ρ) z = 0 := by
  have e1 : quec (rsS C ρ) z = 0 := by
    unfold quec
    refine sm_zero _ _ (fun q q0 q1 => ?_)
    have c := (h.1 q q0 (by omega)).1
    unfold cntsOK at c
    have r0 : rngc (rsS C ρ) q z = 0 := by
      unfold rngc
      by_cases g : q < C.1
      · rw [rs_lo (by omega) (by omega), rs_lo (by omega) (by omega)]; rfl
      · rw [rs_mid (by omega) (by omega) (by omega) (by omega), rs_mid (by omega) (by omega) (by omega) (by omega), (c.2.2.2.2.2.2.2.2.2.2 (by omega)).1, show (0 - ρ (89 * q + 3)).toNat = 0 by omega]; rfl
    have p0 : pstc (rsS C ρ) q z = 0 := by
      unfold pstc
      by_cases g : q < C.1
      · rw [rs_lo (by omega) (by omega), rs_lo (by omega) (by omega)]; rfl
      · rw [rs_mid (by omega) (by omega) (by omega) (by omega), rs_mid (by omega) (by omega) (by omega) (by omega), (c.2.2.2.2.2.2.2.2.2.2 (by omega)).2.1, show (0 - ρ (89 * q + 6)).toNat = 0 by omega]; rfl
    omega
  have e2 : runc (rsS C ρ) z = 0 := by unfold runc; rw [rs_0 hn (by omega)]; rfl
  have e3 : outc (rsS C ρ) z = 0 := by unfold outc; rw [rs_0 hn (by omega)]; rfl
  unfold cnt; omega
theorem rs_WF (h : WF C ρ) (hn0 : 0 ≤ C.1) (hn : C.1 ≤ 5) (hB : BdN N ρ) (hN : 100 ≤ N) : WF C (rsS C ρ) ∧ lftOK 1 (rsS C ρ) ∧ BdN N (rsS C ρ) := by
  obtain ⟨m1, m2, m3, m4, m5⟩ := h.1.2.2.2.1
  refine ⟨⟨⟨fun q q0 q1 => ?_, ?_, ?_, ?_, ?_⟩, fun z => by rw [rs_cnt h.1 hn0 hn]; decide⟩, fun k k0 k1 => ?_, fun j => ?_⟩
  · by_cases g : q < C.1
    · have lo : ∀ j, 89 * q ≤ j → j < 89 * q + 89 → rsS C ρ j = 0 := fun j j0 j1 => rs_lo (by omega) (by omega)
      refine ⟨?_, fun k k0 k1 => ?_, fun k k0 k1 => ?_⟩
      · unfold cntsOK
        rw [lo (89 * q) (by omega) (by omega), lo (89 * q + 1) (by omega) (by omega), lo (89 * q + 2) (by omega) (by omega), lo (89 * q + 3) (by omega) (by omega), lo (89 * q + 4) (by omega) (by omega), lo (89 * q + 5) (by omega) (by omega), lo (89 * q + 6) (by omega) (by omega), lo (89 * q + 7) (by omega) (by omega), lo (89 * q + 8) (by omega) (by omega)]
        omega
      · rw [lo _ (by omega) (by omega)] at k0 k1; omega
      · rw [lo _ (by omega) (by omega)] at k0 k1; omega
    · exact qOK_congr q0 q1 (fun j j0 j1 => rs_mid (by omega) (by omega) (by omega) (by omega)) (h.1.1 q q0 q1)
  · refine ⟨by rw [rs_0 hn (by omega)]; decide, by rw [rs_0 hn (by omega)]; decide, fun k k0 k1 => ?_⟩
    rw [rs_0 hn (by omega)] at k1; omega
  · refine ⟨by rw [rs_0 hn (by omega)]; decide, by rw [rs_0 hn (by omega)]; decide, fun k k0 k1 => ?_⟩
    rw [rs_0 hn (by omega)] at k1; omega
  · refine ⟨fun j j0 j1 => ?_, fun j j0 j1 => ?_, fun j j0 j1 => ?_, fun j j0 j1 => ?_, ?_⟩
    · rw [rs_mid (by omega) (by omega) (by omega) (by omega)]; exact m1 j j0 j1
    · rw [rs_mid (by omega) (by omega) (by omega) (by omega)]; exact m2 j j0 j1
    · rw [rs_c hn j0 j1]; have := m2 (j - 4) (by omega) (by omega); omega
    · rw [rs_4 hn j0 j1]; decide
    · rw [rs_mid (by omega) (by omega) (by omega) (by omega), rs_mid (by omega) (by omega) (by omega) (by omega), rs_mid (by omega) (by omega) (by omega) (by omega), rs_mid (by omega) (by omega) (by omega) (by omega)]; exact m5
  · intro c c0 c1
    rw [rs_0 hn (by omega)]
    unfold fsum
    refine (sm_zero _ _ (fun q q0 q1 => ?_)).symm
    by_cases g : q < C.1 ∧ C.2.2.2.1 q = c
    · rw [if_pos g, rs_lo (by omega) (by omega)]
    · rw [if_neg g]
  · rw [rs_0 hn (by omega)] at k1; omega
  · have b := hB j
    have b4 := hB (j - 4)
    unfold rsS
    split
    · omega
    · split
      · omega
      · split
        · exact b4
        · split
          · omega
          · exact b
theorem zz_step {m : Int} (h : 0 ≤ m) : updR (zz ρ m) m 0 = zz ρ (m + 1) := by
  funext j
  unfold zz
  by_cases e : j = m
  · subst e; rw [updR_hit rfl, if_pos (by omega)]
  · rw [updR_miss e]
    by_cases g : 0 ≤ j ∧ j < m
    · rw [if_pos g, if_pos (by omega)]
    · rw [if_neg g, if_neg (by omega)]
theorem zz_hi {m j : Int} (h : m ≤ j) : zz ρ m j = ρ j := by unfold zz; rw [if_neg (by omega)]
theorem m_rs1 {f : Int} {x3 x5 : Int} (hK : KA S r 20 844) (hB : Bd (I r)) (r0 : 0 ≤ I r 493) (r4 : I r 493 ≤ 4) : ∀ (n : Nat) (k x : Int), 0 ≤ k → k ≤ I r 493 → n = (I r 493 - k).toNat → ev (d + 2) 262 15 [(2, 427), (2, r), (0, f), (0, x3), (0, x), (0, x5), (0, k), uU] [] S I = ev (d + 2) 262 50 [(2, 427), (2, r), (0, f), (0, x3), (0, x + sm (fun k => 1 + (if 0 ≤ I r (452 + 12 * k) then 1 else 0)) n k), (0, x5), (0, 0), uU] [] S I := by
  intro n
  induction n with
  | zero =>
    intro k x k0 k1 hn
    rw [E262_15 hK, gdR_pos (by decide), show w 493 = 493 by decide, w_small (z := k) (by omega) (by omega), w_small (z := I r 493) (by omega) (by omega), if_neg (by omega)]
    simp [sm]
  | succ n ih =>
    intro k x k0 k1 hn
    have f0 : ∀ u : Int, (u = 0 ∨ u = 1) → ev (d + 1) 199 0 [(0, u)] [] S I = some ((0, u), S, I) := fun u hu => m_flag hu
    rw [E262_15 hK, gdR_pos (by decide), show w 493 = 493 by decide, w_small (z := k) (by omega) (by omega), w_small (z := I r 493) (by omega) (by omega), if_pos (by omega), m_hasSec hK hB k0 (by omega)]
    simp only [Option.bind_some, psh_i]
    have hs : (if hasSecS (I r) k = true then (1 : Int) else 0) = if 0 ≤ I r (452 + 12 * k) then 1 else 0 := by
      show (if decide (0 ≤ I r (452 + 12 * k)) = true then (1 : Int) else 0) = _
      by_cases g : 0 ≤ I r (452 + 12 * k)
      · rw [if_pos (decide_eq_true g), if_pos g]
      · rw [if_neg (by simpa using g), if_neg g]
    rw [hs, E262_34, f0 _ (by split <;> simp)]
    simp only [Option.bind_some, psh_i]
    rw [E262_37, ih (k + 1) _ (by omega) (by omega) (by omega), sm_succ, Int.add_assoc]
theorem m_rsz {f x3 x4 x5 : Int} (hK : KA S r 20 844) (h0 : 0 ≤ q) (h1 : q < 5) : ∀ (n : Nat) (k : Int) (I : II), 0 ≤ k → k ≤ 89 → n = (89 - k).toNat → I r = zz ρ (89 * q + k) → ∃ z, ev (d + 1) 262 101 [(2, 427), (2, r), (0, f), (0, x3), (0, x4), (0, x5), (0, q), (0, k)] [] S I = ev (d + 1) 262 50 [(2, 427), (2, r), (0, f), (0, x3), (0, x4), (0, x5), (0, q + 1), z] [] S (setR I r (zz ρ (89 * (q + 1)))) := by
  intro n
  induction n with
  | zero =>
    intro k I k0 k1 hn hI
    have : k = 89 := by omega
    subst this
    refine ⟨(0, 89), ?_⟩
    rw [E262_101, if_neg (by decide), show 89 * (q + 1) = 89 * q + 89 by omega, ← hI, setR_id]
  | succ n ih =>
    intro k I k0 k1 hn hI
    rw [E262_101, w_small (z := k) (by omega) (by omega), if_pos (by omega), m_sets hK (by omega) (by omega)]
    simp only [Option.bind_some, psh_u]
    rw [E262_117]
    obtain ⟨z, hz⟩ := ih (k + 1) (up2 I r (89 * q + k) 0) (by omega) (by omega) (by omega) (by rw [up2_row, hI, zz_step (by omega), Int.add_assoc])
    refine ⟨z, ?_⟩
    rw [hz, up2_set, setR_set]
theorem m_rs2 {f x4 : Int} (hM : MA S 427) (hr : isRw r) (hk : okC C) : ∀ (n : Nat) (q x3 x5 : Int) (a7 : AV) (I : II), 0 ≤ q → q ≤ C.1 → n = (C.1 - q).toNat → I 427 14 = C.1 → I r = zz ρ (89 * q) → ∃ z, ev (d + 1) 262 50 [(2, 427), (2, r), (0, f), (0, x3), (0, x4), (0, x5), (0, q), a7] [] S I = ev (d + 1) 262 50 [(2, 427), (2, r), (0, f), (0, x3 + sm (fun q => ρ (89 * q) - ρ (89 * q + 3)) n q), (0, x4), (0, x5 + sm (fun q => ρ (89 * q + 5) - ρ (89 * q + 6)) n q), (0, C.1), z] [] S (setR I r (zz ρ (89 * C.1))) := by
  have hK := isRw_K hM hr
  have hn0 := hk.1
  have hn5 := hk.2.1
  intro n
  induction n with
  | zero =>
    intro q x3 x5 a7 I q0 q1 hn h14 hI
    have : q = C.1 := by omega
    subst this
    refine ⟨a7, ?_⟩
    rw [← hI, setR_id]
    simp [sm]
  | succ n ih =>
    intro q x3 x5 a7 I q0 q1 hn h14 hI
    have rn : r ≠ 427 := by rcases hr with e | e <;> omega
    rw [E262_50 hM hK, w_small (z := q) (by omega) (by omega), h14, w_small (z := C.1) (by omega) (by omega), if_pos (by omega), m_of hK (by omega) (by omega)]
    simp only [Option.bind_some, psh_i]
    rw [E262_67, m_of hK (by omega) (by omega)]
    simp only [Option.bind_some, psh_i]
    rw [E262_74, m_of hK (by omega) (by omega)]
    simp only [Option.bind_some, psh_i]
    rw [E262_86, m_of hK (by omega) (by omega)]
    simp only [Option.bind_some, psh_i]
    rw [E262_94, hI, zz_hi (by omega), zz_hi (by omega), zz_hi (by omega), zz_hi (by omega), Int.add_zero]
    obtain ⟨z, hz⟩ := m_rsz (d := d) (S := S) (ρ := ρ) (f := f) (x3 := x3 + (ρ (89 * q) - ρ (89 * q + 3))) (x4 := x4) (x5 := x5 + (ρ (89 * q + 5) - ρ (89 * q + 6))) hK q0 (by omega) 89 0 I (by decide) (by decide) (by decide) (by rw [hI, Int.add_zero])
    rw [hz]
    obtain ⟨z', hz'⟩ := ih (q + 1) (x3 + (ρ (89 * q) - ρ (89 * q + 3))) (x5 + (ρ (89 * q + 5) - ρ (89 * q + 6))) z (setR I r (zz ρ (89 * (q + 1)))) (by omega) (by omega) (by omega) (by rw [setR_oth (Ne.symm rn)]; exact h14) setR_same
    refine ⟨z', ?_⟩
    rw [hz', setR_set, sm_succ, sm_succ, Int.add_assoc, Int.add_assoc]
/-- A RESET by the reference, told or not -/
theorem m_resets (hM : MA S 427) (hr : isRw r) (hk : okC (cfM I)) (hB : Bd (I r)) (r0 : 0 ≤ I r 493) (r4 : I r 493 ≤ 4) {f : Int} : ∃ z, ev (d + 2) 262 0 [(2, 427), (2, r), (0, f), uU, uU, uU, uU, uU] [] S I = ev (d + 2) 262 144 [(2, 427), (2, r), (0, f), (0, sm (fun q => I r (89 * q) - I r (89 * q + 3)) (cfM I).1.toNat 0), (0, runm (I r)), (0, I r 814 + sm (fun q => I r (89 * q + 5) - I r (89 * q + 6)) (cfM I).1.toNat 0), (0, 4), z] [] S (setR I r (rsS (cfM I) (I r))) := by
  have hK := isRw_K hM hr
  have hn0 := hk.1
  have hn5 := hk.2.1
  obtain ⟨z, hz⟩ := m_rs2 (d := d + 1) (S := S) (C := cfM I) (ρ := I r) (f := f) (x4 := 0 + sm (fun k => 1 + (if 0 ≤ I r (452 + 12 * k) then 1 else 0)) (I r 493).toNat 0) hM hr hk (cfM I).1.toNat 0 0 (I r 814) uU I (by decide) hn0 (by rw [Int.sub_zero]) rfl (by funext j; unfold zz; rw [if_neg (by omega)])
  refine ⟨z, ?_⟩
  have rn : r ≠ 427 := by rcases hr with e | e <;> omega
  rw [E262_0 hK, gdR_pos (by decide), show w 814 = 814 by decide, m_rs1 (d := d) hK hB r0 r4 (I r 493).toNat 0 0 (by decide) r0 (by rw [Int.sub_zero]), hz, E262_50 hM hK, if_neg (by rw [setR_oth (Ne.symm rn)]; exact Int.lt_irrefl _), gdR_pos (by decide), gdR_pos (by decide), show w 493 = 493 by decide, show w 814 = 814 by decide, Int.zero_add, Int.zero_add]
  rw [E262_144 hK hM, if_pos (by decide), gdR_pos (by decide), gdR_pos (by decide), gdR_pos (by decide), gdR_pos (by decide), E262_144 hK hM, if_pos (by decide), gdR_pos (by decide), gdR_pos (by decide), gdR_pos (by decide), gdR_pos (by decide), E262_144 hK hM, if_pos (by decide), gdR_pos (by decide), gdR_pos (by decide), gdR_pos (by decide), gdR_pos (by decide), E262_144 hK hM, if_pos (by decide), gdR_pos (by decide), gdR_pos (by decide), gdR_pos (by decide), gdR_pos (by decide)]
  simp only [show w (814 + 0) = 814 by decide, show w (818 + 0) = 818 by decide, show w (822 + 0) = 822 by decide, show w (840 + 0) = 840 by decide, show w (814 + (0 + 1)) = 815 by decide, show w (818 + (0 + 1)) = 819 by decide, show w (822 + (0 + 1)) = 823 by decide, show w (840 + (0 + 1)) = 841 by decide, show w (814 + (0 + 1 + 1)) = 816 by decide, show w (818 + (0 + 1 + 1)) = 820 by decide, show w (822 + (0 + 1 + 1)) = 824 by decide, show w (840 + (0 + 1 + 1)) = 842 by decide, show w (814 + (0 + 1 + 1 + 1)) = 817 by decide, show w (818 + (0 + 1 + 1 + 1)) = 821 by decide, show w (822 + (0 + 1 + 1 + 1)) = 825 by decide, show w (840 + (0 + 1 + 1 + 1)) = 843 by decide]
  congr 1
  funext a j
  by_cases e : a = r
  · subst e
    simp only [up2_row, setR_same]
    have zr : ∀ j, 445 ≤ j → zz (I a) (89 * (cfM I).1) j = I a j := fun j hj => zz_hi (by omega)
    by_cases h1 : j = 493 ∨ j = 814 ∨ j = 818 ∨ 840 ≤ j ∧ j < 844
    · rw [rs_0 hn5 h1]
      rcases (by omega : j = 493 ∨ j = 814 ∨ j = 818 ∨ j = 840 ∨ j = 841 ∨ j = 842 ∨ j = 843) with rfl | rfl | rfl | rfl | rfl | rfl | rfl <;> simp (disch := decide) only [updR_miss, updR_hit]
    · by_cases h2 : 819 ≤ j ∧ j < 822
      · rw [rs_c hn5 h2.1 h2.2]
        rcases (by omega : j = 819 ∨ j = 820 ∨ j = 821) with rfl | rfl | rfl <;> simp (disch := decide) only [updR_miss, updR_hit] <;> exact zr _ (by decide)
      · by_cases h3 : 822 ≤ j ∧ j < 826
        · rw [rs_4 hn5 h3.1 h3.2]
          rcases (by omega : j = 822 ∨ j = 823 ∨ j = 824 ∨ j = 825) with rfl | rfl | rfl | rfl <;> simp (disch := decide) only [updR_miss, updR_hit]
        · simp (disch := omega) only [updR_miss]
          unfold zz rsS
          rw [if_neg h1, if_neg h2, if_neg h3]
  · simp only [up2_oth e, setR_oth e]
end r87
