/-! block -/
def bk (ρ : RW) (a v : Int) : Int := if (ρ (a + 1) = 1 ∨ ρ (a + 1) = 3) ∧ ρ (a + 2) = v ∧ ρ (a + 4) = 0 then 1 else 0
def bkq (ρ : RW) (v q : Int) : Int := sm (fun k => bk ρ (rAt q k) v) (ρ (89 * q) - ρ (89 * q + 3)).toNat (ρ (89 * q + 3))
def bkr (ρ : RW) (v k : Int) : Int := bk ρ (446 + 12 * k) v + (if 0 ≤ ρ (452 + 12 * k) then bk ρ (451 + 12 * k) v else 0)
section r82
variable {d : Nat} {S : SS} {I J : II} {C : CF} {ρ : RW} {a b q c f k m v N : Int}
theorem c_6 (h : cmdOK ρ a) (hv : isI v) : ev (d + 1) 6 0 [(0, pkA ρ a), (0, v)] [] S I = some ((0, if (ρ (a + 1) = 1 ∨ ρ (a + 1) = 3) ∧ ρ (a + 2) = v then 1 else 0), S, I) := by
  have hc := h
  unfold cmdOK at hc
  have t16 : ev (d + 1) 6 16 [(0, pkA ρ a), (0, v)] [] S I = some ((0, if ρ (a + 2) = v then 1 else 0), S, I) := by
    rw [E6_16, c_bl h]
    simp only [Option.bind_some, psh_i]
    rw [E6_20, w_small (z := ρ (a + 2)) (by omega) (by omega), w_small hv.1 hv.2, E6_28, E6_29 (Or.inr rfl), E6_29 (Or.inl rfl)]
    by_cases g : ρ (a + 2) = v
    · rw [if_pos g, if_pos g]
    · rw [if_neg g, if_neg g]
  rw [E6_0, c_op h]
  simp only [Option.bind_some, psh_i]
  rw [E6_4, w_small (z := ρ (a + 1)) (by omega) (by omega)]
  by_cases g1 : ρ (a + 1) = 1
  · rw [if_pos g1, t16]
    by_cases g : ρ (a + 2) = v
    · rw [if_pos g, if_pos ⟨Or.inl g1, g⟩]
    · rw [if_neg g, if_neg (fun x => g x.2)]
  · rw [if_neg g1, c_op h]
    simp only [Option.bind_some, psh_i]
    rw [E6_12, w_small (z := ρ (a + 1)) (by omega) (by omega), t16, E6_28, E6_29 (Or.inl rfl)]
    by_cases g3 : ρ (a + 1) = 3
    · rw [if_pos g3]
      by_cases g : ρ (a + 2) = v
      · rw [if_pos g, if_pos ⟨Or.inr g3, g⟩]
      · rw [if_neg g, if_neg (fun x => g x.2)]
    · rw [if_neg g3, if_neg (by omega)]
theorem bk_eq : bk ρ a v = if ((ρ (a + 1) = 1 ∨ ρ (a + 1) = 3) ∧ ρ (a + 2) = v) ∧ ρ (a + 4) = 0 then 1 else 0 := by unfold bk; simp only [and_assoc]
theorem c_bkr (hD : DA S b) (h : RelD C I b ρ) (hW : W0 C ρ) (hv : isI v) (h0 : 0 ≤ q) (h1 : q < 5) : ∀ (n : Nat) (j x : Int) (a5 : AV), 0 ≤ j → n = (ρ (89 * q) - ρ (89 * q + 3) - j).toNat → j ≤ ρ (89 * q) - ρ (89 * q + 3) → ∃ z z', ev (d + 2) 51 20 [(2, b), (0, v), (0, x), (0, q), (0, j), a5] [] S I = ev (d + 2) 51 4 [(2, b), (0, v), (0, x + sm (fun k => bk ρ (rAt q k) v) n (ρ (89 * q + 3) + j)), (0, q + 1), z, z'] [] S I := by
  have hL := DA_lane hD h0 h1
  obtain ⟨lf, lr, -⟩ := h.2.2.2.2.1 q h0 h1
  have qo := hW.1 q h0 h1
  have c := qo.1
  unfold cntsOK at c
  have l4 := lan_f lf (f := 4) (by decide) (by decide)
  have l7 := lan_f lf (f := 7) (by decide) (by decide)
  rw [show (4 : Int) - 4 = 0 from rfl, Int.add_zero] at l4
  rw [show (7 : Int) - 4 = 3 from rfl] at l7
  intro n
  induction n with
  | zero =>
    intro j x a5 j0 hn j1
    refine ⟨(0, j), a5, ?_⟩
    rw [E51_20 hD, w_small (z := q) (by omega) (by omega), gdR_pos (by omega), E93_0 hL]
    simp only [Option.bind_some, psh_i]
    rw [E51_31 hD, l4, l7, w_small (z := j) (by omega) (by omega), w_small (z := ρ (89 * q) - ρ (89 * q + 3)) (by omega) (by omega), if_neg (by omega)]
    simp [sm]
  | succ n ih =>
    intro j x a5 j0 hn j1
    have ok := qo.2.1 (ρ (89 * q + 3) + j) (by omega) (by omega)
    have hc := ok
    unfold cmdOK at hc
    rw [E51_20 hD, w_small (z := q) (by omega) (by omega), gdR_pos (by omega), E93_0 hL]
    simp only [Option.bind_some, psh_i]
    rw [E51_31 hD, l4, l7, w_small (z := j) (by omega) (by omega), w_small (z := ρ (89 * q) - ρ (89 * q + 3)) (by omega) (by omega), if_pos (by omega), w_small (z := q) (by omega) (by omega), gdR_pos (by omega), E86_0 hL, l7, lr.1 (ρ (89 * q + 3) + j) (by omega) (by omega)]
    simp only [Option.bind_some, psh_i]
    rw [E51_45, c_6 ok hv]
    simp only [Option.bind_some, psh_i]
    rw [E51_53, sm_succ, bk_eq, Int.add_assoc (ρ (89 * q + 3)) j 1]
    by_cases g : (ρ (rAt q (ρ (89 * q + 3) + j) + 1) = 1 ∨ ρ (rAt q (ρ (89 * q + 3) + j) + 1) = 3) ∧ ρ (rAt q (ρ (89 * q + 3) + j) + 2) = v
    · rw [if_pos g, if_neg (by decide), c_ca ok]
      simp only [Option.bind_some, psh_i]
      rw [E51_61, w_small (z := ρ (rAt q (ρ (89 * q + 3) + j) + 4)) (by omega) (by omega), E51_67, E51_67]
      by_cases g2 : ρ (rAt q (ρ (89 * q + 3) + j) + 4) = 0
      · rw [if_pos g2, if_pos ⟨g, g2⟩]
        obtain ⟨z, z', e⟩ := ih (j + 1) (x + 1) (0, pkA ρ (rAt q (ρ (89 * q + 3) + j))) (by omega) (by omega) (by omega)
        exact ⟨z, z', by rw [e, Int.add_assoc]⟩
      · rw [if_neg g2, if_neg (fun y => g2 y.2), Int.zero_add]
        exact ih (j + 1) x _ (by omega) (by omega) (by omega)
    · rw [if_neg g, if_pos (by decide), if_neg (fun y => g y.1), E51_67, Int.zero_add]
      exact ih (j + 1) x _ (by omega) (by omega) (by omega)
theorem c_bkq (hD : DA S b) (h : RelD C I b ρ) (hW : W0 C ρ) (hk : okC C) (hv : isI v) : ∀ (n : Nat) (q x : Int) (a4 a5 : AV), 0 ≤ q → q ≤ C.1 → n = (C.1 - q).toNat → ev (d + 2) 51 4 [(2, b), (0, v), (0, x), (0, q), a4, a5] [] S I = some ((0, x + sm (bkq ρ v) n q), S, I) := by
  have hn0 := hk.1
  have hn5 := hk.2.1
  have e0 : I b 0 = C.1 := h.1.1
  intro n
  induction n with
  | zero =>
    intro q x a4 a5 q0 q1 hn
    rw [E51_4 hD, e0, w_small (z := q) (by omega) (by omega), w_small (z := C.1) (by omega) (by omega), if_neg (by omega), E51_79]
    simp [sm]
  | succ n ih =>
    intro q x a4 a5 q0 q1 hn
    have c := (hW.1 q q0 (by omega)).1
    unfold cntsOK at c
    rw [E51_4 hD, e0, w_small (z := q) (by omega) (by omega), w_small (z := C.1) (by omega) (by omega), if_pos (by omega), if_pos (by omega)]
    obtain ⟨z, z', e⟩ := c_bkr (d := d) hD h hW hv q0 (by omega : q < 5) (ρ (89 * q) - ρ (89 * q + 3)).toNat 0 x a5 (by decide) (by omega) (by omega)
    rw [e, ih (q + 1) _ z z' (by omega) (by omega) (by omega), sm_succ, Int.add_zero]
    unfold bkq
    rw [Int.add_assoc]
theorem c_bk2 (hD : DA S b) (h : RelD C I b ρ) (hW : W0 C ρ) (hv : isI v) : ∀ (n : Nat) (k x : Int) (a4 : AV), 0 ≤ k → k ≤ ρ 493 → n = (ρ 493 - k).toNat → ev (d + 2) 52 4 [(2, b), (0, v), (0, x), (0, k), a4] [] S I = some ((0, x + sm (bkr ρ v) n k), S, I) := by
  have r0 := hW.2.1.1
  have r4 := hW.2.1.2.1
  have e10 : I b 10 = ρ 493 := h.1.2.2.2.2.2.1
  intro n
  induction n with
  | zero =>
    intro k x a4 k0 k1 hn
    rw [E52_4 hD, e10, w_small (z := k) (by omega) (by omega), w_small (z := ρ 493) (by omega) (by omega), if_neg (by omega), E52_62]
    simp [sm]
  | succ n ih =>
    intro k x a4 k0 k1 hn
    have ro := hW.2.1.2.2 k k0 (by omega)
    unfold run1OK at ro
    obtain ⟨o1, o2, o3, o4, o5, o6⟩ := ro
    obtain ⟨⟨u1, u2, u3⟩, u4⟩ := h.2.2.1 k k0 (by omega)
    rw [show (450 : Int) + 12 * k = 446 + 12 * k + 4 by omega] at o5
    rw [show (447 : Int) + 12 * k = 446 + 12 * k + 1 by omega] at o4 o6
    rw [E52_4 hD, e10, w_small (z := k) (by omega) (by omega), w_small (z := ρ 493) (by omega) (by omega), if_pos (by omega), if_pos (by omega), gdR_pos (by omega), gdR_pos (by omega), gdR_pos (by omega), u2, u3, sm_succ]
    rcases o6 with ⟨s1, s2⟩ | ⟨s1, s2, s3, s4⟩
    · have eb : bkr ρ v k = if (ρ (446 + 12 * k + 1) = 1 ∨ ρ (446 + 12 * k + 1) = 3) ∧ ρ (446 + 12 * k + 2) = v then 1 else 0 := by
        unfold bkr
        rw [if_neg (by omega), bk_eq, Int.add_zero]
        by_cases g : (ρ (446 + 12 * k + 1) = 1 ∨ ρ (446 + 12 * k + 1) = 3) ∧ ρ (446 + 12 * k + 2) = v
        · rw [if_pos g, if_pos ⟨g, o5⟩]
        · rw [if_neg g, if_neg (fun y => g y.1)]
      rw [if_pos (by omega : ρ (452 + 12 * k) < 0), if_pos (by decide), E52_42, c_6 o3 hv]
      simp only [Option.bind_some, psh_i]
      rw [E52_50, eb, E52_56, E52_56]
      by_cases g : (ρ (446 + 12 * k + 1) = 1 ∨ ρ (446 + 12 * k + 1) = 3) ∧ ρ (446 + 12 * k + 2) = v
      · rw [if_pos g, if_neg (by decide), ih (k + 1) _ _ (by omega) (by omega) (by omega), Int.add_assoc]
      · rw [if_neg g, if_pos (by decide), ih (k + 1) _ _ (by omega) (by omega) (by omega), Int.zero_add]
    · have pb := pkA_b s2
      rw [show (455 : Int) + 12 * k = 451 + 12 * k + 4 by omega] at s4
      have eb : bkr ρ v k = if (ρ (451 + 12 * k + 1) = 1 ∨ ρ (451 + 12 * k + 1) = 3) ∧ ρ (451 + 12 * k + 2) = v then 1 else 0 := by
        unfold bkr
        rw [if_pos (by omega), bk_eq, bk_eq, if_neg (by omega), Int.zero_add]
        by_cases g : (ρ (451 + 12 * k + 1) = 1 ∨ ρ (451 + 12 * k + 1) = 3) ∧ ρ (451 + 12 * k + 2) = v
        · rw [if_pos g, if_pos ⟨g, s4⟩]
        · rw [if_neg g, if_neg (fun y => g y.1)]
      rw [if_neg (by omega : ¬ ρ (452 + 12 * k) < 0), w_small (z := pkA ρ (451 + 12 * k)) (by omega) (by omega), if_neg (by omega), E52_42, c_6 s2 hv]
      simp only [Option.bind_some, psh_i]
      rw [E52_50, eb, E52_56, E52_56]
      by_cases g : (ρ (451 + 12 * k + 1) = 1 ∨ ρ (451 + 12 * k + 1) = 3) ∧ ρ (451 + 12 * k + 2) = v
      · rw [if_pos g, if_neg (by decide), ih (k + 1) _ _ (by omega) (by omega) (by omega), Int.add_assoc]
      · rw [if_neg g, if_pos (by decide), ih (k + 1) _ _ (by omega) (by omega) (by omega), Int.zero_add]
theorem m_bk (hK : KA S 438 20 844) (hB : Bd (I 438)) (a0 : 0 ≤ a) (a1 : a + 4 < 844) (hv : isI v) : ev d 278 0 [(2, 438), (0, a), (0, v)] [] S I = some ((0, bk (I 438) a v), S, I) := by
  have b1 := hB (a + 1)
  have b2 := hB (a + 2)
  have b4 := hB (a + 4)
  have t39 : ev d 278 39 [(2, 438), (0, a), (0, v)] [] S I = some ((0, 0), S, I) := by rw [E278_39, E278_40 (Or.inl rfl)]
  have t18 : ev d 278 18 [(2, 438), (0, a), (0, v)] [] S I = some ((0, if I 438 (a + 2) = v ∧ I 438 (a + 4) = 0 then 1 else 0), S, I) := by
    rw [E278_18 hK, w_small (z := a + 2) (by omega) (by omega), gdR_pos (by omega), w_small (z := a + 4) (by omega) (by omega), w_small (z := I 438 (a + 2)) (by omega) (by omega), w_small hv.1 hv.2, gdR_pos (by omega), w_small (z := I 438 (a + 4)) (by omega) (by omega), t39, E278_40 (Or.inr rfl)]
    by_cases g : I 438 (a + 2) = v
    · rw [if_pos g]
      by_cases g2 : I 438 (a + 4) = 0
      · rw [if_pos g2, if_pos ⟨g, g2⟩]
      · rw [if_neg g2, if_neg (fun y => g2 y.2)]
    · rw [if_neg g, if_neg (fun y => g y.1)]
  rw [E278_0 hK, w_small (z := a + 1) (by omega) (by omega), gdR_pos (by omega), gdR_pos (by omega), w_small (z := I 438 (a + 1)) (by omega) (by omega), t39, t18]
  unfold bk
  by_cases g1 : I 438 (a + 1) = 1
  · rw [if_pos g1]; simp only [g1, true_or, true_and]
  · rw [if_neg g1]
    by_cases g3 : I 438 (a + 1) = 3
    · rw [if_pos g3]; simp only [g3, or_true, true_and]
    · rw [if_neg g3, if_neg (by omega)]
theorem bk_01 : bk ρ a v = 0 ∨ bk ρ a v = 1 := by unfold bk; split <;> simp
theorem m_bkr (hM : MA S 427) (hB : Bd (I 438)) (hq : qOK C (I 438) q) (hv : isI v) (h0 : 0 ≤ q) (h1 : q < 5) : ∀ (n : Nat) (k x : Int), I 438 (89 * q + 3) ≤ k → k ≤ I 438 (89 * q) → n = (I 438 (89 * q) - k).toNat → ev (d + 2) 277 42 [(2, 427), (0, v), (0, x), (0, q), (0, k)] [] S I = ev (d + 2) 277 23 [(2, 427), (0, v), (0, x + sm (fun k => bk (I 438) (rAt q k) v) n k), (0, q + 1), (0, I 438 (89 * q))] [] S I := by
  have hK := isRw_K hM (Or.inl rfl : isRw 438)
  have c := hq.1
  unfold cntsOK at c
  have b0 := hB (89 * q)
  intro n
  induction n with
  | zero =>
    intro k x k0 k1 hn
    have : k = I 438 (89 * q) := by omega
    subst this
    rw [E277_42 hM, m_of hK (by omega) (by omega)]
    simp only [Option.bind_some, psh_i, Int.add_zero]
    rw [E277_53 hM, if_neg (by omega)]
    simp [sm]
  | succ n ih =>
    intro k x k0 k1 hn
    have ra := rAt_b (k := k) h0 h1
    have f0 : ∀ u : Int, (u = 0 ∨ u = 1) → ev (d + 1) 199 0 [(0, u)] [] S I = some ((0, u), S, I) := fun u hu => m_flag hu
    rw [E277_42 hM, m_of hK (by omega) (by omega)]
    simp only [Option.bind_some, psh_i, Int.add_zero]
    rw [E277_53 hM, w_small (z := k) (by omega) (by omega), w_small (z := I 438 (89 * q)) (by omega) (by omega), if_pos (by omega), m_rAt (by omega) (by omega)]
    simp only [Option.bind_some, psh_i]
    rw [E277_67, m_bk hK hB (by omega) (by omega) hv]
    simp only [Option.bind_some, psh_i]
    rw [E277_71, f0 _ bk_01]
    simp only [Option.bind_some, psh_i]
    rw [E277_74, ih (k + 1) _ (by omega) (by omega) (by omega), sm_succ, Int.add_assoc]
theorem m_bkq (hM : MA S 427) (hB : Bd (I 438)) (hW : W0 C (I 438)) (hk : okC C) (hn : I 427 14 = C.1) (hv : isI v) : ∀ (n : Nat) (q x : Int) (a4 : AV), 0 ≤ q → q ≤ C.1 → n = (C.1 - q).toNat → ev (d + 2) 277 23 [(2, 427), (0, v), (0, x), (0, q), a4] [] S I = ev (d + 2) 277 93 [(2, 427), (0, v), (0, x + sm (bkq (I 438) v) n q), (0, 0), (0, 0)] [] S I := by
  have hn0 := hk.1
  have hn5 := hk.2.1
  have hK := isRw_K hM (Or.inl rfl : isRw 438)
  intro n
  induction n with
  | zero =>
    intro q x a4 q0 q1 hn'
    rw [E277_23 hM, hn, w_small (z := q) (by omega) (by omega), w_small (z := C.1) (by omega) (by omega), if_neg (by omega)]
    simp [sm]
  | succ n ih =>
    intro q x a4 q0 q1 hn'
    have c := (hW.1 q q0 (by omega)).1
    unfold cntsOK at c
    rw [E277_23 hM, hn, w_small (z := q) (by omega) (by omega), w_small (z := C.1) (by omega) (by omega), if_pos (by omega), m_of hK (by omega) (by omega)]
    simp only [Option.bind_some, psh_i]
    rw [E277_40, m_bkr hM hB (hW.1 q q0 (by omega)) hv q0 (by omega) (I 438 (89 * q) - I 438 (89 * q + 3)).toNat _ x (by omega) (by omega) rfl, ih (q + 1) _ _ (by omega) (by omega) (by omega), sm_succ]
    unfold bkq
    rw [Int.add_assoc]
theorem m_bk2 (hM : MA S 427) (hB : Bd (I 438)) (r0 : 0 ≤ I 438 493) (r4 : I 438 493 ≤ 4) (hv : isI v) {y : Int} : ∀ (n : Nat) (k x : Int), 0 ≤ k → k ≤ I 438 493 → n = (I 438 493 - k).toNat → ev (d + 2) 277 93 [(2, 427), (0, v), (0, y), (0, x), (0, k)] [] S I = ev (d + 2) 277 93 [(2, 427), (0, v), (0, y), (0, x + sm (bkr (I 438) v) n k), (0, I 438 493)] [] S I := by
  have hK := isRw_K hM (Or.inl rfl : isRw 438)
  intro n
  induction n with
  | zero =>
    intro k x k0 k1 hn
    have : k = I 438 493 := by omega
    subst this
    simp [sm]
  | succ n ih =>
    intro k x k0 k1 hn
    have f0 : ∀ u : Int, (u = 0 ∨ u = 1) → ev (d + 1) 199 0 [(0, u)] [] S I = some ((0, u), S, I) := fun u hu => m_flag hu
    rw [E277_93 hM, w_small (z := k) (by omega) (by omega), w_small (z := I 438 493) (by omega) (by omega), if_pos (by omega), E224_0]
    simp only [Option.bind_some, psh_i]
    rw [E277_116, show 445 + 12 * k + 1 = 446 + 12 * k by omega, m_bk hK hB (by omega) (by omega) hv]
    simp only [Option.bind_some, psh_i]
    rw [E277_122, f0 _ bk_01]
    simp only [Option.bind_some, psh_i]
    rw [E277_125 hM, m_hasSec hK hB k0 (by omega)]
    simp only [Option.bind_some, psh_i]
    rw [E277_134 hM, E224_0]
    simp only [Option.bind_some, psh_i]
    rw [E277_146, show 445 + 12 * k + 6 = 451 + 12 * k by omega, m_bk hK hB (by omega) (by omega) hv]
    simp only [Option.bind_some, psh_i]
    rw [E277_153, E277_160, E277_161, E277_161, f0 0 (Or.inl rfl), f0 1 (Or.inr rfl)]
    simp only [Option.bind_some, psh_i]
    rw [E277_164, E277_164, sm_succ]
    have hs : hasSecS (I 438) k = decide (0 ≤ I 438 (452 + 12 * k)) := rfl
    rw [hs]
    have eb : bkr (I 438) v k = bk (I 438) (446 + 12 * k) v + (if 0 ≤ I 438 (452 + 12 * k) then bk (I 438) (451 + 12 * k) v else 0) := rfl
    rw [eb]
    by_cases g : 0 ≤ I 438 (452 + 12 * k)
    · rw [if_pos (decide_eq_true g), if_neg (by decide), if_pos g]
      rcases bk_01 (ρ := I 438) (a := 451 + 12 * k) (v := v) with e | e
      · rw [e, if_pos (by decide), ih (k + 1) _ (by omega) (by omega) (by omega), Int.add_assoc]
      · rw [e, if_neg (by decide), ih (k + 1) _ (by omega) (by omega) (by omega), Int.add_assoc]
    · rw [if_neg (show ¬ decide (0 ≤ I 438 (452 + 12 * k)) = true by simpa using g), if_pos (by decide), if_neg g, ih (k + 1) _ (by omega) (by omega) (by omega), Int.add_assoc]
theorem bk_b : 0 ≤ bk ρ a v ∧ bk ρ a v ≤ 1 := by unfold bk; split <;> omega
theorem bkq_b (h : cntsOK C ρ q) : 0 ≤ bkq ρ v q ∧ bkq ρ v q ≤ 7 := by
  unfold cntsOK at h
  unfold bkq
  refine ⟨sm_nonneg _ _ (fun j _ _ => bk_b.1), ?_⟩
  have := sm_le (f := fun k => bk ρ (rAt q k) v) (g := fun _ => 1) (ρ (89 * q) - ρ (89 * q + 3)).toNat (ρ (89 * q + 3)) (fun j _ _ => bk_b.2)
  rw [sm_const] at this
  omega
theorem call_block (hS : SH S) (h : ST N I) (hN : N < 70000000) (hv : isI v) : ∃ r I1 I2, ev (d + 100) 166 0 [(2, 0), (0, v)] [] S I = some ((0, r), S, I1) ∧ ev (d + 100) 277 0 [(2, 427), (0, v), uU, uU, uU] [] S I1 = some ((0, r), S, I2) ∧ ST (N + 100000) I2 := by
  obtain ⟨hQ, hM⟩ := hS
  have hk := h.2.2.2.1.1
  have hn0 := hk.1
  have hn5 := hk.2.1
  have hD := h.2.2.2.1.2
  have hB := h.2.2.2.2.2.2.2.1
  have hBd := BdN_Bd hB (by omega)
  have hK := isRw_K hM (Or.inl rfl : isRw 438)
  have r0 := hD.2.1.1.2.1.1
  have r4 := hD.2.1.1.2.1.2.1
  have rf : ∀ J : II, ev (d + 100) 277 0 [(2, 427), (0, v), uU, uU, uU] [] S J = if 0 ≤ v ∧ v ≤ 9 then ev (d + 100) 277 23 [(2, 427), (0, v), (0, 0), (0, 0), uU] [] S (up2 J 427 0 0) else some ((0, -1), S, up2 J 427 0 0) := by
    intro J
    rw [E277_0 hM, w_small hv.1 hv.2, m_in (by have := hv.1; omega) (by have := hv.2; omega) (by decide) (by decide) (by decide) (by decide)]
    simp only [Option.bind_some, psh_i]
    rw [E277_14]
    by_cases g : 0 ≤ v ∧ v ≤ 9
    · rw [if_pos g, if_pos g, if_neg (by decide)]
    · rw [if_neg g, if_neg g, if_pos (by decide)]
  by_cases g : 0 ≤ v ∧ v ≤ 9
  · have bq : ∀ q, 0 ≤ q → q < 0 + ((cfM I).1.toNat : Int) → 0 ≤ bkq (I 438) v q ∧ bkq (I 438) v q ≤ 7 := fun q q0 q1 => bkq_b (hD.2.1.1.1 q q0 (by omega)).1
    have X0 := sm_nonneg (f := bkq (I 438) v) (cfM I).1.toNat 0 (fun j j0 j1 => (bq j j0 j1).1)
    have X1 := sm_le (f := bkq (I 438) v) (g := fun _ => 7) (cfM I).1.toNat 0 (fun j j0 j1 => (bq j j0 j1).2)
    rw [sm_const] at X1
    have br : ∀ k, 0 ≤ bkr (I 438) v k ∧ bkr (I 438) v k ≤ 2 := fun k => by
      unfold bkr
      have b1 := bk_b (ρ := I 438) (a := 446 + 12 * k) (v := v)
      have b2 := bk_b (ρ := I 438) (a := 451 + 12 * k) (v := v)
      split <;> omega
    have Y0 := sm_nonneg (f := bkr (I 438) v) (I 438 493).toNat 0 (fun j _ _ => (br j).1)
    have Y1 := sm_le (f := bkr (I 438) v) (g := fun _ => 2) (I 438 493).toNat 0 (fun j _ _ => (br j).2)
    rw [sm_const] at Y1
    have c1 := c_bkq (d := d + 97) (DA5 hQ) hD.1 hD.2.1.1 hk hv (cfM I).1.toNat 0 0 uU uU (by decide) (by omega) (by rw [Int.sub_zero])
    have c2 := c_bk2 (d := d + 97) (DA5 hQ) hD.1 hD.2.1.1 hv (I 438 493).toNat 0 0 uU (by decide) (by omega) (by rw [Int.sub_zero])
    have m1 := fun (J : II) (hJ : TF I J) => m_bkq (d := d + 98) (C := cfM I) (I := up2 J 427 0 0) (v := v) hM (by rw [up2_oth (by decide), TF_hi hJ (by decide)]; exact hBd) (by rw [up2_oth (by decide), TF_hi hJ (by decide)]; exact hD.2.1.1) hk (by rw [up2_miss (by decide), TF_hi hJ (by decide)]; rfl) hv (cfM I).1.toNat 0 0 uU (by decide) (by omega) (by rw [Int.sub_zero])
    have m2 := fun (J : II) (hJ : TF I J) (y : Int) => m_bk2 (d := d + 98) (I := up2 J 427 0 0) (v := v) (y := y) hM (by rw [up2_oth (by decide), TF_hi hJ (by decide)]; exact hBd) (by rw [up2_oth (by decide), TF_hi hJ (by decide)]; exact r0) (by rw [up2_oth (by decide), TF_hi hJ (by decide)]; exact r4) hv (I 438 493).toNat 0 0 (by decide) (by rw [up2_oth (by decide), TF_hi hJ (by decide)]; exact r0) (by rw [up2_oth (by decide), TF_hi hJ (by decide), Int.sub_zero])
    rw [Int.zero_add] at c1 c2
    generalize hX : sm (bkq (I 438) v) (cfM I).1.toNat 0 = X at *
    generalize hY : sm (bkr (I 438) v) (I 438 493).toNat 0 = Y at *
    generalize hg : updR (updR (fun _ => 0) 0 X) 1 Y = gg
    have gg0 : gg 0 = X := by rw [← hg]; rfl
    have gg1 : gg 1 = Y := by rw [← hg]; rfl
    obtain ⟨A, a1, a2, a3⟩ := c_tell2 (d := d + 97) (S := S) (I := I) (x := X) (y := Y) (RA3 hQ)
    rw [hg] at a2
    have x38 : up2 A 427 0 0 438 = I 438 := by rw [up2_oth (by decide), TF_hi a3 (by decide)]
    obtain ⟨B, p1, p2, p3⟩ := m_next (d := d + 99) (S := S) (g := gg) (n := 0) (x := X) (I := up2 (up2 A 427 0 0) 427 1 0) hM MD_0 (by decide) (by decide) (by rw [gg0])
    obtain ⟨B2, q1, q2, q3⟩ := m_next (d := d + 99) (S := S) (g := gg) (n := 0 + 1) (x := Y) (I := B) hM p2 (by decide) (by decide) (by rw [Int.zero_add, gg1])
    have xB : B2 438 = I 438 := by rw [q3.2 438 (by decide) (by decide), p3.2 438 (by decide) (by decide), up2_oth (by decide), x38]
    refine ⟨I 438 (828 + v), A, B2, ?_, ?_, tl_ST h a3 a2 (fun x x0 x1 => by rw [q3.2 x x0 x1, p3.2 x x0 x1, up2_oth x0, up2_oth x0]) (fun k k0 k1 => by rw [q3.1 k k1, p3.1 k k1, up2_miss (by omega), up2_miss (by omega)]) q2 (by decide) (by decide)⟩
    · rw [E166_0 hQ, w_small hv.1 hv.2, if_neg (by omega), if_pos (by omega), E51_0, c1]
      simp only [Option.bind_some, psh_i]
      rw [E166_24 hQ, E52_0, c2]
      simp only [Option.bind_some, psh_i]
      rw [E166_33 (RA3 hQ), w_small (z := X) (by omega) (by omega), w_small (z := Y) (by omega) (by omega), a1]
      simp only [Option.bind_some, psh_u]
      have a22 : A 7 v = I 438 (828 + v) := by rw [TF_hi a3 (by decide)]; exact hD.1.2.1.1 v g.1 (by omega)
      rw [E166_37 hQ, E29_0 (DA5 hQ), w_small hv.1 hv.2, if_neg (by omega), if_pos (by omega), gdR_pos (by omega), show (5 : Int) + 2 = 7 from rfl, a22, E29_20]
      simp only [Option.bind_some, psh_i]
      rw [E166_45]
    · have n1 := m1 A a3
      have n2 := m2 A a3
      rw [x38] at n1 n2
      rw [hX] at n1
      rw [hY] at n2
      rw [rf, if_pos g, n1, Int.zero_add, n2, Int.zero_add, E277_93 hM, x38, if_neg (by omega), w_small (z := X) (by omega) (by omega), p1]
      simp only [Option.bind_some, psh_u]
      rw [E277_184 hM, w_small (z := Y) (by omega) (by omega), q1]
      simp only [Option.bind_some, psh_u]
      rw [E277_190 hM, w_small (z := 828 + v) (by omega) (by omega), gdR_pos (by omega), xB]
  · refine ⟨-1, I, _, ?_, ?_, ST_le (ST_0 (v := 0) h) (by omega)⟩
    · rw [E166_0 hQ, w_small hv.1 hv.2, E166_10]
      by_cases g2 : v < 0
      · rw [if_pos g2]
      · rw [if_neg g2, if_neg (by omega)]
    · rw [rf, if_neg g]
end r82
