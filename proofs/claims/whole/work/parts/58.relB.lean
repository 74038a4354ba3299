/-! the class finds what the reference finds */ -/
section r58
variable {d : Nat} {S : SS} {I : II} {C : CF} {ρ : RW} {b q id k a : Int}
theorem c_turn1 (hL : LA S a) (h : laneR C I a ρ q) (hq : qOK C ρ q) (hB : Bd ρ) (hid : isI id) : ∀ (n : Nat) (k : Int), 0 ≤ k → k ≤ 8 → n = (ρ (89 * q) - ρ (89 * q + 3) - k).toNat →
    ev (d + 1) 92 2 [(2, a), (0, id), (0, k)] [] S I = some ((0, if fnd (fun k => decide (ρ (rAt q k) = id)) n (ρ (89 * q + 3) + k) < 0 then -1 else fnd (fun k => decide (ρ (rAt q k) = id)) n (ρ (89 * q + 3) + k) - ρ (89 * q + 3)), S, I) := by
  have b0 := hB (89 * q)
  have b3 := hB (89 * q + 3)
  obtain ⟨⟨_, _, e4, _, _, e7, _⟩, ⟨l2, _⟩, _⟩ := h
  obtain ⟨c1, c2, _⟩ := hq
  unfold cntsOK at c1
  have hs : ∀ k : Int, 0 ≤ k → k < 1073741825 → ev (d + 1) 92 2 [(2, a), (0, id), (0, k)] [] S I = if k < ρ (89 * q) - ρ (89 * q + 3) then ev (d + 1) 92 15 [(2, a), (0, id), (0, k)] [(0, I (a + 1) ((ρ (89 * q + 3) + k) % 8))] S I else some ((0, -1), S, I) := by
    intro k h0 h1
    rw [E92_2 hL, E93_0 hL, e4, e7]
    simp only [Option.bind_some, psh_i]
    rw [E92_7 hL, w_small (z := k) (by omega) (by omega), w_small (by omega) (by omega), E86_0 hL, e7]
    simp only [Option.bind_some, psh_i]
  intro n
  induction n with
  | zero => intro k h0 hk hn; rw [hs k h0 (by omega), if_neg (by omega)]; rfl
  | succ n ih =>
    intro k h0 hk hn
    have cm := c2 (ρ (89 * q + 3) + k) (by omega) (by omega)
    have cb := cm
    unfold cmdOK at cb
    rw [hs k h0 (by omega), if_pos (by omega), l2 _ (by omega) (by omega), E92_15, c_id cm, fnd_succ]
    simp only [Option.bind_some, psh_i]
    rw [E92_18, w_small (by omega) (by omega), w_small hid.1 hid.2]
    by_cases g : ρ (rAt q (ρ (89 * q + 3) + k)) = id
    · rw [if_pos g, if_pos (decide_eq_true g), if_neg (by omega)]
      rw [show ρ (89 * q + 3) + k - ρ (89 * q + 3) = k by omega]
    · rw [if_neg g, if_neg (show ¬ (decide (ρ (rAt q (ρ (89 * q + 3) + k)) = id) = true) by simpa using g), ih (k + 1) (by omega) (by omega) (by omega), Int.add_assoc]
theorem c_turnOf (hL : LA S a) (h : laneR C I a ρ q) (hq : qOK C ρ q) (hB : Bd ρ) (hid : isI id) : ev (d + 1) 92 0 [(2, a), (0, id), uU] [] S I = some ((0, ringOfS ρ q id), S, I) := by
  rw [E92_0, c_turn1 hL h hq hB hid _ 0 (by decide) (by decide) rfl, Int.add_zero, Int.sub_zero]
  rfl
theorem c_runOf1 (hD : DA S b) (hd : hdR C I b ρ) (hr : runsR I b ρ) (hk : runsOK C ρ) (hB : Bd ρ) (hq : isI q) (hid : isI id) : ∀ (n : Nat) (k : Int) (x y : AV), 0 ≤ k → k ≤ ρ 493 → n = (ρ 493 - k).toNat →
    ev (d + 1) 42 2 [(2, b), (0, q), (0, id), (0, k), x, y] [] S I = some ((0, fnd (runIs ρ q id) n k), S, I) := by
  have e10 : I b 10 = ρ 493 := hd.2.2.2.2.2.1
  obtain ⟨r0, r4, ro⟩ := hk
  intro n
  induction n with
  | zero =>
    intro k x y h0 h1 hn
    rw [E42_2 hD, e10, w_small (z := k) (by omega) (by omega), w_small (by omega) (by omega), if_neg (by omega), E42_93]
    rfl
  | succ n ih =>
    intro k x y h0 h1 hn
    obtain ⟨⟨e7, e8, e9⟩, _⟩ := hr k h0 (by omega)
    have o := ro k h0 (by omega)
    unfold run1OK at o
    obtain ⟨q0, q1, c1, n3, ca, hs⟩ := o
    have c1' := c1
    unfold cmdOK at c1'
    have bq := hB (445 + 12 * k)
    have bs := hB (452 + 12 * k)
    have hrr : runIs ρ q id k = true ↔ ρ (445 + 12 * k) = q ∧ (ρ (446 + 12 * k) = id ∨ (0 ≤ ρ (452 + 12 * k) ∧ ρ (451 + 12 * k) = id)) := by simp [runIs, hasSecS]
    -- the end: from place 63 on
    have tail : ∀ (v u : Int), (v = 0 ∨ v = 1) → (u = 0 ∨ u = 1) → ev (d + 1) 42 63 [(2, b), (0, q), (0, id), (0, k), (0, v), y] [(0, u)] S I = if ρ (445 + 12 * k) = q ∧ (v = 1 ∨ u = 1) then some ((0, k), S, I) else some ((0, fnd (runIs ρ q id) n (k + 1)), S, I) := by
      intro v u hv hu
      rw [E42_63 hD, w_small (z := k) (by omega) (by omega), gdR_pos (by omega), e7, w_small (by omega) (by omega), w_small hq.1 hq.2, E42_85, E42_87, ih (k + 1) _ _ (by omega) (by omega) (by omega)]
      by_cases g : ρ (445 + 12 * k) = q
      · rcases hv with rfl | rfl
        · rcases hu with rfl | rfl
          · rw [if_pos g, if_pos (show w 0 = 0 by decide), if_pos (show w 0 = 0 by decide), if_neg (by omega)]
          · rw [if_pos g, if_pos (show w 0 = 0 by decide), if_neg (show ¬ w 1 = 0 by decide), if_pos ⟨g, Or.inr rfl⟩]
        · rw [if_pos g, if_neg (show ¬ w 1 = 0 by decide), if_pos ⟨g, Or.inl rfl⟩]
      · rw [if_neg g, if_neg (fun h => g h.1)]
    -- from place 33 on
    have mid : ∀ v : Int, (v = 0 ∨ v = 1) → ev (d + 1) 42 33 [(2, b), (0, q), (0, id), (0, k), x, y] [(0, v)] S I = if ρ (445 + 12 * k) = q ∧ (v = 1 ∨ 0 ≤ ρ (452 + 12 * k) ∧ ρ (451 + 12 * k) = id) then some ((0, k), S, I) else some ((0, fnd (runIs ρ q id) n (k + 1)), S, I) := by
      intro v hv
      rw [E42_33 hD, w_small (z := k) (by omega) (by omega), gdR_pos (by omega)]
      rcases hs with hs | ⟨_, cs, hs3, _⟩
      · have e9' : I (b + 9) k = -1 := by rw [e9, if_pos (by omega)]
        rw [e9', if_pos (show w (-1) = -1 by decide), E42_62, tail v 0 hv (Or.inl rfl)]
        by_cases g : ρ (445 + 12 * k) = q ∧ v = 1
        · rw [if_pos ⟨g.1, Or.inl g.2⟩, if_pos ⟨g.1, Or.inl g.2⟩]
        · rw [if_neg (by omega), if_neg (by omega)]
      · have pb := pkA_b cs
        have e9' : I (b + 9) k = pkA ρ (451 + 12 * k) := by rw [e9, if_neg (by omega)]
        rw [e9', w_small (z := pkA ρ (451 + 12 * k)) (by omega) (by omega), if_neg (by omega), gdR_pos (by omega), c_id cs]
        unfold cmdOK at cs
        simp only [Option.bind_some, psh_i]
        rw [E42_54, w_small (by omega) (by omega), w_small hid.1 hid.2, E42_62, tail v 0 hv (Or.inl rfl), tail v 1 hv (Or.inr rfl)]
        by_cases g : ρ (451 + 12 * k) = id
        · rw [if_pos g]
          by_cases g2 : ρ (445 + 12 * k) = q
          · rw [if_pos ⟨g2, Or.inr rfl⟩, if_pos ⟨g2, Or.inr ⟨by omega, g⟩⟩]
          · rw [if_neg (fun h => g2 h.1), if_neg (fun h => g2 h.1)]
        · rw [if_neg g]
          by_cases g2 : ρ (445 + 12 * k) = q ∧ v = 1
          · rw [if_pos ⟨g2.1, Or.inl g2.2⟩, if_pos ⟨g2.1, Or.inl g2.2⟩]
          · rw [if_neg (by omega), if_neg (by omega)]
    rw [E42_2 hD, e10, w_small (z := k) (by omega) (by omega), w_small (by omega) (by omega), if_pos (by omega), if_pos (by omega), gdR_pos (by omega), e8, c_id c1, fnd_succ]
    simp only [Option.bind_some, psh_i]
    rw [E42_24, w_small (by omega) (by omega), w_small hid.1 hid.2, mid 0 (Or.inl rfl), mid 1 (Or.inr rfl)]
    by_cases g : ρ (446 + 12 * k) = id
    · rw [if_pos g]
      by_cases g2 : ρ (445 + 12 * k) = q
      · rw [if_pos ⟨g2, Or.inl rfl⟩, if_pos (hrr.mpr ⟨g2, Or.inl g⟩)]
      · rw [if_neg (fun h => g2 h.1), if_neg (fun h => g2 (hrr.mp h).1)]
    · rw [if_neg g]
      by_cases g2 : ρ (445 + 12 * k) = q ∧ 0 ≤ ρ (452 + 12 * k) ∧ ρ (451 + 12 * k) = id
      · rw [if_pos ⟨g2.1, Or.inr g2.2⟩, if_pos (hrr.mpr ⟨g2.1, Or.inr g2.2⟩)]
      · rw [if_neg (fun h => g2 ⟨h.1, h.2.resolve_left (by decide)⟩), if_neg (fun h => g2 ⟨(hrr.mp h).1, (hrr.mp h).2.resolve_left g⟩)]
theorem c_runOf (hD : DA S b) (hd : hdR C I b ρ) (hr : runsR I b ρ) (hk : runsOK C ρ) (hB : Bd ρ) (hq : isI q) (hid : isI id) : ev (d + 1) 42 0 [(2, b), (0, q), (0, id), uU, uU, uU] [] S I = some ((0, runOfS ρ q id), S, I) := by
  have r0 := hk.1
  rw [E42_0, c_runOf1 hD hd hr hk hB hq hid _ 0 _ _ (by decide) (by omega) rfl, Int.sub_zero]
  rfl
theorem ringOfS_b (h : qOK C ρ q) : -1 ≤ ringOfS ρ q id ∧ (0 ≤ ringOfS ρ q id → ringOfS ρ q id < ρ (89 * q) - ρ (89 * q + 3)) ∧ ringOfS ρ q id ≤ 7 := by
  have c := h.1
  unfold cntsOK at c
  unfold ringOfS
  rcases fnd_lo (fun k => decide (ρ (rAt q k) = id)) (ρ (89 * q) - ρ (89 * q + 3)).toNat (ρ (89 * q + 3)) with e | ⟨e, e2, _⟩
  · rw [if_pos (by omega)]; omega
  · rw [if_neg (by omega)]; omega
theorem runOfS_b (h0 : 0 ≤ ρ 493) : -1 ≤ runOfS ρ q id ∧ (runOfS ρ q id = -1 ∨ runOfS ρ q id < ρ 493) := fnd_b (by omega)
theorem DA_lane (hD : DA S b) (h0 : 0 ≤ q) (h1 : q < 5) : LA S (b + 11 + 4 * q) := (DA_e1 hD q h0 h1).2
/-- what calling back would answer -/
theorem c_judge (hb : 0 ≤ b) (hD : DA S b) (h : RelD C I b ρ) (hW : W0 C ρ) (hk : okC C) (hB : Bd ρ) (hq : isI q) (hid : isI id) : ev (d + 3) 41 0 [(2, b), (0, q), (0, id), uU, uU, uU] [] S I = some ((0, callsAnsS C ρ q id), S, I) := by
  have n1 := hk.2.1
  obtain ⟨h1, _, h3, _, h5, _⟩ := h
  rw [E41_0 hD, c_lane hD h1 hk hq, callsAnsS]
  simp only [Option.bind_some, psh_r]
  by_cases g : 0 ≤ q ∧ q < C.1
  · have hL := DA_lane hD g.1 (show q < 5 by omega)
    have hl := h5 q g.1 (by omega)
    have qo := hW.1 q g.1 (by omega)
    have co := qo.1
    unfold cntsOK at co
    have rb := ringOfS_b (id := id) qo
    rw [if_pos g, E41_5 (Or.inr hL), if_neg (by omega), w_small hid.1 hid.2, E41_20]
    by_cases g2 : 0 ≤ id ∧ id ≤ 15
    · rw [if_neg (by omega), if_pos (by omega), if_pos (show 0 ≤ q ∧ q < C.1 ∧ 0 ≤ id ∧ id ≤ 15 from ⟨g.1, g.2, g2.1, g2.2⟩), c_turnOf hL hl qo hB hid]
      simp only [Option.bind_some, psh_i]
      rw [E41_27 hD hL, w_small (by omega) (by omega)]
      by_cases g3 : 0 ≤ ringOfS ρ q id
      · have cm := qo.2.1 (ρ (89 * q + 3) + ringOfS ρ q id) (by omega) (by omega)
        have cb := cm
        unfold cmdOK at cb
        rw [if_neg (by omega), if_pos g3, E86_0 hL, hl.1.2.2.2.2.2.1, hl.2.1.1 _ (by omega) (by omega)]
        simp only [Option.bind_some, psh_i]
        rw [E41_41, c_ca cm]
        simp only [Option.bind_some, psh_i]
        rw [E41_44, w_small (by omega) (by omega), E41_53, E41_53]
        by_cases g4 : ρ (rAt q (ρ (89 * q + 3) + ringOfS ρ q id) + 4) = 1
        · rw [if_neg (by omega), if_pos g4]
        · rw [if_pos (by omega), if_neg g4]
      · have r := runOfS_b (ρ := ρ) (q := q) (id := id) hW.2.1.1
        have r4 := hW.2.1.2.1
        rw [if_pos (by omega), if_neg g3, c_runOf hD h1 h3 hW.2.1 hB hq hid]
        simp only [Option.bind_some, psh_i]
        rw [E41_60 hD, w_small (by omega) (by omega), E41_73, E41_93, E41_93]
        by_cases g4 : runOfS ρ q id < 0
        · rw [if_pos g4, if_pos g4]
        · have e6 := (h3 (runOfS ρ q id) (by omega) (by omega)).2
          have b6 := hB (456 + 12 * runOfS ρ q id)
          rw [if_neg g4, if_neg g4, if_pos (by omega), gdR_pos (by omega), e6, w_small (by omega) (by omega)]
          by_cases g5 : ρ (456 + 12 * runOfS ρ q id) < 2
          · rw [if_pos g5, if_pos g5]
          · rw [if_neg g5, if_neg g5]
    · rw [if_neg (show ¬ (0 ≤ q ∧ q < C.1 ∧ 0 ≤ id ∧ id ≤ 15) from fun h => g2 h.2.2)]
      by_cases g3 : id < 0
      · rw [if_pos g3]
      · rw [if_neg g3, if_neg (by omega)]
  · rw [if_neg g, E41_5 (Or.inl rfl), if_pos rfl, E41_20, if_neg (fun h => g ⟨h.1, h.2.1⟩)]
/-- is there any WORK -/
theorem c_any1 (hD : DA S b) (h1 : hdR C I b ρ) (h5 : lansR C I b ρ) (hk : okC C) (hB : Bd ρ) : ∀ (n : Nat) (k : Int), 0 ≤ k → n = (C.1 - k).toNat → k ≤ 5 →
    ev (d + 1) 34 2 [(2, b), (0, k)] [] S I = some ((0, if 0 ≤ fnd (workS ρ) n k then 1 else 0), S, I) := by
  have n0 := hk.1
  have n1 := hk.2.1
  have e := h1.1
  intro n
  induction n with
  | zero =>
    intro k h0 hn hk
    rw [E34_2 hD, e, w_small (z := k) (by omega) (by omega), w_small (by omega) (by omega), if_neg (by omega), E34_35]
    rfl
  | succ n ih =>
    intro k h0 hn hk
    rw [E34_2 hD, e, w_small (z := k) (by omega) (by omega), w_small (by omega) (by omega), if_pos (by omega), if_pos (by omega), gdR_pos (by omega), c_work (DA_lane hD h0 (by omega)) (h5 k h0 (by omega)) hB, fnd_succ]
    simp only [Option.bind_some, psh_i]
    rw [E34_24, ih (k + 1) (by omega) (by omega) (by omega)]
    by_cases g : workS ρ k = true
    · rw [if_pos g, if_pos g, if_neg (by decide), if_pos h0]
    · rw [if_neg g, if_neg g, if_pos (by decide)]
theorem c_any (hD : DA S b) (h1 : hdR C I b ρ) (h5 : lansR C I b ρ) (hk : okC C) (hB : Bd ρ) : ev (d + 1) 34 0 [(2, b), uU] [] S I = some ((0, if anyS C ρ = true then 1 else 0), S, I) := by
  have n0 := hk.1
  rw [E34_0, c_any1 hD h1 h5 hk hB C.1.toNat 0 (by decide) (by rw [Int.sub_zero]) (by decide)]
  unfold anyS
  by_cases g : 0 ≤ fnd (workS ρ) C.1.toNat 0
  · rw [if_pos g, if_pos (decide_eq_true g)]
  · rw [if_neg g, if_neg (by simpa using g)]
/-- the first QUEUE of a CLASS behind its LAST -/
theorem c_beh1 {c : Int} (hb : 0 ≤ b) (hD : DA S b) (h1 : hdR C I b ρ) (h5 : lansR C I b ρ) (hk : okC C) (hB : Bd ρ) (hl0 : 0 ≤ ρ (822 + c)) (hl1 : ρ (822 + c) ≤ 4) (hc0 : 0 ≤ c) (hc1 : c < 4) : ∀ (n : Nat) (k : Int) (x y : AV), 1 ≤ k → k ≤ 6 → n = (6 - k).toNat →
    ev (d + 2) 36 22 [(2, b), (0, c), (0, ρ (822 + c)), (0, k), x, y] [] S I = some ((0, if fnd (behIs C ρ c) n k < 0 then -1 else (ρ (822 + c) + fnd (behIs C ρ c) n k) % 5), S, I) := by
  have n0 := hk.1
  have n1 := hk.2.1
  intro n
  induction n with
  | zero =>
    intro k x y k0 k1 hn
    rw [E36_22 hD, w_small (z := k) (by omega) (by omega), if_pos (by omega)]
    rfl
  | succ n ih =>
    intro k x y k0 k1 hn
    have m0 : 0 ≤ (ρ (822 + c) + k) % 5 := Int.emod_nonneg _ (by decide)
    have m1 : (ρ (822 + c) + k) % 5 < 5 := Int.emod_lt_of_pos _ (by decide)
    rw [E36_22 hD, w_small (z := k) (by omega) (by omega), if_neg (by omega), iRem_pos (by omega) (by omega) (by decide) (by decide), c_lane hD h1 hk ⟨by omega, by omega⟩, fnd_succ]
    simp only [Option.bind_some, psh_r]
    by_cases g : (ρ (822 + c) + k) % 5 < C.1
    · have hL := DA_lane hD m0 m1
      have hl := h5 _ m0 m1
      have kk := hk.2.2 _ m0 g
      rw [if_pos (show 0 ≤ (ρ (822 + c) + k) % 5 ∧ (ρ (822 + c) + k) % 5 < C.1 from ⟨m0, g⟩), E36_40 (Or.inr hL), if_neg (by omega), (hl.1.1 g).2.2.1, w_small (z := C.2.2.2.1 _) (by omega) (by omega), w_small (z := c) (by omega) (by omega), c_work hL hl hB, E36_67, ih (k + 1) _ _ (by omega) (by omega) (by omega)]
      simp only [Option.bind_some, psh_i]
      rw [E36_61, E36_67, ih (k + 1) _ _ (by omega) (by omega) (by omega)]
      by_cases g2 : C.2.2.2.1 ((ρ (822 + c) + k) % 5) = c
      · rw [if_pos g2]
        by_cases g3 : workS ρ ((ρ (822 + c) + k) % 5) = true
        · rw [if_pos g3, if_neg (show ¬ w 1 = 0 by decide), if_pos (show behIs C ρ c k = true by simp [behIs, g, g2, g3]), if_neg (by omega)]
        · rw [if_neg g3, if_pos (show w 0 = 0 by decide), if_neg (show ¬ behIs C ρ c k = true by simp [behIs, g3])]
      · rw [if_neg g2, if_neg (show ¬ behIs C ρ c k = true by simp [behIs, g2])]
    · rw [if_neg (show ¬ (0 ≤ (ρ (822 + c) + k) % 5 ∧ (ρ (822 + c) + k) % 5 < C.1) from fun h => g h.2), E36_40 (Or.inl rfl), if_pos rfl, E36_67, ih (k + 1) _ _ (by omega) (by omega) (by omega), if_neg (show ¬ behIs C ρ c k = true by simp [behIs, g])]
theorem c_beh {c : Int} (hb : 0 ≤ b) (hD : DA S b) (h1 : hdR C I b ρ) (h2 : arR I b ρ) (h5 : lansR C I b ρ) (hk : okC C) (hB : Bd ρ) (hm : miscOK ρ) (hc0 : 0 ≤ c) (hc1 : c < 4) : ev (d + 2) 36 0 [(2, b), (0, c), uU, uU, uU, uU] [] S I = some ((0, behS C ρ c), S, I) := by
  have l := hm.2.2.2.1 (822 + c) (by omega) (by omega)
  have e5 := h2.2.2 c hc0 hc1
  rw [E36_0 hD, w_small (z := c) (by omega) (by omega), if_neg (by omega), if_pos (by omega), gdR_pos (by omega), e5, E36_19, c_beh1 hb hD h1 h5 hk hB l.1 l.2 hc0 hc1 5 1 _ _ (by decide) (by decide) (by decide)]
  rfl
end r58
