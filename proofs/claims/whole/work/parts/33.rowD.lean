/-! the reference's row: bells, taking, calling back -/
def callsAnsS (C : CF) (ρ : RW) (q id : Int) : Int :=
  if 0 ≤ q ∧ q < C.1 ∧ 0 ≤ id ∧ id ≤ 15 then
    if 0 ≤ ringOfS ρ q id then (if ρ (rAt q (ρ (89 * q + 3) + ringOfS ρ q id) + 4) = 1 then -3 else 0)
    else if runOfS ρ q id < 0 then -2 else if ρ (456 + 12 * runOfS ρ q id) < 2 then -4 else 1
  else -1
def breakS (ρ : RW) (q k : Int) : RW :=
  runGoS (if hasSecS (outS ρ q (ρ (446 + 12 * k)) 1 0) k = true then outS (outS ρ q (ρ (446 + 12 * k)) 1 0) q (outS ρ q (ρ (446 + 12 * k)) 1 0 (451 + 12 * k)) 1 0 else outS ρ q (ρ (446 + 12 * k)) 1 0) k
def callsS (C : CF) (ρ : RW) (q id : Int) : Int × RW :=
  if callsAnsS C ρ q id = 0 then (0, updR ρ (rAt q (ρ (89 * q + 3) + ringOfS ρ q id) + 4) 1)
  else if callsAnsS C ρ q id = 1 then (1, breakS ρ q (runOfS ρ q id))
  else (callsAnsS C ρ q id, ρ)
section r33
variable {d : Nat} {S : SS} {I : II} {r q id k : Int}
theorem m_rings (hM : MA S 427) (hr : isRw r) (hk : okC (cfM I)) (hC : Cn (I r)) (hq : isI q) : ev (d + 2) 234 0 [(2, 427), (2, r), (0, q), uU, uU, uU] [] S I =
    some ((0, (ringsS (cfM I) (I r) q).1), S, setR I r (ringsS (cfM I) (I r) q).2) := by
  have hK := isRw_K hM hr
  have hn0 : 0 ≤ I 427 14 := hk.1
  have hn1 : I 427 14 ≤ 5 := hk.2.1
  rw [E234_0 hM, m_isQ hM hq hn0 hn1, ringsS]
  simp only [Option.bind_some, psh_i]
  rw [E234_5]
  by_cases h : 0 ≤ q ∧ q < (cfM I).1
  · have h' : 0 ≤ q ∧ q < I 427 14 := h
    have k1 := hk.2.2 q h.1 h.2
    simp only [cfM] at k1
    have b0 := hC.1 (89 * q)
    have b1 := hC.1 (89 * q + 1)
    have b7 := hC.1 (89 * q + 7)
    have b8 := hC.1 838
    have b9 := hC.1 839
    rw [if_pos h', if_pos h, if_neg (by decide), m_of hK (by omega) (by omega)]
    simp only [Option.bind_some, psh_i]
    rw [E234_16, m_of hK (by omega) (by omega)]
    simp only [Option.bind_some, psh_i, Int.add_zero]
    rw [E234_23, w_small (by omega) (by omega), w_small (z := I r (89 * q)) (by omega) (by omega)]
    by_cases h1 : I r (89 * q + 1) = I r (89 * q)
    · rw [if_pos h1, if_pos h1, setR_id]
    · rw [if_neg h1, if_neg h1, m_sets hK (by omega) (by omega)]
      simp only [Option.bind_some, psh_u]
      rw [E234_42 hM, w_small hq.1 hq.2, gdR_pos (by omega)]
      have e437 : up2 I r (89 * q + 1) (I r (89 * q)) 437 = I 437 := by rcases hr with rfl | rfl <;> exact up2_oth (by decide)
      -- the end, from place 77 on
      have fin1 : ∀ a : Int, ev (d + 2) 234 77 [(2, 427), (2, r), (0, q), (0, I r (89 * q + 1)), (0, I r (89 * q)), uU] [(0, a)] S (up2 I r (89 * q + 1) (I r (89 * q))) =
          if a = 0 then some ((0, 0), S, setR I r (updR (updR (I r) (89 * q + 1) (I r (89 * q))) 839 (I r 839 + 1)))
          else if a = 1 then some ((0, 1), S, setR I r (updR (updR (updR (updR (I r) (89 * q + 1) (I r (89 * q))) (89 * q + 2) (I r (89 * q))) (89 * q + 8) (I 437 q)) 838 (I r 838 + 1)))
          else ev (d + 2) 234 77 [(2, 427), (2, r), (0, q), (0, I r (89 * q + 1)), (0, I r (89 * q)), uU] [(0, a)] S (up2 I r (89 * q + 1) (I r (89 * q))) := by
        intro a
        by_cases a0 : a = 0
        · subst a0
          rw [if_pos rfl, E234_77, if_pos (by decide), E234_105, if_pos (by decide), E234_119, m_flag (Or.inr rfl)]
          simp only [Option.bind_some, psh_i]
          rw [E234_122 hK, show (838 : Int) + 1 = 839 from rfl, w_small (z := 839) (by decide) (by decide), gdR_pos (by decide), gdR_pos (by decide), m_flag (Or.inl rfl)]
          simp only [Option.bind_some, psh_i]
          rw [E234_133]
          simp (disch := omega) only [up2_set, setR_set, setR_same, updR_miss]
        · by_cases a1 : a = 1
          · subst a1
            rw [if_neg (by decide), if_pos rfl, E234_77, if_neg (by decide), m_sets hK (by omega) (by omega)]
            simp only [Option.bind_some, psh_u]
            have e2 : up2 (up2 I r (89 * q + 1) (I r (89 * q))) r (89 * q + 2) (I r (89 * q)) 437 = I 437 := by
              rcases hr with rfl | rfl
              · rw [up2_oth (by decide), up2_oth (by decide)]
              · rw [up2_oth (by decide), up2_oth (by decide)]
            rw [E234_92 hM, w_small hq.1 hq.2, gdR_pos (by omega), m_sets hK (by omega) (by omega), e2]
            simp only [Option.bind_some, psh_u]
            rw [E234_105, if_neg (by decide), E234_119, m_flag (Or.inl rfl)]
            simp only [Option.bind_some, psh_i]
            rw [E234_122 hK, show (838 : Int) + 0 = 838 from rfl, w_small (z := 838) (by decide) (by decide), gdR_pos (by decide), gdR_pos (by decide), m_flag (Or.inr rfl)]
            simp only [Option.bind_some, psh_i]
            rw [E234_133]
            simp (disch := omega) only [up2_set, setR_set, setR_same, updR_miss]
          · rw [if_neg a0, if_neg a1]
      rw [e437, w_small (z := I 437 q) (by omega) (by omega)]
      by_cases h2 : I 437 q = 0
      · rw [if_pos h2, E234_72, fin1 1, if_neg (by decide), if_pos rfl, if_pos (show (cfM I).2.2.2.2 q = 0 ∨ I r (89 * q + 1) ≤ I r (89 * q + 7) ∧ I r (89 * q + 7) < I r (89 * q) from Or.inl h2)]
        rfl
      · rw [if_neg h2, m_of hK (by omega) (by omega)]
        simp only [Option.bind_some, psh_i]
        rw [up2_miss (show ¬ (r = r ∧ 89 * q + 7 = 89 * q + 1) by omega), E234_58, w_small (z := I r (89 * q + 7)) (by omega) (by omega), w_small (z := I r (89 * q + 1)) (by omega) (by omega), w_small (z := I r (89 * q) - 1) (by omega) (by omega), m_in (by omega) (by omega) (by omega) (by omega) (by omega) (by omega)]
        simp only [Option.bind_some, psh_i]
        rw [E234_69, E234_72, fin1 0, fin1 1]
        by_cases h3 : I r (89 * q + 1) ≤ I r (89 * q + 7) ∧ I r (89 * q + 7) < I r (89 * q)
        · rw [if_pos (show I r (89 * q + 1) ≤ I r (89 * q + 7) ∧ I r (89 * q + 7) ≤ I r (89 * q) - 1 by omega), if_neg (by decide), if_neg (by decide), if_pos rfl, if_pos (show (cfM I).2.2.2.2 q = 0 ∨ I r (89 * q + 1) ≤ I r (89 * q + 7) ∧ I r (89 * q + 7) < I r (89 * q) from Or.inr h3)]
          rfl
        · rw [if_neg (show ¬ (I r (89 * q + 1) ≤ I r (89 * q + 7) ∧ I r (89 * q + 7) ≤ I r (89 * q) - 1) by omega), if_pos (by decide), if_pos rfl, if_neg (show ¬ ((cfM I).2.2.2.2 q = 0 ∨ I r (89 * q + 1) ≤ I r (89 * q + 7) ∧ I r (89 * q + 7) < I r (89 * q)) from fun h4 => h4.elim h2 h3)]
  · rw [if_neg h, if_neg (show ¬ (0 ≤ q ∧ q < I 427 14) from h), if_pos (by decide), setR_id]
theorem m_takes (hM : MA S 427) (hr : isRw r) (hk : okC (cfM I)) (hC : Cn (I r)) (hq : isI q) : ev (d + 2) 257 0 [(2, 427), (2, r), (0, q), uU] [] S I =
    some ((0, (takesS (cfM I) (I r) q).1), S, setR I r (takesS (cfM I) (I r) q).2) := by
  have hK := isRw_K hM hr
  have hn0 : 0 ≤ I 427 14 := hk.1
  have hn1 : I 427 14 ≤ 5 := hk.2.1
  rw [E257_0 hM, m_isQ hM hq hn0 hn1, takesS]
  simp only [Option.bind_some, psh_i]
  rw [E257_5]
  by_cases h : 0 ≤ q ∧ q < (cfM I).1
  · have h' : 0 ≤ q ∧ q < I 427 14 := h
    have b0 := hC.1 (89 * q + 6)
    have b1 := hC.1 (89 * q + 5)
    have c1 := (hC.2.1 q (by omega) (by omega)).2.1
    have p1 := pAt_b (q := q) (k := I r (89 * q + 6)) (by omega) (by omega)
    have p2 : pAt q (I r (89 * q + 6)) + 3 ≠ 89 * q + 6 := by unfold pAt; omega
    rw [if_pos h', if_pos h, if_neg (by decide), m_of hK (by omega) (by omega)]
    simp only [Option.bind_some, psh_i]
    rw [E257_17, m_of hK (by omega) (by omega)]
    simp only [Option.bind_some, psh_i]
    rw [E257_23, w_small (by omega) (by omega), w_small (by omega) (by omega)]
    by_cases h1 : I r (89 * q + 6) = I r (89 * q + 5)
    · rw [if_pos h1, if_pos h1, setR_id]
    · rw [if_neg h1, if_neg h1, m_of hK (by omega) (by omega)]
      simp only [Option.bind_some, psh_i]
      rw [E257_37, m_pAt c1 (by omega)]
      simp only [Option.bind_some, psh_i]
      rw [E257_40, m_of hK (by omega) (by omega)]
      simp only [Option.bind_some, psh_i]
      rw [E257_52, m_sets hK (by omega) (by omega)]
      simp only [Option.bind_some, psh_u]
      rw [E257_57 hK, w_small (z := pAt q (I r (89 * q + 6)) + 3) (by omega) (by omega), gdR_pos (by omega), up2_miss (show ¬ (r = r ∧ pAt q (I r (89 * q + 6)) + 3 = 89 * q + 6) by omega), m_sets hK (by omega) (by omega)]
      simp only [Option.bind_some, psh_u]
      rw [E257_68]
      simp only [up2_set, setR_set, setR_same]
  · rw [if_neg h, if_neg (show ¬ (0 ≤ q ∧ q < I 427 14) from h), if_pos (by decide), setR_id]
theorem m_callsAns (hM : MA S 427) (hr : isRw r) (hk : okC (cfM I)) (hC : Cn (I r)) (hq : isI q) (hid : isI id) : ev (d + 3) 260 0 [(2, 427), (2, r), (0, q), (0, id), uU, uU] [] S I =
    some ((0, callsAnsS (cfM I) (I r) q id), S, I) := by
  have hK := isRw_K hM hr
  have hn0 : 0 ≤ I 427 14 := hk.1
  have hn1 : I 427 14 ≤ 5 := hk.2.1
  rw [E260_0 hM, m_isQ hM hq hn0 hn1, callsAnsS]
  simp only [Option.bind_some, psh_i]
  rw [E260_5, E260_20, w_small hid.1 hid.2, m_in (by omega) (by omega) (by decide) (by decide) (by decide) (by decide)]
  simp only [Option.bind_some, psh_i]
  rw [E260_17, E260_20]
  by_cases h : 0 ≤ q ∧ q < (cfM I).1 ∧ 0 ≤ id ∧ id ≤ 15
  · have h' : 0 ≤ q ∧ q < I 427 14 := ⟨h.1, h.2.1⟩
    have f0 := (hC.2.1 q (by omega) (by omega)).1
    have b3 := hC.1 (89 * q + 3)
    have b1 := ringOf_b (I r) q id f0 hC.1
    have b2 : -1 ≤ runOfS (I r) q id ∧ (runOfS (I r) q id = -1 ∨ runOfS (I r) q id < 4) := fnd_b (by have := hC.2.2.1; have := hC.2.2.2.2.1; omega)
    rw [if_pos h, if_pos h', if_neg (by decide), if_pos h.2.2, if_neg (by decide), m_ringOf hK hC (by omega) (by omega) hid]
    simp only [Option.bind_some, psh_i]
    rw [E260_28, w_small (by omega) (by omega)]
    by_cases h1 : 0 ≤ ringOfS (I r) q id
    · have r1 := rAt_b (q := q) (k := I r (89 * q + 3) + ringOfS (I r) q id) (by omega) (by omega)
      have r2 := hC.1 (rAt q (I r (89 * q + 3) + ringOfS (I r) q id) + 4)
      rw [if_neg (by omega), if_pos h1, m_of hK (by omega) (by omega)]
      simp only [Option.bind_some, psh_i]
      rw [E260_43, m_rAt (by omega) (by omega)]
      simp only [Option.bind_some, psh_i]
      rw [E260_49 hK, w_small (z := rAt q _ + 4) (by omega) (by omega), gdR_pos (by omega), w_small (by omega) (by omega), E260_62, E260_62]
      by_cases h2 : I r (rAt q (I r (89 * q + 3) + ringOfS (I r) q id) + 4) = 1
      · rw [if_pos h2, if_pos h2]
      · rw [if_neg h2, if_neg h2]
    · rw [if_pos (by omega), if_neg h1, m_runOf hK hC hq hid]
      simp only [Option.bind_some, psh_i]
      rw [E260_69, w_small (by omega) (by omega), E260_101, E224_0]
      simp only [Option.bind_some, psh_i]
      by_cases h2 : runOfS (I r) q id < 0
      · rw [if_pos h2, if_pos h2]
      · have e : 445 + 12 * runOfS (I r) q id + 11 = 456 + 12 * runOfS (I r) q id := by omega
        have r2 := hC.1 (456 + 12 * runOfS (I r) q id)
        rw [if_neg h2, if_neg h2, E260_87 hK, e, w_small (z := 456 + 12 * runOfS (I r) q id) (by omega) (by omega), gdR_pos (by omega), w_small (by omega) (by omega), E260_101, E260_101]
        by_cases h3 : I r (456 + 12 * runOfS (I r) q id) < 2
        · rw [if_pos h3, if_pos h3]
        · rw [if_neg h3, if_neg h3]
  · rw [if_neg h]
    by_cases a1 : 0 ≤ q ∧ q < I 427 14
    · rw [if_pos a1, if_neg (by decide), if_neg (show ¬ (0 ≤ id ∧ id ≤ 15) from fun h2 => h ⟨a1.1, a1.2, h2.1, h2.2⟩), if_pos (by decide)]
    · rw [if_neg a1, if_pos (by decide)]
theorem outS_oth {ρ : RW} {q id st res j : Int} (h0 : 0 ≤ ρ 814) (h1 : ρ 814 < 80) (hj : j < 494 ∨ 814 < j) : outS ρ q id st res j = ρ j := by
  unfold outS; simp (disch := omega) only [updR_miss]
theorem Bd_outS {ρ : RW} {q id st res : Int} (h : Bd ρ) (hq : -1 ≤ q ∧ q < 1073741824) (hi : -1 ≤ id ∧ id < 1073741824) (hs : -1 ≤ st ∧ st < 1073741824) (hr : -1 ≤ res ∧ res < 1073741824) (h1 : ρ 814 < 80) : Bd (outS ρ q id st res) :=
  Bd_upd (Bd_upd (Bd_upd (Bd_upd (Bd_upd h hq.1 hq.2) hi.1 hi.2) hs.1 hs.2) hr.1 hr.2) (by have := h 814; omega) (by omega)
theorem outS_814 {ρ : RW} {q id st res : Int} : outS ρ q id st res 814 = ρ 814 + 1 := by unfold outS; exact updR_hit rfl
theorem m_calls (hM : MA S 427) (hr : isRw r) (hk : okC (cfM I)) (hC : Cn (I r)) (hq : isI q) (hid : isI id) (ho : callsAnsS (cfM I) (I r) q id = 1 → I r 814 < 80 ∧ (hasSecS (I r) (runOfS (I r) q id) = true → I r 814 < 79)) : ev (d + 4) 259 0 [(2, 427), (2, r), (0, q), (0, id), uU, uU] [] S I =
    some ((0, (callsS (cfM I) (I r) q id).1), S, setR I r (callsS (cfM I) (I r) q id).2) := by
  have hK := isRw_K hM hr
  have hn0 : 0 ≤ I 427 14 := hk.1
  have hn1 : I 427 14 ≤ 5 := hk.2.1
  have hB := hC.1
  have ab : -4 ≤ callsAnsS (cfM I) (I r) q id ∧ callsAnsS (cfM I) (I r) q id ≤ 1 := by
    unfold callsAnsS
    split
    · split
      · split <;> omega
      · split
        · omega
        · split <;> omega
    · omega
  have av : 0 ≤ callsAnsS (cfM I) (I r) q id → (0 ≤ q ∧ q < (cfM I).1) ∧ (callsAnsS (cfM I) (I r) q id = 0 → 0 ≤ ringOfS (I r) q id) ∧ (callsAnsS (cfM I) (I r) q id = 1 → 0 ≤ runOfS (I r) q id) := by
    intro h
    unfold callsAnsS at h ⊢
    by_cases h1 : 0 ≤ q ∧ q < (cfM I).1 ∧ 0 ≤ id ∧ id ≤ 15
    · simp only [if_pos h1] at h ⊢
      refine ⟨⟨h1.1, h1.2.1⟩, ?_⟩
      by_cases h2 : 0 ≤ ringOfS (I r) q id
      · simp only [if_pos h2] at h ⊢
        refine ⟨fun _ => h2, fun h3 => ?_⟩
        exfalso; revert h3; split <;> intro h3 <;> omega
      · simp only [if_neg h2] at h ⊢
        by_cases h3 : runOfS (I r) q id < 0
        · simp only [if_pos h3] at h; omega
        · simp only [if_neg h3] at h ⊢
          refine ⟨fun h4 => ?_, fun _ => by omega⟩
          exfalso; revert h4; split <;> intro h4 <;> omega
    · simp only [if_neg h1] at h; omega
  rw [E259_0 hM, m_callsAns hM hr hk hC hq hid, callsS]
  simp only [Option.bind_some, psh_i]
  rw [E259_7, w_small (by omega) (by omega)]
  by_cases h0 : callsAnsS (cfM I) (I r) q id = 0
  · obtain ⟨h', a0, _⟩ := av (by omega)
    have a0 := a0 h0
    have h' : 0 ≤ q ∧ q < I 427 14 := h'
    have f0 := (hC.2.1 q (by omega) (by omega)).1
    have b3 := hC.1 (89 * q + 3)
    have b1 := ringOf_b (I r) q id f0 hC.1
    have r1 := rAt_b (q := q) (k := I r (89 * q + 3) + ringOfS (I r) q id) (by omega) (by omega)
    rw [if_pos h0, if_pos h0, m_of hK (by omega) (by omega)]
    simp only [Option.bind_some, psh_i]
    rw [E259_22, m_ringOf hK hC (by omega) (by omega) hid]
    simp only [Option.bind_some, psh_i]
    rw [E259_28, m_rAt (by omega) (by omega)]
    simp only [Option.bind_some, psh_i]
    rw [E259_32 hK, w_small (z := rAt q _ + 4) (by omega) (by omega), gdR_pos (by omega), E259_36, h0, w_small (z := 0) (by decide) (by decide), if_neg (by decide), E259_102, up2_set]
  · rw [if_neg h0, if_neg h0, E259_36, w_small (by omega) (by omega)]
    by_cases h1 : callsAnsS (cfM I) (I r) q id = 1
    · obtain ⟨h', _, a1⟩ := av (by omega)
      have a1 := a1 h1
      have h' : 0 ≤ q ∧ q < I 427 14 := h'
      have b2 : -1 ≤ runOfS (I r) q id ∧ (runOfS (I r) q id = -1 ∨ runOfS (I r) q id < I r 493) := fnd_b (by have := hC.2.2.2.2.1; omega)
      have c4 := hC.2.2.1
      have c5 := hC.2.2.2.2.2
      obtain ⟨ho1, ho2⟩ := ho h1
      rw [if_pos h1, if_pos h1, m_runOf hK hC hq hid]
      simp only [Option.bind_some, psh_i]
      generalize hg : runOfS (I r) q id = k at a1 b2 ho2 ⊢
      have hse : hasSecS (outS (I r) q (I r (446 + 12 * k)) 1 0) k = hasSecS (I r) k := by unfold hasSecS; rw [outS_oth c5 ho1 (Or.inl (by omega))]
      have e1 : 445 + 12 * k + 1 + 0 = 446 + 12 * k := by omega
      have e2 : 445 + 12 * k + 6 + 0 = 451 + 12 * k := by omega
      have v1 := hB (446 + 12 * k)
      have v2 := hB (451 + 12 * k)
      rw [E259_48, E224_0]
      simp only [Option.bind_some, psh_i, psh_r]
      rw [E259_58 hK, e1, w_small (z := 446 + 12 * k) (by omega) (by omega), gdR_pos (by omega), m_out hK c5 (by omega)]
      simp only [Option.bind_some, psh_u]
      have B1 : Bd (outS (I r) q (I r (446 + 12 * k)) 1 0) := Bd_outS hB ⟨by omega, by omega⟩ v1 ⟨by decide, by decide⟩ ⟨by decide, by decide⟩ (by omega)
      rw [E259_68, m_hasSec hK (by rw [setR_same]; exact B1) a1 (by omega), setR_same]
      simp only [Option.bind_some, psh_i]
      have fin1 : ∀ J : II, J r 493 = I r 493 → ev (d + 4) 259 96 [(2, 427), (2, r), (0, q), (0, id), (0, callsAnsS (cfM I) (I r) q id), (0, k)] [] S J = some ((0, 1), S, setR J r (runGoS (J r) k)) := by
        intro J hJ
        rw [E259_96, m_runGo hK a1 (by omega) (by omega)]
        simp only [Option.bind_some, psh_u]
        rw [E259_102, h1]
      rw [E259_74]
      by_cases h2 : hasSecS (outS (I r) q (I r (446 + 12 * k)) 1 0) k = true
      · have ho3 := ho2 (by rw [← hse]; exact h2)
        rw [if_pos h2, if_neg (by decide), E224_0]
        simp only [Option.bind_some, psh_i, psh_r]
        rw [E259_85 hK, e2, w_small (z := 451 + 12 * k) (by omega) (by omega), gdR_pos (by omega), setR_same, m_out hK (by rw [setR_same, outS_814]; omega) (by rw [setR_same, outS_814]; omega)]
        simp only [Option.bind_some, psh_u]
        rw [fin1 _ (by rw [setR_same, setR_same, outS_oth (by rw [outS_814]; omega) (by rw [outS_814]; omega) (Or.inl (by decide)), outS_oth c5 (by omega) (Or.inl (by decide))]), breakS, if_pos h2]
        simp only [setR_set, setR_same]
      · rw [if_neg h2, if_pos (by decide), fin1 _ (by rw [setR_same, outS_oth c5 (by omega) (Or.inl (by decide))]), breakS, if_neg h2]
        simp only [setR_set, setR_same]
    · rw [if_neg h1, if_neg h1, E259_102, setR_id]
end r33
