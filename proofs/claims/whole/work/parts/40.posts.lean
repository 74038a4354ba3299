/-! the reference's row: what there is room for is posted -/
def roomS (C : CF) (ρ : RW) (k : Int) : Bool := decide (ρ (89 * ρ (494 + 4 * k) + 5) - ρ (89 * ρ (494 + 4 * k) + 6) < C.2.2.1 (ρ (494 + 4 * k)) - 1)
def laidS (C : CF) (ρ : RW) (k : Int) : RW :=
  let o := 494 + 4 * k
  let q := ρ o
  let n := ρ (89 * q + 5)
  updR (updR (updR (updR (updR (updR ρ (pAt q n) (ρ (o + 1))) (pAt q n + 1) (ρ (o + 2))) (pAt q n + 2) (ρ (o + 3))) (pAt q n + 3) (ρ (89 * q + 3))) (pAt q n + 4) (if n / C.2.2.1 q % 2 = 0 then 1 else 0)) (89 * q + 5) (n + 1)
def postS (C : CF) (ρ : RW) (k : Int) : RW := outGoS (laidS C ρ k) k
section r40
variable {d : Nat} {S : SS} {I : II} {r q a k : Int}
theorem m_post1 {a3 a4 a5 a6 : AV} (hM : MA S 427) (hr : isRw r) (hk : okC (cfM I)) (hC : Cn (I r)) (h0 : 0 ≤ k) (h1 : k < I r 814) (hq0 : 0 ≤ I r (494 + 4 * k)) (hqn : I r (494 + 4 * k) < I 427 14) :
    ∃ b3 b4 b5 b6 : AV, ev (d + 3) 241 2 [(2, 427), (2, r), (0, k), a3, a4, a5, a6] [] S I =
      if roomS (cfM I) (I r) k = true then ev (d + 3) 241 2 [(2, 427), (2, r), (0, k), b3, b4, b5, b6] [] S (up2 (setR I r (postS (cfM I) (I r) k)) 427 24 (I 427 24 + 1))
      else ev (d + 3) 241 2 [(2, 427), (2, r), (0, k + 1), b3, b4, b5, a6] [] S I := by
  have hK := isRw_K hM hr
  have hn1 : I 427 14 ≤ 5 := hk.2.1
  have k1 := hk.2.2 _ hq0 hqn
  simp only [cfM] at k1
  have h8 := hC.2.2.2.1
  have z := hC.2.1 _ hq0 (by omega)
  have b8 := hC.1 814
  have bq := hC.1 (494 + 4 * k)
  have b5 := hC.1 (89 * I r (494 + 4 * k) + 5)
  have b6 := hC.1 (89 * I r (494 + 4 * k) + 6)
  have b3 := hC.1 (89 * I r (494 + 4 * k) + 3)
  have pb := pAt_b (q := I r (494 + 4 * k)) (k := I r (89 * I r (494 + 4 * k) + 5)) hq0 (by omega)
  refine ⟨(0, 494 + 4 * k), (0, I r (494 + 4 * k)), (0, I r (89 * I r (494 + 4 * k) + 5)), (0, pAt (I r (494 + 4 * k)) (I r (89 * I r (494 + 4 * k) + 5))), ?_⟩
  rw [E241_2 hK, w_small (z := 814) (by decide) (by decide), gdR_pos (by decide), w_small (z := k) (by omega) (by omega), w_small (z := I r 814) (by omega) (by omega), if_pos h1, E227_0]
  simp only [Option.bind_some, psh_i]
  rw [E241_15 hK, Int.add_zero, w_small (z := 494 + 4 * k) (by omega) (by omega), gdR_pos (by omega), m_of hK (by omega) (by omega)]
  simp only [Option.bind_some, psh_i]
  rw [E241_30, m_of hK (by omega) (by omega)]
  simp only [Option.bind_some, psh_i]
  rw [E241_42 hM, w_small (z := I r (494 + 4 * k)) (by omega) (by omega), gdR_pos (by omega), w_small (z := _ - _) (by omega) (by omega), w_small (z := I 435 (I r (494 + 4 * k)) - 1) (by omega) (by omega)]
  have er : roomS (cfM I) (I r) k = decide (I r (89 * I r (494 + 4 * k) + 5) - I r (89 * I r (494 + 4 * k) + 6) < I 435 (I r (494 + 4 * k)) - 1) := rfl
  rw [er]
  by_cases h2 : I r (89 * I r (494 + 4 * k) + 5) - I r (89 * I r (494 + 4 * k) + 6) < I 435 (I r (494 + 4 * k)) - 1
  · rw [if_pos h2, if_pos (decide_eq_true h2), m_pAt z.2.2.2 (by omega)]
    simp only [Option.bind_some, psh_i]
    generalize hP : pAt (I r (494 + 4 * k)) (I r (89 * I r (494 + 4 * k) + 5)) = P at pb
    rw [E241_62 hK, Int.add_zero, w_small (z := 494 + 4 * k + 1) (by omega) (by omega), w_small (z := 494 + 4 * k + 2) (by omega) (by omega), w_small (z := 494 + 4 * k + 3) (by omega) (by omega), w_small (z := P) (by omega) (by omega), w_small (z := P + 1) (by omega) (by omega), w_small (z := P + 2) (by omega) (by omega), gdR_pos (by omega), gdR_pos (by omega), gdR_pos (by omega), gdR_pos (by omega), gdR_pos (by omega), gdR_pos (by omega), m_of hK (by omega) (by omega)]
    simp only [Option.bind_some, psh_i, psh_r, up2_set, setR_set, setR_same]
    have q435 : ∀ f : RW, setR I r f 435 = I 435 := fun f => setR_oth (by rcases hr with rfl | rfl <;> decide)
    rw [E241_109 hK hM hr, w_small (z := P + 3) (by omega) (by omega), gdR_pos (by omega), w_small (z := I r (494 + 4 * k)) (by omega) (by omega), gdR_pos (by omega), q435, w_small (z := I 435 (I r (494 + 4 * k))) (by omega) (by omega), gdR_pos (by omega), iDiv_pos z.2.2.2 (by omega) (by omega) (by omega)]
    have dv0 : 0 ≤ I r (89 * I r (494 + 4 * k) + 5) / I 435 (I r (494 + 4 * k)) := Int.ediv_nonneg z.2.2.2 (by omega)
    have dv1 : I r (89 * I r (494 + 4 * k) + 5) / I 435 (I r (494 + 4 * k)) ≤ I r (89 * I r (494 + 4 * k) + 5) := Int.ediv_le_self _ z.2.2.2
    rw [iRem_pos dv0 (by omega) (by decide) (by decide)]
    simp only [up2_set, setR_set, setR_same]
    -- from place 135 on
    have fin1 : ∀ (v : Int) (f : RW), (v = 0 ∨ v = 1) → f 814 = I r 814 → ev (d + 3) 241 135 [(2, 427), (2, r), (0, k), (0, 494 + 4 * k), (0, I r (494 + 4 * k)), (0, I r (89 * I r (494 + 4 * k) + 5)), (0, P)] [(0, v), (0, P + 4), (2, r)] S (setR I r f) =
        ev (d + 3) 241 2 [(2, 427), (2, r), (0, k), (0, 494 + 4 * k), (0, I r (494 + 4 * k)), (0, I r (89 * I r (494 + 4 * k) + 5)), (0, P)] [] S (up2 (setR I r (outGoS (updR (updR f (P + 4) v) (89 * I r (494 + 4 * k) + 5) (I r (89 * I r (494 + 4 * k) + 5) + 1)) k)) 427 24 (I 427 24 + 1)) := by
      intro v f hv hf
      rw [E241_135, m_flag hv]
      simp only [Option.bind_some, psh_i]
      rw [E241_138 hK, w_small (z := P + 4) (by omega) (by omega), gdR_pos (by omega), m_sets hK (by omega) (by omega)]
      simp only [Option.bind_some, psh_u, up2_set, setR_set, setR_same]
      have e8 : updR (updR f (P + 4) v) (89 * I r (494 + 4 * k) + 5) (I r (89 * I r (494 + 4 * k) + 5) + 1) 814 = I r 814 := by rw [updR_miss (by omega), updR_miss (by omega)]; exact hf
      rw [E241_150, m_outGo hK h0 (by rw [setR_same, e8]; exact h1) (by rw [setR_same, e8]; exact h8)]
      simp only [Option.bind_some, psh_u, setR_set, setR_same]
      have ne : (427 : Int) ≠ r := by rcases hr with rfl | rfl <;> decide
      rw [E241_155 hM, E241_171]
      simp only [up2_set, setR_oth ne]
    have pe : P = pAt (I r (494 + 4 * k)) (I r (89 * I r (494 + 4 * k) + 5)) := hP.symm
    have fe : postS (cfM I) (I r) k = outGoS (updR (updR (updR (updR (updR (updR (I r) P (I r (494 + 4 * k + 1))) (P + 1) (I r (494 + 4 * k + 2))) (P + 2) (I r (494 + 4 * k + 3))) (P + 3) (I r (89 * I r (494 + 4 * k) + 3))) (P + 4) (if I r (89 * I r (494 + 4 * k) + 5) / I 435 (I r (494 + 4 * k)) % 2 = 0 then 1 else 0)) (89 * I r (494 + 4 * k) + 5) (I r (89 * I r (494 + 4 * k) + 5) + 1)) k := by
      rw [pe]; rfl
    rw [fe]
    by_cases h5 : I r (89 * I r (494 + 4 * k) + 5) / I 435 (I r (494 + 4 * k)) % 2 = 0
    · rw [if_pos h5, if_pos h5]
      simp (disch := omega) only [updR_miss]
      rw [fin1 1 _ (Or.inr rfl) (by simp (disch := omega) only [updR_miss]), up2_set]
    · rw [if_neg h5, if_neg h5]
      simp (disch := omega) only [updR_miss]
      rw [fin1 0 _ (Or.inl rfl) (by simp (disch := omega) only [updR_miss]), up2_set]
  · rw [if_neg h2, if_neg (by simpa using h2), E241_171]
end r40
