/-! the reference's row: what is running ends -/
def doneS (ρ : RW) (k : Int) : RW :=
  let u := 445 + 12 * k
  let b := 828 + ρ (u + 3)
  if ρ (u + 2) = 0 then outS ρ (ρ u) (ρ (u + 1)) 0 (ρ b)
  else if ρ (u + 2) = 1 then outS (updR ρ b (ρ (u + 4))) (ρ u) (ρ (u + 1)) 0 (ρ (u + 4))
  else if ρ (u + 2) = 4 then outS ρ (ρ u) (ρ (u + 1)) 0 0
  else if ρ b = ρ (u + 4) then outS (updR (outS ρ (ρ u) (ρ (u + 1)) 0 (ρ b)) (828 + ρ (u + 8)) (ρ (u + 9))) (ρ u) (ρ (u + 6)) 0 (ρ (u + 9))
  else outS (outS ρ (ρ u) (ρ (u + 1)) 2 (ρ b)) (ρ u) (ρ (u + 6)) 3 0
def endsS (ρ : RW) (k : Int) : RW := runGoS (doneS ρ k) k
section r39
variable {d : Nat} {S : SS} {I : II} {r q a k : Int}
theorem m_ends (hM : MA S 427) (hr : isRw r) (hC : Cn (I r)) (h0 : 0 ≤ k) (h1 : k < I r 493) (h8 : I r 814 < 80)
    (hb : 0 ≤ I r (448 + 12 * k) ∧ I r (448 + 12 * k) < 10) (hb2 : I r (447 + 12 * k) ≠ 0 → I r (447 + 12 * k) ≠ 1 → I r (447 + 12 * k) ≠ 4 → I r 814 < 79 ∧ 0 ≤ I r (453 + 12 * k) ∧ I r (453 + 12 * k) < 10) : ev (d + 3) 238 0 [(2, 427), (2, r), (0, k), uU, uU, uU, uU, uU, uU, uU] [] S I = some (uU, S, setR I r (endsS (I r) k)) := by
  have hK := isRw_K hM hr
  have h4 := hC.2.2.1
  have c8 := hC.2.2.2.2.2
  have b1 := hC.1 (446 + 12 * k)
  have b2 := hC.1 (447 + 12 * k)
  have b4 := hC.1 (449 + 12 * k)
  have bb := hC.1 (828 + I r (448 + 12 * k))
  have e0 : 445 + 12 * k + 1 + 0 = 446 + 12 * k := by omega
  have e1 : 445 + 12 * k + 1 + 1 = 447 + 12 * k := by omega
  have e2 : 445 + 12 * k + 1 + 2 = 448 + 12 * k := by omega
  have e3 : 445 + 12 * k + 1 + 3 = 449 + 12 * k := by omega
  have s0 : 445 + 12 * k + 6 + 0 = 451 + 12 * k := by omega
  have s2 : 445 + 12 * k + 6 + 2 = 453 + 12 * k := by omega
  have s3 : 445 + 12 * k + 6 + 3 = 454 + 12 * k := by omega
  have u1 : 445 + 12 * k + 1 = 446 + 12 * k := by omega
  have u2 : 445 + 12 * k + 2 = 447 + 12 * k := by omega
  have u3 : 445 + 12 * k + 3 = 448 + 12 * k := by omega
  have u4 : 445 + 12 * k + 4 = 449 + 12 * k := by omega
  have u6 : 445 + 12 * k + 6 = 451 + 12 * k := by omega
  have u8 : 445 + 12 * k + 8 = 453 + 12 * k := by omega
  have u9 : 445 + 12 * k + 9 = 454 + 12 * k := by omega
  -- the end, from place 225 on
  have fin1 : ∀ (f : RW) (x3 x4 x5 x6 x7 : Int) (x8 x9 : AV), f 493 = I r 493 → ev (d + 3) 238 225 [(2, 427), (2, r), (0, k), (0, x3), (0, x4), (0, x5), (0, x6), (0, x7), x8, x9] [] S (setR I r f) = some (uU, S, setR I r (runGoS f k)) := by
    intro f x3 x4 x5 x6 x7 x8 x9 hf
    rw [E238_225, m_runGo hK h0 (by rw [setR_same, hf]; exact h1) (by rw [setR_same, hf]; exact h4)]
    simp only [Option.bind_some, psh_u]
    rw [E238_230, setR_same, setR_set]
  have o93 : ∀ (f : RW) (x y z v : Int), f 814 = I r 814 → outS f x y z v 493 = f 493 := fun f x y z v h => outS_oth (by omega) (by omega) (Or.inl (by decide))
  rw [E238_0, E224_0]
  simp only [Option.bind_some, psh_i, psh_r]
  rw [E238_5 hK, Int.add_zero, w_small (z := 445 + 12 * k) (by omega) (by omega), gdR_pos (by omega), E224_0]
  simp only [Option.bind_some, psh_i]
  rw [E238_13 hK, e0, e1, e2, e3, w_small (z := 446 + 12 * k) (by omega) (by omega), w_small (z := 447 + 12 * k) (by omega) (by omega), w_small (z := 448 + 12 * k) (by omega) (by omega), w_small (z := 449 + 12 * k) (by omega) (by omega), gdR_pos (by omega), gdR_pos (by omega), gdR_pos (by omega), w_small (z := I r (447 + 12 * k)) (by omega) (by omega), w_small (z := 828 + I r (448 + 12 * k)) (by omega) (by omega)]
  unfold endsS doneS
  simp only [u1, u2, u3, u4, u6, u8, u9]
  by_cases p0 : I r (447 + 12 * k) = 0
  · rw [if_pos p0, gdR_pos (by omega), m_out hK c8 (by omega)]
    simp only [Option.bind_some, psh_u]
    rw [E238_62, fin1 _ _ _ _ _ _ _ _ (o93 _ _ _ _ _ rfl), if_pos p0]
  rw [if_neg p0, if_neg p0]
  by_cases p1 : I r (447 + 12 * k) = 1
  · rw [if_pos p1, gdR_pos (by omega), gdR_pos (by omega), gdR_pos (by omega), up2_miss (show ¬ (r = r ∧ 449 + 12 * k = 828 + I r (448 + 12 * k)) by omega), m_out hK (by rw [up2_miss (by omega)]; exact c8) (by rw [up2_miss (by omega)]; omega)]
    simp only [Option.bind_some, psh_u, up2_set, setR_set, setR_same]
    rw [E238_95, fin1 _ _ _ _ _ _ _ _ (by rw [o93 _ _ _ _ _ (updR_miss (by omega)), updR_miss (by omega)]), if_pos p1]
  rw [if_neg p1, if_neg p1]
  by_cases p4 : I r (447 + 12 * k) = 4
  · rw [if_pos p4, m_out hK c8 (by omega)]
    simp only [Option.bind_some, psh_u]
    rw [E238_113, fin1 _ _ _ _ _ _ _ _ (o93 _ _ _ _ _ rfl), if_pos p4]
  have hb2 := hb2 p0 p1 p4
  rw [if_neg p4, if_neg p4, E224_0]
  simp only [Option.bind_some, psh_i]
  have a3 : 446 + 12 * k + 3 = 449 + 12 * k := by omega
  have b3 : 445 + 12 * k + 1 + 3 = 449 + 12 * k := by omega
  rw [E238_120 hK, a3, w_small (z := 828 + I r (448 + 12 * k)) (by omega) (by omega), w_small (z := 449 + 12 * k) (by omega) (by omega), gdR_pos (by omega), gdR_pos (by omega), w_small (z := I r (828 + I r (448 + 12 * k))) (by omega) (by omega), w_small (z := I r (449 + 12 * k)) (by omega) (by omega)]
  -- from place 159 on, either way
  have bq : ∀ st : Int, ev (d + 3) 238 159 [(2, 427), (2, r), (0, k), (0, I r (445 + 12 * k)), (0, 446 + 12 * k), (0, I r (446 + 12 * k)), (0, 828 + I r (448 + 12 * k)), (0, I r (447 + 12 * k)), (0, 445 + 12 * k + 6), (0, st)] [(0, if st = 0 then 2 else 0), (0, I r (446 + 12 * k)), (0, I r (445 + 12 * k)), (2, r)] S I =
      ev (d + 3) 238 166 [(2, 427), (2, r), (0, k), (0, I r (445 + 12 * k)), (0, 446 + 12 * k), (0, I r (446 + 12 * k)), (0, 828 + I r (448 + 12 * k)), (0, I r (447 + 12 * k)), (0, 445 + 12 * k + 6), (0, st)] [] S (setR I r (outS (I r) (I r (445 + 12 * k)) (I r (446 + 12 * k)) (if st = 0 then 2 else 0) (I r (828 + I r (448 + 12 * k))))) := by
    intro st
    rw [E238_159 hK, w_small (z := 828 + I r (448 + 12 * k)) (by omega) (by omega), gdR_pos (by omega), m_out hK c8 (by omega)]
    simp only [Option.bind_some, psh_u]
  by_cases p5 : I r (828 + I r (448 + 12 * k)) = I r (449 + 12 * k)
  · have bq1 := bq 1
    rw [if_neg (by decide)] at bq1
    have o1 : ∀ j, j < 494 ∨ 814 < j → outS (I r) (I r (445 + 12 * k)) (I r (446 + 12 * k)) 0 (I r (828 + I r (448 + 12 * k))) j = I r j := fun j h => outS_oth c8 (by omega) h
    have o14 : outS (I r) (I r (445 + 12 * k)) (I r (446 + 12 * k)) 0 (I r (828 + I r (448 + 12 * k))) 814 = I r 814 + 1 := outS_814
    rw [if_pos p5, if_pos p5, E238_143, if_neg (by decide), bq1, E238_166 hK, if_neg (by decide), s2, s3, w_small (z := 453 + 12 * k) (by omega) (by omega), w_small (z := 454 + 12 * k) (by omega) (by omega), gdR_pos (by omega), gdR_pos (by omega), setR_same, o1 _ (by omega), o1 _ (by omega), w_small (z := 828 + I r (453 + 12 * k)) (by omega) (by omega), gdR_pos (by omega)]
    simp only [up2_set, setR_set, setR_same]
    rw [E238_189 hK, s0, w_small (z := 451 + 12 * k) (by omega) (by omega), gdR_pos (by omega), if_neg (by decide), setR_same, updR_miss (by omega), o1 _ (by omega), E238_207 hK, if_neg (by decide), s3, w_small (z := 454 + 12 * k) (by omega) (by omega), gdR_pos (by omega), setR_same, updR_miss (by omega), o1 _ (by omega), E238_222, m_out hK (by rw [setR_same, updR_miss (by omega), o14]; omega) (by rw [setR_same, updR_miss (by omega), o14]; omega)]
    simp only [Option.bind_some, psh_u, setR_set, setR_same]
    rw [fin1 _ _ _ _ _ _ _ _ (by rw [outS_oth (by rw [updR_miss (by omega), o14]; omega) (by rw [updR_miss (by omega), o14]; omega) (Or.inl (by decide)), updR_miss (by omega), o1 _ (by omega)])]
  · have bq1 := bq 0
    rw [if_pos rfl] at bq1
    have o1 : ∀ j, j < 494 ∨ 814 < j → outS (I r) (I r (445 + 12 * k)) (I r (446 + 12 * k)) 2 (I r (828 + I r (448 + 12 * k))) j = I r j := fun j h => outS_oth c8 (by omega) h
    have o14 : outS (I r) (I r (445 + 12 * k)) (I r (446 + 12 * k)) 2 (I r (828 + I r (448 + 12 * k))) 814 = I r 814 + 1 := outS_814
    rw [if_neg p5, if_neg p5, E238_143, if_pos (by decide), bq1, E238_166 hK, if_pos (by decide), E238_189 hK, s0, w_small (z := 451 + 12 * k) (by omega) (by omega), gdR_pos (by omega), if_pos (by decide), setR_same, o1 _ (by omega), E238_207 hK, if_pos (by decide), E238_222, m_out hK (by rw [setR_same, o14]; omega) (by rw [setR_same, o14]; omega)]
    simp only [Option.bind_some, psh_u, setR_set, setR_same]
    rw [fin1 _ _ _ _ _ _ _ _ (by rw [outS_oth (by rw [o14]; omega) (by rw [o14]; omega) (Or.inl (by decide)), o1 _ (by omega)])]
end r39
