/-! the reference's row: the shadows are looked at; what was fetched in all -/
def shadS (C : CF) (ρ : RW) (q : Int) : RW :=
  if C.2.2.2.2 q = 1 ∧ ρ (89 * q + 8) = 1 then
    if ρ (89 * q + 1) = ρ (89 * q + 3) then updR (updR (updR ρ (89 * q + 2) (ρ (89 * q + 1))) (89 * q + 7) (ρ (89 * q + 1))) (89 * q + 8) 0
    else updR ρ (89 * q + 2) (ρ (89 * q + 1))
  else ρ
def shadsS (C : CF) : Nat → Int → RW → RW
  | 0, _, ρ => ρ
  | n + 1, q, ρ => shadsS C n (q + 1) (shadS C ρ q)
def servedS (ρ : RW) : Int := ρ 840 + ρ 841 + ρ 842 + ρ 843
theorem BdN_shad {N : Int} {C : CF} {ρ : RW} {q : Int} (h : BdN N ρ) (hN : 0 ≤ N) : BdN N (shadS C ρ q) := by
  unfold shadS
  have b := h (89 * q + 1)
  split
  · split
    · exact BdN_upd (BdN_upd (BdN_upd h b.1 b.2) b.1 b.2) (by decide) hN
    · exact BdN_upd h b.1 b.2
  · exact h
section r41
variable {d : Nat} {S : SS} {I : II} {r q a k a2 : Int}
theorem m_shad1 (hM : MA S 427) (hr : isRw r) (hk : okC (cfM I)) (hB : Bd (I r)) (h0 : 0 ≤ q) (h1 : q < I 427 14) :
    ev (d + 1) 237 75 [(2, 427), (2, r), (0, a2), (0, q)] [] S I = ev (d + 1) 237 75 [(2, 427), (2, r), (0, a2), (0, q + 1)] [] S (setR I r (shadS (cfM I) (I r) q)) := by
  have hK := isRw_K hM hr
  have hn1 : I 427 14 ≤ 5 := hk.2.1
  have hn0 : 0 ≤ I 427 14 := hk.1
  have k1 := hk.2.2 q h0 h1
  simp only [cfM] at k1
  have b1 := hB (89 * q + 1)
  have b3 := hB (89 * q + 3)
  have b8 := hB (89 * q + 8)
  have er : shadS (cfM I) (I r) q = if I 437 q = 1 ∧ I r (89 * q + 8) = 1 then (if I r (89 * q + 1) = I r (89 * q + 3) then updR (updR (updR (I r) (89 * q + 2) (I r (89 * q + 1))) (89 * q + 7) (I r (89 * q + 1))) (89 * q + 8) 0 else updR (I r) (89 * q + 2) (I r (89 * q + 1))) else I r := rfl
  rw [E237_75 hM, w_small (z := q) (by omega) (by omega), w_small (z := I 427 14) (by omega) (by omega), if_pos h1, gdR_pos (by omega), w_small (z := I 437 q) (by omega) (by omega), er, E237_152]
  by_cases c1 : I 437 q = 1
  · rw [if_pos c1, m_of hK (by omega) (by omega)]
    simp only [Option.bind_some, psh_i]
    rw [E237_100, w_small (by omega) (by omega), E237_152]
    by_cases c2 : I r (89 * q + 8) = 1
    · rw [if_pos c2, if_pos (show I 437 q = 1 ∧ I r (89 * q + 8) = 1 from ⟨c1, c2⟩), m_of hK (by omega) (by omega)]
      simp only [Option.bind_some, psh_i]
      rw [E237_113, m_sets hK (by omega) (by omega)]
      simp only [Option.bind_some, psh_u]
      have e2 : up2 I r (89 * q + 2) (I r (89 * q + 1)) r (89 * q + 2) = I r (89 * q + 1) := up2_hit rfl rfl
      have e3 : up2 I r (89 * q + 2) (I r (89 * q + 1)) r (89 * q + 3) = I r (89 * q + 3) := up2_miss (by omega)
      rw [E237_116, m_of hK (by omega) (by omega), e2]
      simp only [Option.bind_some, psh_i]
      rw [E237_122, m_of hK (by omega) (by omega), e3]
      simp only [Option.bind_some, psh_i]
      rw [E237_128, w_small (by omega) (by omega), w_small (by omega) (by omega), E237_152]
      by_cases c3 : I r (89 * q + 1) = I r (89 * q + 3)
      · rw [if_pos c3, if_pos c3, m_of hK (by omega) (by omega), e2]
        simp only [Option.bind_some, psh_i]
        rw [E237_141, m_sets hK (by omega) (by omega)]
        simp only [Option.bind_some, psh_u]
        rw [E237_144, m_sets hK (by omega) (by omega)]
        simp only [Option.bind_some, psh_u]
        rw [E237_152]
        simp only [up2_set, setR_set, setR_same]
      · rw [if_neg c3, if_neg c3]
        simp only [up2_set]
    · rw [if_neg c2, if_neg (show ¬ (I 437 q = 1 ∧ I r (89 * q + 8) = 1) from fun h => c2 h.2), setR_id]
  · rw [if_neg c1, if_neg (show ¬ (I 437 q = 1 ∧ I r (89 * q + 8) = 1) from fun h => c1 h.1), setR_id]
theorem m_served {N : Int} (hK : KA S r 20 844) (hB : BdN N (I r)) (hN : N < 100000000) : ev d 243 0 [(2, r), uU, uU] [] S I = some ((0, servedS (I r)), S, I) := by
  rw [E243_0, E243_4 hK, w_small (z := 0) (by decide) (by decide), if_pos (by decide), show (840 : Int) + 0 = 840 from rfl, w_small (z := 840) (by decide) (by decide), gdR_pos (by decide), show (0 : Int) + 1 = 1 from rfl]
  rw [E243_4 hK, w_small (z := 1) (by decide) (by decide), if_pos (by decide), show (840 : Int) + 1 = 841 from rfl, w_small (z := 841) (by decide) (by decide), gdR_pos (by decide), show (1 : Int) + 1 = 2 from rfl]
  rw [E243_4 hK, w_small (z := 2) (by decide) (by decide), if_pos (by decide), show (840 : Int) + 2 = 842 from rfl, w_small (z := 842) (by decide) (by decide), gdR_pos (by decide), show (2 : Int) + 1 = 3 from rfl]
  rw [E243_4 hK, w_small (z := 3) (by decide) (by decide), if_pos (by decide), show (840 : Int) + 3 = 843 from rfl, w_small (z := 843) (by decide) (by decide), gdR_pos (by decide), show (3 : Int) + 1 = 4 from rfl]
  rw [E243_4 hK, w_small (z := 4) (by decide) (by decide), if_neg (by decide)]
  have e : (0 : Int) + I r 840 + I r 841 + I r 842 + I r 843 = servedS (I r) := by unfold servedS; omega
  rw [e]
end r41
