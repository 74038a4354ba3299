/-! the reference's row: weights, depth, a copy of it -/
def weighsS (ρ : RW) (c v : Int) : Int × RW :=
  if 1 ≤ c ∧ c ≤ 3 ∧ 1 ≤ v ∧ v ≤ 9 then
    if ρ (814 + c) = v then (-2, ρ) else (10 + ρ (814 + c), updR (updR ρ (814 + c) v) (818 + c) v)
  else (-1, ρ)
def depthS (ρ : RW) (v : Int) : Int × RW :=
  if 1 ≤ v ∧ v ≤ 4 then (if ρ 826 = v then -2 else 10 + ρ 826, updR ρ 826 v) else (-1, ρ)
/-- row f over row g, from lo to 844 -/
def overS (lo : Int) (f g : RW) : RW := fun j => if lo ≤ j ∧ j < 844 then f j else g j
section r46
variable {d : Nat} {S : SS} {I : II} {r : Int}
theorem m_weighs {c v : Int} (hK : KA S r 20 844) (hB : Bd (I r)) (hc : isI c) (hv : isI v) : ev (d + 1) 264 0 [(2, r), (0, c), (0, v), uU] [] S I = some ((0, (weighsS (I r) c v).1), S, setR I r (weighsS (I r) c v).2) := by
  have b := hB (814 + c)
  rw [E264_0, w_small hc.1 hc.2, m_in (by omega) (by omega) (by decide) (by decide) (by decide) (by decide)]
  simp only [Option.bind_some, psh_i]
  rw [E264_9, E264_24, w_small hv.1 hv.2, m_in (by omega) (by omega) (by decide) (by decide) (by decide) (by decide)]
  simp only [Option.bind_some, psh_i]
  rw [E264_21 hK, E264_24, weighsS]
  by_cases h1 : 1 ≤ c ∧ c ≤ 3
  · rw [if_pos h1, if_neg (show ¬ w 1 = 0 by decide)]
    by_cases h2 : 1 ≤ v ∧ v ≤ 9
    · rw [if_pos h2, if_neg (show ¬ w 1 = 0 by decide), w_small (z := 814 + c) (by omega) (by omega), gdR_pos (by omega), w_small (z := I r (814 + c)) (by omega) (by omega), w_small hv.1 hv.2, gdR_pos (by omega), w_small (z := 818 + c) (by omega) (by omega), gdR_pos (by omega), if_pos (show 1 ≤ c ∧ c ≤ 3 ∧ 1 ≤ v ∧ v ≤ 9 from ⟨h1.1, h1.2, h2.1, h2.2⟩)]
      by_cases h3 : I r (814 + c) = v
      · rw [if_pos h3, if_pos h3, setR_id]
      · rw [if_neg h3, if_neg h3]
        simp only [up2_set, setR_set, setR_same]
    · rw [if_neg h2, if_pos (show w 0 = 0 by decide), if_neg (show ¬ (1 ≤ c ∧ c ≤ 3 ∧ 1 ≤ v ∧ v ≤ 9) from fun h => h2 h.2.2), setR_id]
  · rw [if_neg h1, if_pos (show w 0 = 0 by decide), if_neg (show ¬ (1 ≤ c ∧ c ≤ 3 ∧ 1 ≤ v ∧ v ≤ 9) from fun h => h1 ⟨h.1, h.2.1⟩), setR_id]
theorem m_depth {v : Int} (hK : KA S r 20 844) (hB : Bd (I r)) (hv : isI v) : ev (d + 1) 266 0 [(2, r), (0, v), uU] [] S I = some ((0, (depthS (I r) v).1), S, setR I r (depthS (I r) v).2) := by
  have b := hB 826
  rw [E266_0, w_small hv.1 hv.2, m_in (by omega) (by omega) (by decide) (by decide) (by decide) (by decide)]
  simp only [Option.bind_some, psh_i]
  rw [E266_9 hK, depthS]
  by_cases h1 : 1 ≤ v ∧ v ≤ 4
  · rw [if_pos h1, if_neg (show ¬ w 1 = 0 by decide), w_small (z := 826) (by decide) (by decide), gdR_pos (by decide), gdR_pos (by decide), w_small (z := I r 826) (by omega) (by omega), w_small hv.1 hv.2, E266_40, E266_40, if_pos h1]
    by_cases h3 : I r 826 = v
    · rw [if_pos h3, if_pos h3, up2_set]
    · rw [if_neg h3, if_neg h3, up2_set]
  · rw [if_neg h1, if_pos (show w 0 = 0 by decide), if_neg h1, setR_id]
theorem overS_step {lo : Int} {f g : RW} (h : lo < 844) : overS (lo + 1) f (updR g lo (f lo)) = overS lo f g := by
  funext j; unfold overS updR
  by_cases hj : j = lo
  · subst hj; rw [if_neg (by omega), if_pos rfl, if_pos (by omega)]
  · by_cases h2 : lo ≤ j ∧ j < 844
    · rw [if_pos (by omega), if_pos h2]
    · rw [if_neg (by omega), if_neg hj, if_neg h2]
theorem m_copies1 (hM : MA S 427) : ∀ (n : Nat) (k : Int) (I : II), 0 ≤ k → k ≤ 844 → n = (844 - k).toNat → ev d 280 2 [(2, 427), (0, k)] [] S I = some (uU, S, setR I 439 (overS k (I 438) (I 439))) := by
  intro n
  induction n with
  | zero =>
    intro k I h0 h1 hn
    rw [E280_2 hM, w_small (z := k) (by omega) (by omega), if_neg (by omega)]
    have e : overS k (I 438) (I 439) = I 439 := by funext j; unfold overS; rw [if_neg (by omega)]
    rw [e, setR_id]
  | succ n ih =>
    intro k I h0 h1 hn
    rw [E280_2 hM, w_small (z := k) (by omega) (by omega), if_pos (by omega), gdR_pos (by omega), gdR_pos (by omega), ih (k + 1) _ (by omega) (by omega) (by omega), up2_set, setR_same, setR_oth (by decide), setR_set, overS_step (by omega)]
theorem m_copies (hM : MA S 427) : ev d 280 0 [(2, 427), uU] [] S I = some (uU, S, setR I 439 (overS 0 (I 438) (I 439))) := by
  rw [E280_0, m_copies1 hM 844 0 I (by decide) (by decide) (by decide)]
end r46
