/-! the reference's row: is all drained? -/
def idleIs (ρ : RW) (q : Int) : Bool := decide (ρ (89 * q + 1) ≠ ρ (89 * q + 3))
/-- a queue that is not through; -1: none -/
def drainedS (C : CF) (ρ : RW) : Bool := decide (ρ 493 = 0) && decide (ρ 814 = 0) && decide (fnd (idleIs ρ) C.1.toNat 0 < 0)
section r47
variable {d : Nat} {S : SS} {I : II} {r : Int}
theorem m_drained1 (hM : MA S 427) (hr : isRw r) (hk : okC (cfM I)) (hB : Bd (I r)) : ∀ (n : Nat) (k a : Int), 0 ≤ k → k ≤ 5 → (a = 0 ∨ a = 1) → n = (I 427 14 - k).toNat →
    ev (d + 1) 285 24 [(2, 427), (2, r), (0, a), (0, k)] [] S I = some ((0, if a = 1 ∧ fnd (idleIs (I r)) n k < 0 then 1 else 0), S, I) := by
  intro n
  have hK := isRw_K hM hr
  have hn0 : 0 ≤ I 427 14 := hk.1
  have hn1 : I 427 14 ≤ 5 := hk.2.1
  induction n with
  | zero =>
    intro k a h0 h1 ha hn
    rw [E285_24 hM ha, w_small (z := k) (by omega) (by omega), w_small (z := I 427 14) (by omega) (by omega), if_neg (by omega)]
    rcases ha with rfl | rfl
    · rw [if_neg (by omega)]
    · rw [if_pos ⟨rfl, show (-1 : Int) < 0 by decide⟩]
  | succ n ih =>
    intro k a h0 h1 ha hn
    have b1 := hB (89 * k + 1)
    have b3 := hB (89 * k + 3)
    rw [E285_24 hM ha, w_small (z := k) (by omega) (by omega), w_small (z := I 427 14) (by omega) (by omega), if_pos (by omega), E285_55, E285_56, ih (k + 1) 0 (by omega) (by omega) (Or.inl rfl) (by omega), fnd_succ]
    rcases ha with rfl | rfl
    · rw [if_pos (by decide), if_neg (by omega), if_neg (by omega)]
    · rw [if_neg (by decide), m_of hK (by omega) (by omega)]
      simp only [Option.bind_some, psh_i]
      rw [E285_42, m_of hK (by omega) (by omega)]
      simp only [Option.bind_some, psh_i]
      rw [E285_48, w_small (by omega) (by omega), w_small (by omega) (by omega), E285_55, E285_56, E285_56, ih (k + 1) 1 (by omega) (by omega) (Or.inr rfl) (by omega), ih (k + 1) 0 (by omega) (by omega) (Or.inl rfl) (by omega)]
      by_cases h : I r (89 * k + 1) = I r (89 * k + 3)
      · rw [if_pos h, if_neg (show ¬ idleIs (I r) k = true by simp [idleIs, h])]
        simp
      · rw [if_neg h, if_pos (show idleIs (I r) k = true by simp [idleIs, h])]
        have hk0 : ¬ k < 0 := by omega
        simp [hk0]
theorem m_drained (hM : MA S 427) (hr : isRw r) (hk : okC (cfM I)) (hB : Bd (I r)) : ev (d + 1) 285 0 [(2, 427), (2, r), uU, uU] [] S I = some ((0, if drainedS (cfM I) (I r) = true then 1 else 0), S, I) := by
  have hK := isRw_K hM hr
  have b1 := hB 493
  have b2 := hB 814
  have hn1 : I 427 14 ≤ 5 := hk.2.1
  have tail : ∀ a : Int, (a = 0 ∨ a = 1) → ev (d + 1) 285 21 [(2, 427), (2, r), uU, uU] [(0, a)] S I = some ((0, if a = 1 ∧ fnd (idleIs (I r)) (cfM I).1.toNat 0 < 0 then 1 else 0), S, I) := by
    intro a ha
    rw [E285_21, m_drained1 hM hr hk hB (I 427 14).toNat 0 a (by decide) (by decide) ha (by rw [Int.sub_zero])]
    rfl
  rw [E285_0 hK, w_small (z := 493) (by decide) (by decide), w_small (z := 814) (by decide) (by decide), gdR_pos (by decide), gdR_pos (by decide), w_small (z := I r 493) (by omega) (by omega), w_small (z := I r 814) (by omega) (by omega), E285_20, tail 1 (Or.inr rfl), tail 0 (Or.inl rfl)]
  by_cases h1 : I r 493 = 0
  · rw [if_pos h1]
    by_cases h2 : I r 814 = 0
    · rw [if_pos h2]
      by_cases h3 : fnd (idleIs (I r)) (cfM I).1.toNat 0 < 0
      · rw [if_pos ⟨rfl, h3⟩, if_pos (by simp [drainedS, h1, h2, h3])]
      · rw [if_neg (fun h => h3 h.2), if_neg (by simp [drainedS, h3])]
    · rw [if_neg h2, if_neg (by omega), if_neg (by simp [drainedS, h2])]
  · rw [if_neg h1, if_neg (by omega), if_neg (by simp [drainedS, h1])]
end r47
