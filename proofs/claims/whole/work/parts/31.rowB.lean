/-! the reference's row: writing, bells, taking -/
theorem lt_T {a b : Int} (h : a < b) : (a < b) = True := eq_true h
theorem lt_F {a b : Int} (h : ¬ a < b) : (a < b) = False := eq_false h
theorem le_T {a b : Int} (h : a ≤ b) : (a ≤ b) = True := eq_true h
theorem le_F {a b : Int} (h : ¬ a ≤ b) : (a ≤ b) = False := eq_false h
theorem eq_T {a b : Int} (h : a = b) : (a = b) = True := eq_true h
theorem eq_F {a b : Int} (h : ¬ a = b) : (a = b) = False := eq_false h
def setR (I : II) (r : Int) (f : RW) : II := fun a => if a = r then f else I a
theorem setR_same {I : II} {r : Int} {f : RW} : setR I r f r = f := by simp [setR]
theorem setR_oth {I : II} {r a : Int} {f : RW} (h : a ≠ r) : setR I r f a = I a := by simp [setR, h]
theorem setR_set {I : II} {r : Int} {f g : RW} : setR (setR I r f) r g = setR I r g := by funext a; unfold setR; split <;> rfl
theorem up2_set {I : II} {r k v : Int} : up2 I r k v = setR I r (updR (I r) k v) := by
  funext a j; unfold up2 setR updR; by_cases h : a = r
  · subst h; simp
  · simp [h]
theorem setR_id {I : II} {r : Int} : setR I r (I r) = I := by funext a; unfold setR; split <;> simp_all
/-- how many queues; slots, places, classes, shadows -/
abbrev CF : Type := Int × RW × RW × RW × RW
def cfM (I : II) : CF := (I 427 14, I 434, I 435, I 436, I 437)
def okC (C : CF) : Prop := 0 ≤ C.1 ∧ C.1 ≤ 5 ∧ ∀ q, 0 ≤ q → q < C.1 → 2 ≤ C.2.1 q ∧ C.2.1 q ≤ 8 ∧ 2 ≤ C.2.2.1 q ∧ C.2.2.1 q ≤ 8 ∧ 0 ≤ C.2.2.2.1 q ∧ C.2.2.2.1 q ≤ 3 ∧ (C.2.2.2.2 q = 0 ∨ C.2.2.2.2 q = 1)
/-- the row that is now, or then -/
def isRw (r : Int) : Prop := r = 438 ∨ r = 439
theorem isRw_K {S : SS} {r : Int} (hM : MA S 427) (h : isRw r) : KA S r 20 844 := by
  rcases h with rfl | rfl
  · exact MA_k20 hM
  · exact MA_k21 hM
def putsS (C : CF) (ρ : RW) (q op b v : Int) : Int × RW :=
  if 0 ≤ q ∧ q < C.1 ∧ 0 ≤ op ∧ op ≤ 4 ∧ 0 ≤ b ∧ b ≤ 9 ∧ 0 ≤ v ∧ v ≤ 99 then
    if ρ (89 * q) - ρ (89 * q + 4) < C.2.1 q - 1 then
      if freeS ρ q < 0 then (-3, ρ) else
        (freeS ρ q, updR (updR (updR (updR (updR (updR ρ (rAt q (ρ (89 * q))) (freeS ρ q)) (rAt q (ρ (89 * q)) + 1) op) (rAt q (ρ (89 * q)) + 2) b) (rAt q (ρ (89 * q)) + 3) v) (rAt q (ρ (89 * q)) + 4) 0) (89 * q) (ρ (89 * q) + 1))
    else (-2, ρ)
  else (-1, ρ)
section r31
variable {d : Nat} {S : SS} {I : II} {r q id k : Int}
theorem m_isQ (hM : MA S 427) (hq : isI q) (hn0 : 0 ≤ I 427 14) (hn1 : I 427 14 ≤ 5) : ev (d + 1) 210 0 [(2, 427), (0, q)] [] S I = some ((0, if 0 ≤ q ∧ q < I 427 14 then 1 else 0), S, I) := by
  rw [E210_0 hM, w_small hq.1 hq.2, w_small (z := I 427 14 - 1) (by omega) (by omega), m_in (by omega) (by omega) (by decide) (by decide) (by omega) (by omega)]
  simp only [Option.bind_some, psh_i]
  by_cases h : 0 ≤ q ∧ q < I 427 14
  · rw [if_pos (by omega), if_pos h, E210_13 (Or.inr rfl)]
  · rw [if_neg (by omega), if_neg h, E210_13 (Or.inl rfl)]
theorem m_sets {v : Int} (hK : KA S r 20 844) (h0 : 0 ≤ 89 * q + k) (h1 : 89 * q + k < 844) : ev d 230 0 [(2, r), (0, q), (0, k), (0, v)] [] S I = some (uU, S, up2 I r (89 * q + k) v) := by
  rw [E230_0 hK, w_small (by omega) (by omega), gdR_pos (by omega)]
theorem m_puts {op b v : Int} (hM : MA S 427) (hr : isRw r) (hk : okC (cfM I)) (hC : Cn (I r)) (hq : isI q) (hop : isI op) (hb : isI b) (hv : isI v) : ev (d + 5) 218 0 [(2, 427), (2, r), (0, q), (0, op), (0, b), (0, v), uU, uU] [] S I =
    some ((0, (putsS (cfM I) (I r) q op b v).1), S, setR I r (putsS (cfM I) (I r) q op b v).2) := by
  have hK := isRw_K hM hr
  obtain ⟨hn0, hn1, hk⟩ := hk
  have hf : -1 ≤ freeS (I r) q ∧ (freeS (I r) q = -1 ∨ freeS (I r) q < 17) := fnd_b (by decide)
  rw [E218_0 hM, m_isQ hM hq hn0 hn1]
  simp only [Option.bind_some, psh_i]
  rw [E218_5, E218_46, w_small hop.1 hop.2, m_in (by omega) (by omega) (by decide) (by decide) (by decide) (by decide)]
  simp only [Option.bind_some, psh_i]
  rw [E218_17, E218_46, w_small hb.1 hb.2, m_in (by omega) (by omega) (by decide) (by decide) (by decide) (by decide)]
  simp only [Option.bind_some, psh_i]
  rw [E218_30, E218_46, w_small hv.1 hv.2, m_in (by omega) (by omega) (by decide) (by decide) (by decide) (by decide)]
  simp only [Option.bind_some, psh_i]
  rw [E218_43, E218_46]
  by_cases h : 0 ≤ q ∧ q < (cfM I).1 ∧ 0 ≤ op ∧ op ≤ 4 ∧ 0 ≤ b ∧ b ≤ 9 ∧ 0 ≤ v ∧ v ≤ 99
  · have hq0 := h.1
    have hqn : q < I 427 14 := h.2.1
    have k1 := hk q h.1 h.2.1
    simp only [cfM] at k1 
    have b1 := hC.1 (89 * q)
    have b2 := hC.1 (89 * q + 4)
    have b3 := (hC.2.1 q (by omega) (by omega))
    have b4 := rAt_b (q := q) (k := I r (89 * q)) (by omega) (by omega)
    rw [if_pos (show 0 ≤ q ∧ q < I 427 14 by omega), if_pos (show 0 ≤ op ∧ op ≤ 4 by omega), if_pos (show 0 ≤ b ∧ b ≤ 9 by omega), if_pos (show 0 ≤ v ∧ v ≤ 99 by omega), if_neg (by decide), if_neg (by decide), if_neg (by decide), if_neg (by decide), m_of hK (by omega) (by omega)]
    simp only [Option.bind_some, psh_i, Int.add_zero]
    rw [E218_54, m_of hK (by omega) (by omega)]
    simp only [Option.bind_some, psh_i]
    rw [E218_60 hM, w_small hq.1 hq.2, gdR_pos (by omega), w_small (by omega) (by omega), putsS, if_pos h]
    rw [w_small (z := I 434 q - 1) (by omega) (by omega)]
    by_cases h2 : I r (89 * q) - I r (89 * q + 4) < I 434 q - 1
    · rw [if_pos h2, if_pos (show _ < (cfM I).2.1 q - 1 from h2), m_free hK hC (by omega) (by omega)]
      simp only [Option.bind_some, psh_i]
      rw [E218_80, w_small (by omega) (by omega)]
      by_cases h3 : freeS (I r) q < 0
      · rw [if_pos h3, if_pos h3]; simp only [setR_id]
      · rw [if_neg h3, if_neg h3, m_of hK (by omega) (by omega)]
        simp only [Option.bind_some, psh_i, Int.add_zero]
        rw [E218_97, m_rAt (by omega) (by omega)]
        simp only [Option.bind_some, psh_i]
        rw [E218_100 hK, Int.add_zero, w_small (z := rAt q (I r (89 * q))) (by omega) (by omega), w_small (z := rAt q (I r (89 * q)) + 1) (by omega) (by omega), w_small (z := rAt q (I r (89 * q)) + 2) (by omega) (by omega), w_small (z := rAt q (I r (89 * q)) + 3) (by omega) (by omega), w_small (z := rAt q (I r (89 * q)) + 4) (by omega) (by omega), gdR_pos (by omega), gdR_pos (by omega), gdR_pos (by omega), gdR_pos (by omega), gdR_pos (by omega), m_of hK (by omega) (by omega)]
        simp only [Option.bind_some, psh_i, Int.add_zero]
        rw [E218_149, m_sets hK (by omega) (by omega)]
        simp only [Option.bind_some, psh_u, Int.add_zero]
        rw [E218_154]
        simp (disch := omega) only [up2_set, setR_set, setR_same, updR_miss]
    · rw [if_neg h2, if_neg (show ¬ _ < (cfM I).2.1 q - 1 from h2)]; simp only [setR_id]
  · rw [putsS, if_neg h]
    simp only [setR_id]
    simp only [cfM] at h
    by_cases a1 : 0 ≤ q ∧ q < I 427 14
    · rw [if_pos a1, if_neg (by decide)]
      by_cases a2 : 0 ≤ op ∧ op ≤ 4
      · rw [if_pos a2, if_neg (by decide)]
        by_cases a3 : 0 ≤ b ∧ b ≤ 9
        · rw [if_pos a3, if_neg (by decide), if_neg (show ¬ (0 ≤ v ∧ v ≤ 99) by omega), if_pos (by decide)]
        · rw [if_neg a3, if_pos (by decide)]
      · rw [if_neg a2, if_pos (by decide)]
    · rw [if_neg a1, if_pos (by decide)]
end r31
