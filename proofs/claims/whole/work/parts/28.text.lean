/-! the cells at rest, what a call leaves alone; THE TEXT, what was heard -/
def SH (S : SS) : Prop := QA S 0 ∧ MA S 427
def FR (P Q : Int → Prop) (I I2 : II) : Prop := (∀ a, a ≠ 427 → ¬ P a → I2 a = I a) ∧ ∀ k, ¬ Q k → I2 427 k = I 427 k
def cT (I : II) : Prop := 0 ≤ I 1 1 ∧ I 1 1 ≤ 80 ∧ I 427 4 = I 1 1 ∧ ∀ j, 0 ≤ j → j < I 1 1 → I 429 j = I 2 j ∧ 0 ≤ I 2 j ∧ I 2 j < 256
def cR (I : II) : Prop := 0 ≤ I 3 1 ∧ I 3 1 ≤ 12 ∧ I 427 1 = I 3 1 ∧ ∀ j, 0 ≤ j → j < I 3 1 → I 428 j = I 4 j
def cH (I : II) : Prop := 0 ≤ I 424 2 ∧ I 424 2 ≤ 12 ∧ I 427 36 = I 424 2 ∧ ∀ j, 0 ≤ j → j < I 424 2 → I 448 j = I 425 j ∧ I 449 j = I 426 j ∧ 0 ≤ I 425 j ∧ I 425 j < 4 ∧ 0 ≤ I 426 j ∧ I 426 j < 10
theorem cT_fr {P Q : Int → Prop} {I I2 : II} (h : FR P Q I I2) (h1 : ¬ P 1) (h2 : ¬ P 2) (h3 : ¬ P 429) (h4 : ¬ Q 4) (c : cT I) : cT I2 := by
  unfold cT at *; rw [h.1 1 (by decide) h1, h.1 2 (by decide) h2, h.1 429 (by decide) h3, h.2 4 h4]; exact c
theorem cR_fr {P Q : Int → Prop} {I I2 : II} (h : FR P Q I I2) (h1 : ¬ P 3) (h2 : ¬ P 4) (h3 : ¬ P 428) (h4 : ¬ Q 1) (c : cR I) : cR I2 := by
  unfold cR at *; rw [h.1 3 (by decide) h1, h.1 4 (by decide) h2, h.1 428 (by decide) h3, h.2 1 h4]; exact c
theorem cH_fr {P Q : Int → Prop} {I I2 : II} (h : FR P Q I I2) (h1 : ¬ P 424) (h2 : ¬ P 425) (h3 : ¬ P 426) (h5 : ¬ P 448) (h6 : ¬ P 449) (h4 : ¬ Q 36) (c : cH I) : cH I2 := by
  unfold cH at *; rw [h.1 424 (by decide) h1, h.1 425 (by decide) h2, h.1 426 (by decide) h3, h.1 448 (by decide) h5, h.1 449 (by decide) h6, h.2 36 h4]; exact c
section r28
variable {d : Nat} {S : SS} {I : II}
theorem m_sign1 {v k : Int} (hM : MA S 427) (h0 : 0 ≤ I 427 4) (h1 : I 427 4 ≤ 76) (h2 : 0 ≤ k) (h3 : k < 4) : ev d 190 18 [(2, 427), (0, v), (0, k)] [] S I =
    ev d 190 18 [(2, 427), (0, v), (0, k + 1)] [] S (up2 I 429 (I 427 4 + k) (iShr v (24 - 8 * k) % 256)) := by
  rw [E190_18 hM, w_small (z := k) (by omega) (by omega), if_pos h3, w_small (by omega) (by omega), gdR_pos (by omega), and255]
theorem m_sign {v : Int} (hM : MA S 427) (h0 : 0 ≤ I 427 4) (h1 : I 427 4 ≤ 80) : ev d 190 0 [(2, 427), (0, v), uU] [] S I =
    if 76 < I 427 4 then some ((0, -1), S, up2 I 427 0 0) else some ((0, I 427 4 + 4), S, up2 (up2 (up2 (up2 (up2 (up2 I 427 0 0) 429 (I 427 4) (iShr v 24 % 256)) 429 (I 427 4 + 1) (iShr v 16 % 256)) 429 (I 427 4 + 2) (iShr v 8 % 256)) 429 (I 427 4 + 3) (iShr v 0 % 256)) 427 4 (I 427 4 + 4)) := by
  rw [E190_0 hM, w_small (z := I 427 4) (by omega) (by omega)]
  by_cases h : 76 < I 427 4
  · rw [if_pos h, if_pos h]
  · rw [if_neg h, if_neg h]
    have e0 : ∀ v : Int, up2 I 427 0 v 427 4 = I 427 4 := fun v => up2_miss (by omega)
    have e1 : ∀ (J : II) (k v : Int), up2 J 429 k v 427 4 = J 427 4 := fun J k v => up2_miss (by omega)
    rw [m_sign1 hM (by rw [e0]; omega) (by rw [e0]; omega) (by decide) (by decide)]
    rw [m_sign1 hM (by rw [e1, e0]; omega) (by rw [e1, e0]; omega) (by decide) (by decide)]
    rw [m_sign1 hM (by rw [e1, e1, e0]; omega) (by rw [e1, e1, e0]; omega) (by decide) (by decide)]
    rw [m_sign1 hM (by rw [e1, e1, e1, e0]; omega) (by rw [e1, e1, e1, e0]; omega) (by decide) (by decide)]
    rw [E190_18 hM, if_neg (by decide)]
    simp only [e0, e1, Int.reduceAdd, Int.reduceSub, Int.reduceMul, Int.add_zero]
theorem call_sign {v : Int} (hS : SH S) (hT : cT I) : ∃ r I1 I2, ev (d + 100) 140 0 [(2, 0), (0, v)] [] S I = some ((0, r), S, I1) ∧ ev (d + 100) 190 0 [(2, 427), (0, v), uU] [] S I1 = some ((0, r), S, I2) ∧
    FR (fun a => a = 1 ∨ a = 2 ∨ a = 429) (fun k => k = 0 ∨ k = 4) I I2 ∧ cT I2 := by
  obtain ⟨hQ, hM⟩ := hS
  have hTy : TA S 1 := QA_k0 hQ
  obtain ⟨t0, t1, t2, t3⟩ := hT
  have e1 := E140_0 (d := d + 99) (a1 := v) (I := I) hQ
  have e2 := m_sign (d := d + 100) (v := v) hM (I := I) (by omega) (by omega)
  simp only [c_add hTy t0 t1] at e1
  by_cases h : 76 < I 1 1
  · rw [if_pos h] at e1
    rw [if_pos (by omega)] at e2
    simp only [Option.bind_some, psh_i, E140_8] at e1
    refine ⟨_, _, _, e1, e2, ⟨fun a h1 h2 => up2_oth h1, fun k hk => up2_miss (by omega)⟩, ?_⟩
    exact ⟨by simpa (disch := omega) only [up2_miss] using t0, by simpa (disch := omega) only [up2_miss] using t1, by simpa (disch := omega) only [up2_miss] using t2, by simpa (disch := omega) only [up2_miss] using t3⟩
  · rw [if_neg h] at e1
    simp only [Option.bind_some, psh_i, E140_8, Int.reduceAdd] at e1
    have e3 := m_sign (d := d + 100) (v := v) hM (I := up2 (up2 (up2 (up2 (up2 (up2 (up2 (up2 I 2 (I 1 1) (iShr v 24 % 256)) 1 1 (I 1 1 + 1)) 2 (I 1 1 + 1) (iShr v 16 % 256)) 1 1 (I 1 1 + 2)) 2 (I 1 1 + 2) (iShr v 8 % 256)) 1 1 (I 1 1 + 3)) 2 (I 1 1 + 3) (iShr v 0 % 256)) 1 1 (I 1 1 + 4)) (by simp (disch := omega) only [up2_miss]; omega) (by simp (disch := omega) only [up2_miss]; omega)
    rw [if_neg (by simp (disch := omega) only [up2_miss]; omega)] at e3
    simp (disch := omega) only [up2_miss, t2] at e3
    refine ⟨_, _, _, e1, e3, ⟨fun a h1 h2 => by funext j; simp (disch := omega) only [up2_miss], fun k hk => by simp (disch := omega) only [up2_miss]⟩, ?_⟩
    refine ⟨by simp (disch := omega) only [up2_miss, up2_hit]; omega, by simp (disch := omega) only [up2_miss, up2_hit]; omega, by simp (disch := omega) only [up2_miss, up2_hit], fun j h0 h1 => ?_⟩
    simp (disch := omega) only [up2_miss, up2_hit] at h1
    rcases (by omega : j < I 1 1 ∨ j = I 1 1 ∨ j = I 1 1 + 1 ∨ j = I 1 1 + 2 ∨ j = I 1 1 + 3) with h2 | rfl | rfl | rfl | rfl
    · simp (disch := omega) only [up2_miss]
      exact t3 j h0 h2
    all_goals
      simp (disch := omega) only [up2_miss, up2_hit]
      exact ⟨trivial, by omega, by omega⟩
end r28
