/-! whole runs -/
theorem m_ok : (List.range 325).all (fun i => (decide (mK i ≠ 1) || decide (mC i = 15) || (decide (2 ≤ mC i) && decide (mC i < 12))) && (decide (mK i ≠ 2) || decide (mR i = none))) = true := by decide +kernel
theorem m_ok1 {i : Nat} (h : i < 325) (hk : mK i = 1) (hc : mC i ≠ 15) : 2 ≤ mC i ∧ mC i < 12 := by
  have h1 := List.all_eq_true.mp m_ok i (List.mem_range.mpr h)
  simp only [Bool.and_eq_true, Bool.or_eq_true, decide_eq_true_eq] at h1
  rcases h1.1 with (h2 | h2) | h2
  · exact absurd hk h2
  · exact absurd h2 hc
  · exact h2
theorem m_ok2 {i : Nat} (h : i < 325) (hk : mK i = 2) : mR i = none := by
  have h1 := List.all_eq_true.mp m_ok i (List.mem_range.mpr h)
  simp only [Bool.and_eq_true, Bool.or_eq_true, decide_eq_true_eq] at h1
  rcases h1.2 with h2 | h2
  · exact absurd hk h2
  · exact h2
/-- what a step does to the counts -/
def MO (S : SS) (I : II) (r : SR) : Prop := (∀ q, r = some (.inl q) → sN S ≤ sN q.2.2.2.1 ∧ sL S ≤ sL q.2.2.2.1) ∧ ∀ q, r = some (.inr (.inl q)) → q.2.1 = S ∧ q.2.2 = I
theorem mo_none (S : SS) (I : II) : MO S I none := ⟨fun q h => (by cases h), fun q h => (by cases h)⟩
theorem mo_nx {S S1 : SS} {I I1 : II} {pc : Nat} {al st : List AV} (h : sN S ≤ sN S1 ∧ sL S ≤ sL S1) : MO S I (nx pc al st S1 I1) := ⟨fun q hq => (by cases hq; exact h), fun q hq => (by cases hq)⟩
theorem mo_ret {S : SS} {I : II} {v : AV} : MO S I (some (.inr (.inl (v, S, I)))) := ⟨fun q hq => (by cases hq), fun q hq => (by cases hq; exact ⟨rfl, rfl⟩)⟩
theorem mo_call {S : SS} {I : II} {v : Nat × List AV × List AV} : MO S I (some (.inr (.inr v))) := ⟨fun q hq => (by cases hq), fun q hq => (by cases hq)⟩
theorem mo_gd {S : SS} {I : II} {c : Prop} {inst : Decidable c} {r : SR} (h : MO S I r) : MO S I (@gd c inst r) := by
  unfold gd
  split
  · exact h
  · exact mo_none S I
theorem mo_ite {S : SS} {I : II} {c : Prop} {inst : Decidable c} {a b : SR} (h1 : MO S I a) (h2 : MO S I b) : MO S I (@ite _ c inst a b) := by
  split
  · exact h1
  · exact h2
theorem mo_jmp {S : SS} {I : II} {pc : Nat} {off : Int} {al st : List AV} : MO S I (jmp pc off al st S I) := mo_ite (mo_nx ⟨Nat.le_refl _, Nat.le_refl _⟩) (mo_none S I)
theorem mo_st (mi pc : Nat) (al st : List AV) (S : SS) (I : II) : MO S I (st1 mi pc al st S I) := by
  unfold st1
  split
  · rename_i q hd
    obtain ⟨i, ln⟩ := q
    cases i <;> simp only [st2, ldL, stL, stJ, bin, una, cmpd, getf, gets, putf, newA, newT, newO, newR, aldI, aldB, aldJ, aldR, astI, astJ, astR, alen, acpy, call, swt, swl, retI] <;>
      (repeat' (first | exact mo_none _ _ | exact mo_nx ⟨Nat.le_refl _, Nat.le_refl _⟩ | exact mo_nx ⟨Nat.le_succ _, Nat.le_add_right _ _⟩ | exact mo_ret | exact mo_call | exact mo_jmp | refine mo_gd ?_ | refine mo_ite ?_ ?_ | split))
  · exact mo_none S I
