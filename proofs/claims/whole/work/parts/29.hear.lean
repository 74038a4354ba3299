/-! calls: end, heard, denies -/
abbrev isI (v : Int) : Prop := -2147483648 ≤ v ∧ v < 2147483648
section r29
variable {d : Nat} {S : SS} {I : II}
theorem call_end {v : Int} (hv : isI v) (hS : SH S) (hT : cT I) : ∃ r I1 I2, ev (d + 100) 141 0 [(2, 0), (0, v)] [] S I = some ((0, r), S, I1) ∧ ev (d + 100) 191 0 [(2, 427), (0, v)] [] S I1 = some ((0, r), S, I2) ∧
    FR (fun a => a = 1) (fun k => k = 0 ∨ k = 4) I I2 ∧ cT I2 := by
  obtain ⟨hQ, hM⟩ := hS
  have hTy : TA S 1 := QA_k0 hQ
  obtain ⟨t0, t1, t2, t3⟩ := hT
  have e1 := E141_0 (d := d + 99) (a1 := v) (I := I) hQ
  rw [E134_0 hTy, w_small hv.1 hv.2, w_small (z := I 1 1) (by omega) (by omega)] at e1
  have e2 : ∀ J : II, J 427 4 = I 1 1 → ev (d + 100) 191 0 [(2, 427), (0, v)] [] S J = if 0 ≤ v ∧ v ≤ I 1 1 then some ((0, 1), S, up2 (up2 J 427 0 0) 427 4 v) else some ((0, 0), S, up2 J 427 0 0) := by
    intro J hJ
    rw [E191_0 hM, hJ, w_small hv.1 hv.2, w_small (z := I 1 1) (by omega) (by omega), m_in (by omega) (by omega) (by decide) (by decide) (by omega) (by omega)]
    simp only [Option.bind_some, psh_i, E191_16 hM]
    by_cases h : 0 ≤ v ∧ v ≤ I 1 1
    · rw [if_pos h, if_pos h, if_neg (by decide)]
    · rw [if_neg h, if_neg h, if_pos (by decide)]
  by_cases h : 0 ≤ v ∧ v ≤ I 1 1
  · rw [if_neg (by omega), if_neg (by omega)] at e1
    simp only [Option.bind_some, psh_i, E141_8 (Or.inr rfl)] at e1
    have e3 := e2 (up2 I 1 1 v) (by rw [up2_miss (by omega)]; exact t2)
    rw [if_pos h] at e3
    refine ⟨_, _, _, e1, e3, ⟨fun a h1 h2 => by funext j; simp (disch := omega) only [up2_miss], fun k hk => by simp (disch := omega) only [up2_miss]⟩, ?_⟩
    refine ⟨by simp (disch := omega) only [up2_miss, up2_hit]; omega, by simp (disch := omega) only [up2_miss, up2_hit]; omega, by simp (disch := omega) only [up2_miss, up2_hit], fun j h0 h1 => ?_⟩
    simp (disch := omega) only [up2_miss, up2_hit] at h1 ⊢
    exact t3 j h0 (by omega)
  · have e3 := e2 I t2
    rw [if_neg h] at e3
    have e4 : ev (d + 100) 141 0 [(2, 0), (0, v)] [] S I = some ((0, 0), S, I) := by
      rw [e1]
      by_cases h1 : v < 0
      · rw [if_pos h1, E134_12]; simp only [Option.bind_some, psh_i, E141_8 (Or.inl rfl)]
      · rw [if_neg h1, if_pos (by omega), E134_12]; simp only [Option.bind_some, psh_i, E141_8 (Or.inl rfl)]
    refine ⟨_, _, _, e4, e3, ⟨fun a h1 h2 => by funext j; simp (disch := omega) only [up2_miss], fun k hk => by simp (disch := omega) only [up2_miss]⟩, ?_⟩
    exact cT_fr (P := fun a => False) (Q := fun k => k = 0) ⟨fun a h1 h2 => up2_oth h1, fun k hk => by simp (disch := omega) only [up2_miss]⟩ id id id (by decide) ⟨t0, t1, t2, t3⟩
theorem call_denies (hS : SH S) (hH : cH I) : ∃ r I1 I2, ev (d + 100) 177 0 [(2, 0)] [] S I = some ((0, r), S, I1) ∧ ev (d + 100) 294 0 [(2, 427), uU] [] S I1 = some ((0, r), S, I2) ∧
    FR (fun a => a = 424) (fun k => k = 0 ∨ k = 36) I I2 ∧ cH I2 := by
  obtain ⟨hQ, hM⟩ := hS
  obtain ⟨t0, t1, t2, t3⟩ := hH
  have e1 := E177_0 (d := d + 99) (I := I) hQ
  simp only [E68_0 (show HA S 424 from QA_k7 hQ), Option.bind_some, psh_i, E177_7] at e1
  have e2 := E294_0 (d := d + 100) (I := up2 I 424 2 0) hM
  rw [up2_miss (by omega), t2] at e2
  refine ⟨_, _, _, e1, e2, ⟨fun a h1 h2 => by funext j; simp (disch := omega) only [up2_miss], fun k hk => by simp (disch := omega) only [up2_miss]⟩, ?_⟩
  refine ⟨by simp (disch := omega) only [up2_miss, up2_hit]; omega, by simp (disch := omega) only [up2_miss, up2_hit]; omega, by simp (disch := omega) only [up2_miss, up2_hit], fun j h0 h1 => ?_⟩
  simp (disch := omega) only [up2_miss, up2_hit] at h1
  omega
/-- how many worths a kind has -/
def wrt (k : Int) : Int := if k = 0 then 5 else if k = 1 then 5 else if k = 2 then 10 else if k = 3 then 2 else 0
theorem c_worths {k : Int} (hk : isI k) : ev d 67 0 [(0, k)] [] S I = some ((0, wrt k), S, I) := by
  rw [E67_0, w_small hk.1 hk.2, wrt]
  by_cases h0 : k = 0
  · rw [if_pos h0, if_pos h0]
  by_cases h1 : k = 1
  · rw [if_neg h0, if_pos h1, if_neg h0, if_pos h1]
  by_cases h2 : k = 2
  · rw [if_neg h0, if_neg h1, if_pos h2, if_neg h0, if_neg h1, if_pos h2]
  by_cases h3 : k = 3
  · rw [if_neg h0, if_neg h1, if_neg h2, if_pos h3, if_neg h0, if_neg h1, if_neg h2, if_pos h3]
  · rw [if_neg h0, if_neg h1, if_neg h2, if_neg h3, if_neg h0, if_neg h1, if_neg h2, if_neg h3]
theorem m_highest {k : Int} (h0 : 0 ≤ k) (h1 : k < 4) : ev d 293 0 [(0, k)] [] S I = some ((0, wrt k - 1), S, I) := by
  rw [E293_0, w_small (by omega) (by omega)]
  rcases (by omega : k = 0 ∨ k = 1 ∨ k = 2 ∨ k = 3) with rfl | rfl | rfl | rfl <;> simp [E293_20, wrt]
theorem wrt_b (k : Int) : 0 ≤ wrt k ∧ wrt k ≤ 10 := by
  unfold wrt; split
  · omega
  · split
    · omega
    · split
      · omega
      · split <;> omega
theorem wrt_out {k : Int} (h : ¬ (0 ≤ k ∧ k ≤ 3)) : wrt k = 0 := by
  unfold wrt; rw [if_neg (by omega), if_neg (by omega), if_neg (by omega), if_neg (by omega)]
theorem c_hear {k v : Int} (hA : HA S 424) (hk : isI k) (hv : isI v) (h0 : 0 ≤ I 424 2) (h1 : I 424 2 ≤ 12) : ev (d + 1) 66 0 [(2, 424), (0, k), (0, v)] [] S I =
    if 0 ≤ v ∧ v < wrt k ∧ I 424 2 < 12 then some ((0, I 424 2 + 1), S, up2 (up2 (up2 I 425 (I 424 2) k) 426 (I 424 2) v) 424 2 (I 424 2 + 1)) else some ((0, -1), S, I) := by
  have hb := wrt_b k
  rw [E66_0, w_small hv.1 hv.2, c_worths hk]
  simp only [Option.bind_some, psh_i]
  rw [E66_9 hA, w_small (z := I 424 2) (by omega) (by omega), w_small hv.1 hv.2, w_small (z := wrt k) (by omega) (by omega), E66_28]
  by_cases h : 0 ≤ v ∧ v < wrt k ∧ I 424 2 < 12
  · rw [if_pos h, if_neg (by omega), if_pos (by omega), if_neg (by omega), if_pos (by omega), gdR_pos (by omega), gdR_pos (by omega)]
  · rw [if_neg h]
    by_cases h2 : v < 0
    · rw [if_pos h2]
    by_cases h3 : v < wrt k
    · rw [if_neg h2, if_pos h3, if_neg (by omega), if_neg (by omega)]
    · rw [if_neg h2, if_neg h3]
theorem m_heard {k v : Int} (hM : MA S 427) (hk : isI k) (hv : isI v) (h0 : 0 ≤ I 427 36) (h1 : I 427 36 ≤ 12) : ev (d + 2) 292 0 [(2, 427), (0, k), (0, v)] [] S I =
    if 0 ≤ v ∧ v < wrt k ∧ I 427 36 < 12 then some ((0, I 427 36 + 1), S, up2 (up2 (up2 (up2 I 427 0 0) 448 (I 427 36) k) 449 (I 427 36) v) 427 36 (I 427 36 + 1)) else some ((0, -1), S, up2 I 427 0 0) := by
  have hb := wrt_b k
  have e0 : up2 I 427 0 0 427 36 = I 427 36 := up2_miss (by omega)
  rw [E292_0 hM, w_small hk.1 hk.2, m_in (by omega) (by omega) (by decide) (by decide) (by decide) (by decide)]
  simp only [Option.bind_some, psh_i]
  rw [E292_14]
  by_cases h2 : 0 ≤ k ∧ k ≤ 3
  · rw [if_pos h2, if_neg (by decide), m_highest h2.1 (by omega)]
    simp only [Option.bind_some, psh_i]
    rw [E292_24, w_small hv.1 hv.2, w_small (z := wrt k - 1) (by omega) (by omega), m_in (by omega) (by omega) (by decide) (by decide) (by omega) (by omega)]
    simp only [Option.bind_some, psh_i]
    rw [E292_28 hM, e0, w_small (z := I 427 36) (by omega) (by omega), E292_40]
    by_cases h : 0 ≤ v ∧ v < wrt k ∧ I 427 36 < 12
    · rw [if_pos (show 0 ≤ v ∧ v ≤ wrt k - 1 by omega), if_pos h, if_neg (by decide), if_neg (by omega), gdR_pos (by omega), gdR_pos (by omega)]
    · rw [if_neg h]
      by_cases h3 : 0 ≤ v ∧ v ≤ wrt k - 1
      · rw [if_pos h3, if_neg (by decide), if_pos (by omega)]
      · rw [if_neg h3, if_pos (by decide)]
  · have := wrt_out h2
    rw [if_neg h2, if_pos (by decide), E292_40, if_neg (by omega)]
theorem call_heard {k v : Int} (hk : isI k) (hv : isI v) (hS : SH S) (hH : cH I) : ∃ r I1 I2, ev (d + 100) 176 0 [(2, 0), (0, k), (0, v)] [] S I = some ((0, r), S, I1) ∧ ev (d + 100) 292 0 [(2, 427), (0, k), (0, v)] [] S I1 = some ((0, r), S, I2) ∧
    FR (fun a => a = 424 ∨ a = 425 ∨ a = 426 ∨ a = 448 ∨ a = 449) (fun k => k = 0 ∨ k = 36) I I2 ∧ cH I2 := by
  obtain ⟨hQ, hM⟩ := hS
  obtain ⟨t0, t1, t2, t3⟩ := hH
  have hb := wrt_b k
  have e1 := E176_0 (d := d + 99) (a1 := k) (a2 := v) (I := I) hQ
  rw [c_hear (d := d + 98) (show HA S 424 from QA_k7 hQ) hk hv t0 t1] at e1
  have e2 := fun J (h0 : 0 ≤ J 427 36) (h1 : J 427 36 ≤ 12) => m_heard (d := d + 98) (k := k) (v := v) (I := J) hM hk hv h0 h1
  by_cases h : 0 ≤ v ∧ v < wrt k ∧ I 424 2 < 12
  · rw [if_pos h] at e1
    simp only [Option.bind_some, psh_i, E176_9, Int.reduceAdd] at e1
    have e3 := e2 (up2 (up2 (up2 I 425 (I 424 2) k) 426 (I 424 2) v) 424 2 (I 424 2 + 1)) (by simp (disch := omega) only [up2_miss]; omega) (by simp (disch := omega) only [up2_miss]; omega)
    simp (disch := omega) only [up2_miss, t2] at e3
    rw [if_pos h] at e3
    refine ⟨_, _, _, e1, e3, ⟨fun a h1 h2 => by funext j; simp (disch := omega) only [up2_miss], fun k hk => by simp (disch := omega) only [up2_miss]⟩, ?_⟩
    refine ⟨by simp (disch := omega) only [up2_miss, up2_hit]; omega, by simp (disch := omega) only [up2_miss, up2_hit]; omega, by simp (disch := omega) only [up2_miss, up2_hit], fun j h0 h1 => ?_⟩
    simp (disch := omega) only [up2_miss, up2_hit] at h1
    have hk3 : 0 ≤ k ∧ k ≤ 3 := by
      by_cases h2 : 0 ≤ k ∧ k ≤ 3
      · exact h2
      · have := wrt_out h2; omega
    rcases (by omega : j < I 424 2 ∨ j = I 424 2) with h2 | rfl
    · simp (disch := omega) only [up2_miss]
      exact t3 j h0 h2
    · simp (disch := omega) only [up2_miss, up2_hit]
      exact ⟨trivial, trivial, by omega, by omega, by omega, by omega⟩
  · rw [if_neg h] at e1
    simp only [Option.bind_some, psh_i, E176_9] at e1
    have e3 := e2 I (by omega) (by omega)
    rw [if_neg (by omega)] at e3
    refine ⟨_, _, _, e1, e3, ⟨fun a h1 h2 => by funext j; simp (disch := omega) only [up2_miss], fun k hk => by simp (disch := omega) only [up2_miss]⟩, ?_⟩
    exact cH_fr (P := fun a => False) (Q := fun k => k = 0) ⟨fun a h1 h2 => up2_oth h1, fun k hk => by simp (disch := omega) only [up2_miss]⟩ id id id id id (by decide) ⟨t0, t1, t2, t3⟩
end r29
