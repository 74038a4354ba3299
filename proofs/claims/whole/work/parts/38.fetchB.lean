/-! the reference's row: TO FETCH, the rest -/
theorem Cn_congr {N : Int} {ρ σ : RW} (h : Cn ρ) (hB : Bd σ) (he : ∀ j, (0 ≤ j ∧ j < 445) ∨ j = 493 ∨ j = 814 → σ j = ρ j) : Cn σ := by
  refine ⟨hB, fun q h0 h1 => ?_, ?_, ?_, ?_, ?_⟩
  · rw [he _ (by omega), he _ (by omega), he _ (by omega), he _ (by omega)]; exact h.2.1 q h0 h1
  · rw [he _ (by omega)]; exact h.2.2.1
  · rw [he _ (by omega)]; exact h.2.2.2.1
  · rw [he _ (by omega)]; exact h.2.2.2.2.1
  · rw [he _ (by omega)]; exact h.2.2.2.2.2
theorem credS_b (C : CF) (ρ : RW) : -1 ≤ credS C ρ ∧ credS C ρ < 4 ∧ (1 ≤ credS C ρ → 0 < ρ (818 + credS C ρ) ∧ 0 ≤ behS C ρ (credS C ρ)) := by
  unfold credS
  rcases fnd_lo (fun c => decide (0 < ρ (818 + c)) && decide (0 ≤ behS C ρ c)) 3 1 with h1 | ⟨h1, h2, h3⟩
  · rw [h1]; exact ⟨by decide, by decide, fun h => absurd h (by decide)⟩
  · simp only [Bool.and_eq_true, decide_eq_true_eq] at h3
    exact ⟨by omega, by omega, fun _ => h3⟩
/-- the choice can be made -/
def canS (C : CF) (ρ : RW) : Prop := 0 ≤ behS C ρ 0 ∨ 1 ≤ credS C (if credS C ρ < 0 then refS ρ else ρ)
theorem refS_oth {ρ : RW} {j : Int} (h : j < 819 ∨ 821 < j) : refS ρ j = ρ j := by unfold refS; simp (disch := omega) only [updR_miss]
theorem BdN_refS {N : Int} {ρ : RW} (h : BdN N ρ) : BdN N (refS ρ) := BdN_upd (BdN_upd (BdN_upd h (h 815).1 (h 815).2) (h 816).1 (h 816).2) (h 817).1 (h 817).2
theorem chosenS_oth {C : CF} {ρ : RW} {j : Int} (hc : canS C ρ) (h : j < 818 ∨ 825 < j) : (chosenS C ρ).2 j = ρ j := by
  unfold chosenS
  by_cases h0 : 0 ≤ behS C ρ 0
  · rw [if_pos h0]; exact updR_miss (by omega)
  · rw [if_neg h0]
    have hc := hc.resolve_left h0
    have b := credS_b C (if credS C ρ < 0 then refS ρ else ρ)
    simp only
    rw [updR_miss (by omega), updR_miss (by omega)]
    split
    · exact refS_oth (by omega)
    · rfl
theorem chosenS_BdN {N : Int} {C : CF} {ρ : RW} (hc : canS C ρ) (h : BdN N ρ) (hN : 4 ≤ N) : BdN N (chosenS C ρ).2 := by
  unfold chosenS
  have bb := behS_b C
  by_cases h0 : 0 ≤ behS C ρ 0
  · rw [if_pos h0]; exact BdN_upd h (bb ρ 0).1 (by have := (bb ρ 0).2; omega)
  · rw [if_neg h0]
    have hc := hc.resolve_left h0
    have b := credS_b C (if credS C ρ < 0 then refS ρ else ρ)
    have hB1 : BdN N (if credS C ρ < 0 then refS ρ else ρ) := by
      split
      · exact BdN_refS h
      · exact h
    simp only
    have b3 := (b.2.2 hc).1
    have b4 := hB1 (818 + credS C (if credS C ρ < 0 then refS ρ else ρ))
    exact BdN_upd (BdN_upd hB1 (by omega) (by omega)) (bb _ _).1 (by have := (bb (if credS C ρ < 0 then refS ρ else ρ) (credS C (if credS C ρ < 0 then refS ρ else ρ))).2; omega)
section r38
variable {d : Nat} {S : SS} {I : II} {r q a k : Int}
theorem m_got {N : Int} (hM : MA S 427) (hr : isRw r) (hk : okC (cfM I)) (hK : okK (kfM I)) (hB : BdN N (I r)) (hN0 : 100 ≤ N) (hN : N < 1073741820) (hC : Cn (I r)) (ht : 0 ≤ I r 827) (hq0 : 0 ≤ q) (hqn : q < I 427 14) (ha : ∃ k, a = rAt q k) (h4 : I r 493 < 4) (h8 : I r 814 < 80) :
    ∃ J, ev (d + 4) 246 12 [(2, 427), (2, r), (0, q), uU, uU, uU, uU, uU, uU, uU] [(0, a)] S I = some (uU, S, J) ∧ J r = gotS (kfM I) (cfM I) (I r) q a ∧ ∀ x, x ≠ r → x ≠ 432 → x ≠ 433 → J x = I x := by
  have hKA := isRw_K hM hr
  have hn1 : I 427 14 ≤ 5 := hk.2.1
  obtain ⟨k0, rfl⟩ := ha
  have ab := rAt_b (q := q) (k := k0) hq0 (by omega)
  have hBd := BdN_Bd hB (by omega)
  have c8 := hC.2.2.2.2.2
  have f0 := (hC.2.1 q hq0 (by omega)).1
  have b0 := hBd (rAt q k0)
  have b1 := hBd (rAt q k0 + 1)
  have b4 := hBd (rAt q k0 + 4)
  have b3 := hBd (89 * q + 3)
  have nb := rAt_b (q := q) (k := I r (89 * q + 3)) hq0 (by omega)
  have n1 := hBd (rAt q (I r (89 * q + 3)) + 1)
  have n4 := hBd (rAt q (I r (89 * q + 3)) + 4)
  rw [E246_12 hKA, Int.add_zero, w_small (z := rAt q k0) (by omega) (by omega), w_small (z := rAt q k0 + 1) (by omega) (by omega), w_small (z := rAt q k0 + 4) (by omega) (by omega), gdR_pos (by omega), gdR_pos (by omega), gdR_pos (by omega), w_small (z := I r (rAt q k0 + 4)) (by omega) (by omega), gotS]
  have setx : ∀ f : RW, ∀ x, x ≠ r → x ≠ 432 → x ≠ 433 → setR I r f x = I x := fun f x h1 _ _ => setR_oth h1
  by_cases h1 : I r (rAt q k0 + 4) = 1
  · rw [if_pos h1, if_pos h1, m_out hKA c8 h8]
    simp only [Option.bind_some, psh_u]
    rw [E246_45]
    exact ⟨_, rfl, setR_same, setx _⟩
  · rw [if_neg h1, if_neg h1, m_of hKA (by omega) (by omega)]
    simp only [Option.bind_some, psh_i]
    rw [E246_53, m_rAt f0 (by omega)]
    simp only [Option.bind_some, psh_i]
    -- unpaired
    have unp : ∀ p : Int, ev (d + 4) 246 115 [(2, 427), (2, r), (0, q), (0, rAt q k0), (0, I r (rAt q k0)), (0, I r (rAt q k0 + 1)), (0, rAt q (I r (89 * q + 3))), (0, p), uU, uU] [] S I = some (uU, S, setR I r (outS (I r) q (I r (rAt q k0)) 4 0)) := by
      intro p
      rw [E246_115, m_out hKA c8 h8]
      simp only [Option.bind_some, psh_u]
      rw [E246_124]
    by_cases h2 : I r (rAt q k0 + 1) = 2
    · have pr : ∀ v : Int, (v = if pairS (I r) q = true then 1 else 0) → ∃ J, ev (d + 4) 246 96 [(2, 427), (2, r), (0, q), (0, rAt q k0), (0, I r (rAt q k0)), (0, I r (rAt q k0 + 1)), (0, rAt q (I r (89 * q + 3))), uU, uU, uU] [(0, v)] S I = some (uU, S, J) ∧ J r = (if I r (rAt q k0 + 1) = 2 ∧ pairS (I r) q = false ∨ I r (rAt q k0 + 1) = 3 then outS (I r) q (I r (rAt q k0)) 4 0 else runS (kfM I) (cfM I) (I r) q (rAt q k0) (decide (I r (rAt q k0 + 1) = 2))) ∧ ∀ x, x ≠ r → x ≠ 432 → x ≠ 433 → J x = I x := by
        intro v hv
        rw [E246_96, w_small (z := I r (rAt q k0 + 1)) (by omega) (by omega), if_pos h2]
        by_cases hp : pairS (I r) q = true
        · rw [if_pos hp] at hv
          subst hv
          rw [if_neg (show ¬ w 1 = 0 by decide), if_neg (show ¬ (I r (rAt q k0 + 1) = 2 ∧ pairS (I r) q = false ∨ I r (rAt q k0 + 1) = 3) by rw [hp]; simp; omega)]
          have e : decide (I r (rAt q k0 + 1) = 2) = true := decide_eq_true h2
          rw [e]
          exact m_run hM hr hk hK hB hN0 hN hC ht hq0 hqn ⟨k0, rfl⟩ h4 true _ _ _ ⟨fun _ => h2, fun _ => rfl⟩ (by omega) ⟨by omega, by omega⟩ 0 1 rfl
        · rw [if_neg hp] at hv
          subst hv
          rw [if_pos (show w 0 = 0 by decide), if_pos (show I r (rAt q k0 + 1) = 2 ∧ pairS (I r) q = false ∨ I r (rAt q k0 + 1) = 3 from Or.inl ⟨h2, Bool.eq_false_iff.mpr hp⟩), unp]
          exact ⟨_, rfl, setR_same, setx _⟩
      rw [E246_56, w_small (z := I r (rAt q k0 + 1)) (by omega) (by omega), if_pos h2, m_work hKA hBd hq0 (by omega)]
      simp only [Option.bind_some, psh_i]
      rw [E246_69 hKA, w_small (z := rAt q (I r (89 * q + 3)) + 1) (by omega) (by omega), gdR_pos (by omega), w_small (z := I r (rAt q (I r (89 * q + 3)) + 1)) (by omega) (by omega), w_small (z := rAt q (I r (89 * q + 3)) + 4) (by omega) (by omega), gdR_pos (by omega), w_small (z := I r (rAt q (I r (89 * q + 3)) + 4)) (by omega) (by omega), E246_95]
      by_cases g1 : workS (I r) q = true
      · rw [if_pos g1, if_neg (show ¬ w 1 = 0 by decide)]
        by_cases g2 : I r (rAt q (I r (89 * q + 3)) + 1) = 3
        · rw [if_pos g2]
          by_cases g3 : I r (rAt q (I r (89 * q + 3)) + 4) = 0
          · rw [if_pos g3]
            exact pr 1 (by rw [if_pos]; simp [pairS, g1, g2, g3])
          · rw [if_neg g3]
            exact pr 0 (by rw [if_neg]; simp [pairS, g3])
        · rw [if_neg g2]
          exact pr 0 (by rw [if_neg]; simp [pairS, g2])
      · rw [if_neg g1, if_pos (show w 0 = 0 by decide)]
        exact pr 0 (by rw [if_neg]; simp [pairS, g1])
    · rw [E246_56, w_small (z := I r (rAt q k0 + 1)) (by omega) (by omega), if_neg h2, E246_95, E246_96, w_small (z := I r (rAt q k0 + 1)) (by omega) (by omega), if_neg h2]
      by_cases h3 : I r (rAt q k0 + 1) = 3
      · rw [E246_109 hM, w_small (z := I r (rAt q k0 + 1)) (by omega) (by omega), if_pos h3, unp, if_pos (show I r (rAt q k0 + 1) = 2 ∧ pairS (I r) q = false ∨ I r (rAt q k0 + 1) = 3 from Or.inr h3)]
        exact ⟨_, rfl, setR_same, setx _⟩
      · rw [if_neg (show ¬ (I r (rAt q k0 + 1) = 2 ∧ pairS (I r) q = false ∨ I r (rAt q k0 + 1) = 3) by omega)]
        have e : decide (I r (rAt q k0 + 1) = 2) = false := decide_eq_false h2
        rw [e]
        exact m_run hM hr hk hK hB hN0 hN hC ht hq0 hqn ⟨k0, rfl⟩ h4 false _ _ _ ⟨fun h => absurd h (by decide), fun h => absurd h h2⟩ h3 ⟨by omega, by omega⟩ 0 0 rfl
theorem m_fetches {N : Int} (hM : MA S 427) (hr : isRw r) (hk : okC (cfM I)) (hK : okK (kfM I)) (hB : BdN N (I r)) (hN0 : 100 ≤ N) (hN : N < 1073741810) (hC : Cn (I r)) (hl : okL (I r)) (ht : 0 ≤ I r 827) (hc : canS (cfM I) (I r)) (hq0 : 0 ≤ (chosenS (cfM I) (I r)).1) (hqn : (chosenS (cfM I) (I r)).1 < I 427 14) (h4 : I r 493 < 4) (h8 : I r 814 < 80) :
    ∃ J, ev (d + 6) 246 0 [(2, 427), (2, r), uU, uU, uU, uU, uU, uU, uU, uU] [] S I = some (uU, S, J) ∧ J r = fetchesS (kfM I) (cfM I) (I r) ∧ ∀ x, x ≠ r → x ≠ 432 → x ≠ 433 → J x = I x := by
  have hn1 : I 427 14 ≤ 5 := hk.2.1
  rw [E246_0 hM, m_chosen hM hr hk (BdN_Bd hB (by omega)) hl hc]
  simp only [Option.bind_some, psh_i]
  have B1 := chosenS_BdN hc hB (by omega)
  have o1 : ∀ j, j < 818 ∨ 825 < j → (chosenS (cfM I) (I r)).2 j = I r j := fun j h => chosenS_oth hc h
  have C1 : Cn (chosenS (cfM I) (I r)).2 := Cn_congr (N := 0) hC (BdN_Bd B1 (by omega)) (fun j h => o1 j (by omega))
  have s427 : ∀ f : RW, setR I r f 427 = I 427 := fun f => setR_oth (by rcases hr with rfl | rfl <;> decide)
  have s430 : ∀ f : RW, setR I r f 430 = I 430 := fun f => setR_oth (by rcases hr with rfl | rfl <;> decide)
  have ck : ∀ f : RW, kfM (setR I r f) = kfM I := fun f => by unfold kfM; rw [s427, s430]
  rw [E246_5 hM, m_fet hM hr (by rw [cfM_setR hr]; exact hk) (by rw [setR_same]; exact C1) hq0 (by rw [s427]; exact hqn)]
  simp only [Option.bind_some, psh_i, setR_set, setR_same, cfM_setR hr]
  have B2 : BdN (N + 1) (fetS (cfM I) (chosenS (cfM I) (I r)).2 (chosenS (cfM I) (I r)).1) := BdN_fet B1
  have kb := hk.2.2 _ hq0 hqn
  have o2 : ∀ j, (j ≠ 89 * (chosenS (cfM I) (I r)).1 + 3) → (j < 840 ∨ 843 < j) → fetS (cfM I) (chosenS (cfM I) (I r)).2 (chosenS (cfM I) (I r)).1 j = (chosenS (cfM I) (I r)).2 j := by
    intro j h1 h2
    unfold fetS; rw [updR_miss (by omega), updR_miss h1]
  have e3 : fetS (cfM I) (chosenS (cfM I) (I r)).2 (chosenS (cfM I) (I r)).1 (89 * (chosenS (cfM I) (I r)).1 + 3) = (chosenS (cfM I) (I r)).2 (89 * (chosenS (cfM I) (I r)).1 + 3) + 1 := by
    unfold fetS; rw [updR_miss (by omega), updR_hit rfl]
  have C2 : Cn (fetS (cfM I) (chosenS (cfM I) (I r)).2 (chosenS (cfM I) (I r)).1) := by
    refine ⟨BdN_Bd B2 (by omega), fun q h0 h1 => ?_, ?_, ?_, ?_, ?_⟩
    · have z := C1.2.1 q h0 h1
      rw [o2 (89 * q + 6) (by omega) (by omega), o2 (89 * q) (by omega) (by omega), o2 (89 * q + 5) (by omega) (by omega)]
      refine ⟨?_, z.2.1, z.2.2.1, z.2.2.2⟩
      by_cases hz : q = (chosenS (cfM I) (I r)).1
      · rw [hz, e3]
        have z1 := z.1
        rw [hz] at z1
        omega
      · rw [o2 (89 * q + 3) (by omega) (by omega)]; exact z.1
    · rw [o2 _ (by omega) (by omega)]; exact C1.2.2.1
    · rw [o2 _ (by omega) (by omega)]; exact C1.2.2.2.1
    · rw [o2 _ (by omega) (by omega)]; exact C1.2.2.2.2.1
    · rw [o2 _ (by omega) (by omega)]; exact C1.2.2.2.2.2
  obtain ⟨J, hJ, hJr, hJx⟩ := m_got (d := d + 2) (N := N + 1) (r := r) (S := S) (I := setR I r (fetS (cfM I) (chosenS (cfM I) (I r)).2 (chosenS (cfM I) (I r)).1)) (q := (chosenS (cfM I) (I r)).1) (a := rAt (chosenS (cfM I) (I r)).1 ((chosenS (cfM I) (I r)).2 (89 * (chosenS (cfM I) (I r)).1 + 3))) hM hr (by rw [cfM_setR hr]; exact hk) (by rw [ck]; exact hK) (by rw [setR_same]; exact B2) (by omega) (by omega) (by rw [setR_same]; exact C2) (by rw [setR_same, o2 _ (by omega) (by omega), o1 _ (by omega)]; exact ht) hq0 (by rw [s427]; exact hqn) ⟨_, rfl⟩ (by rw [setR_same, o2 _ (by omega) (by omega), o1 _ (by omega)]; exact h4) (by rw [setR_same, o2 _ (by omega) (by omega), o1 _ (by omega)]; exact h8)
  refine ⟨J, hJ, ?_, fun x h1 h2 h3 => (hJx x h1 h2 h3).trans (setR_oth h1)⟩
  rw [hJr, setR_same, ck, cfM_setR hr]
  rfl
end r38
