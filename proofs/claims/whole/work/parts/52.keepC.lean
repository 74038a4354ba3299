/-! a row keeps its order: fetching -/
section r52
variable {C : CF} {ρ σ : RW} {q a id st res k z : Int}
theorem fetS_oth {j : Int} (h : j ≠ 89 * q + 3) (h2 : j ≠ 840 + C.2.2.2.1 q) : fetS C ρ q j = ρ j := by
  unfold fetS; rw [updR_miss h2, updR_miss h]
theorem fetS_3 (h : 840 + C.2.2.2.1 q ≠ 89 * q + 3) : fetS C ρ q (89 * q + 3) = ρ (89 * q + 3) + 1 := by
  unfold fetS; rw [updR_miss (fun e => h e.symm), updR_hit rfl]
theorem fetS_k : fetS C ρ q (840 + C.2.2.2.1 q) = ρ (840 + C.2.2.2.1 q) + 1 := by
  unfold fetS; rw [updR_hit rfl]
theorem fet_W0 (h : W0 C ρ) (hk : okC C) (h0 : 0 ≤ q) (h1 : q < C.1) (hw : ρ (89 * q + 3) < ρ (89 * q + 2)) : W0 C (fetS C ρ q) := by
  have hn := hk.2.1
  have kk := hk.2.2 q h0 h1
  obtain ⟨c1, c2, c3⟩ := h.1 q h0 (by omega)
  unfold cntsOK at c1
  have oth : ∀ j, j ≠ 89 * q + 3 → j < 840 → fetS C ρ q j = ρ j := fun j h2 h3 => fetS_oth h2 (by omega)
  have e3 : fetS C ρ q (89 * q + 3) = ρ (89 * q + 3) + 1 := fetS_3 (by omega)
  refine ⟨fun q' h2 h3 => ?_, runsOK_congr (fun j h2 h3 => oth j (by omega) (by omega)) h.2.1, outsOK_congr (fun j h2 h3 => oth j (by omega) (by omega)) h.2.2.1, miscOK_congr (fun j h2 h3 => oth j (by omega) h3) h.2.2.2.1, fun c h2 h3 => ?_⟩
  · by_cases e : q' = q
    · subst e
      refine ⟨?_, fun k k1 k2 => ?_, fun k k1 k2 => ?_⟩
      · unfold cntsOK
        rw [e3, oth _ (by omega) (by omega), oth _ (by omega) (by omega), oth _ (by omega) (by omega), oth _ (by omega) (by omega), oth _ (by omega) (by omega), oth _ (by omega) (by omega), oth _ (by omega) (by omega)]
        omega
      · rw [e3] at k1
        rw [oth _ (by omega) (by omega)] at k2
        have b := rAt_b (k := k) h2 h3
        exact cmdOK_congr (fun j j1 j2 => oth j (by omega) (by omega)) (c2 k (by omega) k2)
      · rw [oth _ (by omega) (by omega)] at k1 k2
        have b := pAt_b (k := k) h2 h3
        have := c3 k k1 k2
        rw [e3, oth _ (by omega) (by omega), oth _ (by omega) (by omega), oth _ (by omega) (by omega), oth _ (by omega) (by omega), oth _ (by omega) (by omega), oth _ (by omega) (by omega), oth _ (by omega) (by omega)]
        refine ⟨this.1, this.2.1, this.2.2.1, this.2.2.2.1, this.2.2.2.2.1, this.2.2.2.2.2.1, this.2.2.2.2.2.2.1, by omega, this.2.2.2.2.2.2.2.2.1, fun k' k3 k4 => ?_⟩
        have b' := pAt_b (k := k') h2 h3
        rw [oth _ (by omega) (by omega)]
        exact this.2.2.2.2.2.2.2.2.2 k' k3 k4
    · exact qOK_congr h2 h3 (fun j h4 h5 => oth j (by omega) (by omega)) (h.1 q' h2 h3)
  · have s := h.2.2.2.2 c h2 h3
    have f : fsum C (fetS C ρ q) c = fsum C ρ c + (if C.2.2.2.1 q = c then 1 else 0) := by
      unfold fsum
      rw [sm_one (f := fun q => if q < C.1 ∧ C.2.2.2.1 q = c then ρ (89 * q + 3) else 0) (q := q) 5 0 h0 (by omega) (fun j _ _ hj => by rw [oth _ (by omega) (by omega)])]
      rw [e3]
      by_cases e : C.2.2.2.1 q = c
      · rw [if_pos ⟨h1, e⟩, if_pos ⟨h1, e⟩, if_pos e]; omega
      · rw [if_neg (fun g => e g.2), if_neg (fun g => e g.2), if_neg e]; omega
    rw [f]
    by_cases e : C.2.2.2.1 q = c
    · subst e; rw [fetS_k, if_pos rfl, s]
    · rw [if_neg e, fetS_oth (by omega) (by omega), s]; omega
theorem fet_cnt (h : W0 C ρ) (hk : okC C) (h0 : 0 ≤ q) (h1 : q < C.1) (hw : ρ (89 * q + 3) < ρ (89 * q + 2)) : cnt (fetS C ρ q) z = cnt ρ z - (if 16 * q + ρ (rAt q (ρ (89 * q + 3))) = z then 1 else 0) := by
  have hn := hk.2.1
  have kk := hk.2.2 q h0 h1
  obtain ⟨c1, c2, c3⟩ := h.1 q h0 (by omega)
  unfold cntsOK at c1
  have oth : ∀ j, j ≠ 89 * q + 3 → j < 840 → fetS C ρ q j = ρ j := fun j h2 h3 => fetS_oth h2 (by omega)
  have e3 : fetS C ρ q (89 * q + 3) = ρ (89 * q + 3) + 1 := fetS_3 (by omega)
  have eq : quec (fetS C ρ q) z = quec ρ z + (rngc (fetS C ρ q) q z + pstc (fetS C ρ q) q z - (rngc ρ q z + pstc ρ q z)) := quec_one z h0 (by omega) (fun q' h2 h3 h4 j h5 h6 => oth j (by omega) (by omega))
  have ep : pstc (fetS C ρ q) q z = pstc ρ q z := pstc_same h0 (by omega) (oth _ (by omega) (by omega)) (oth _ (by omega) (by omega)) (fun k _ _ => by have b := pAt_b (q := q) (k := k) h0 (by omega); exact oth _ (by omega) (by omega))
  have er : rngc ρ q z = (if 16 * q + ρ (rAt q (ρ (89 * q + 3))) = z then 1 else 0) + rngc (fetS C ρ q) q z := by
    unfold rngc
    rw [e3, oth (89 * q) (by omega) (by omega)]
    have e1 : (ρ (89 * q) - ρ (89 * q + 3)).toNat = (ρ (89 * q) - (ρ (89 * q + 3) + 1)).toNat + 1 := by omega
    rw [e1, sm_succ, sm_congr (f := fun k => if 16 * q + fetS C ρ q (rAt q k) = z then (1 : Int) else 0) (g := fun k => if 16 * q + ρ (rAt q k) = z then 1 else 0) _ _ (fun k _ _ => by have b := rAt_b (q := q) (k := k) h0 (by omega); rw [oth (rAt q k) (by omega) (by omega)])]
  unfold cnt
  rw [eq, ep, runc_congr z (fun j h2 h3 => oth j (by omega) (by omega)) h.2.1.2.1, outc_congr z (fun j h2 h3 => oth j (by omega) (by omega)) h.2.2.1.2.1]
  omega
/-- one more runs -/
theorem runAdd (h : W0 C ρ) (h4 : ρ 493 < 4) (ho : ∀ j, 0 ≤ j → j < 844 → j ≠ 493 → (j < 445 + 12 * ρ 493 ∨ 457 + 12 * ρ 493 ≤ j) → σ j = ρ j) (h9 : σ 493 = ρ 493 + 1) (hr : run1OK C σ (ρ 493)) : W0 C σ ∧ ∀ z, cnt σ z = cnt ρ z + run1c σ z (ρ 493) := by
  have r0 := h.2.1.1
  refine ⟨W0_of h (fun j h2 h3 => ho j h2 (by omega) (by omega) (by omega)) (fun j h2 h3 => ho j (by omega) h3 (by omega) (by omega)) ⟨by omega, by omega, fun k h2 h3 => ?_⟩ (outsOK_congr (fun j h2 h3 => ho j (by omega) (by omega) (by omega) (by omega)) h.2.2.1), fun z => ?_⟩
  · by_cases e : k = ρ 493
    · subst e; exact hr
    · exact run1OK_congr (fun j h5 h6 => ho j (by omega) (by omega) (by omega) (by omega)) (h.2.1.2.2 k h2 (by omega))
  · unfold cnt
    rw [quec_congr (ρ := ρ) (σ := σ) z (fun j h2 h3 => ho j h2 (by omega) (by omega) (by omega)), outc_congr (ρ := ρ) (σ := σ) z (fun j h2 h3 => ho j (by omega) (by omega) (by omega) (by omega)) h.2.2.1.2.1]
    have e : runc σ z = runc ρ z + run1c σ z (ρ 493) := by
      unfold runc
      rw [h9]
      have e1 : (ρ 493 + 1).toNat = (ρ 493).toNat + 1 := by omega
      rw [e1, sm_last, sm_congr (g := run1c ρ z) _ _ (fun j h2 h3 => ?_)]
      · have e2 : 0 + ((ρ 493).toNat : Int) = ρ 493 := by omega
        rw [e2]
      · unfold run1c
        rw [ho _ (by omega) (by omega) (by omega) (by omega), ho _ (by omega) (by omega) (by omega) (by omega), ho _ (by omega) (by omega) (by omega) (by omega), ho _ (by omega) (by omega) (by omega) (by omega)]
    rw [e]; omega
/-- what runs now: its numbers -/
theorem runS_facts (K : KF) (pair : Bool) (hk : okC C) (h0 : 0 ≤ q) (h1 : q < C.1) (ha0 : 0 ≤ a) (ha1 : a + 5 ≤ 445) (h3 : 0 ≤ ρ 493) (h4 : ρ 493 < 4) :
    (∀ j, 0 ≤ j → j < 844 → j ≠ 493 → (j < 445 + 12 * ρ 493 ∨ 457 + 12 * ρ 493 ≤ j) → runS K C ρ q a pair j = (if pair = true then fetS C ρ q else ρ) j) ∧
    runS K C ρ q a pair 493 = ρ 493 + 1 ∧ runS K C ρ q a pair (445 + 12 * ρ 493) = q ∧ (∀ j, 0 ≤ j → j < 5 → runS K C ρ q a pair (446 + 12 * ρ 493 + j) = ρ (a + j)) ∧
    (pair = true → ∀ j, 0 ≤ j → j < 5 → runS K C ρ q a pair (451 + 12 * ρ 493 + j) = ρ (rAt q (ρ (89 * q + 3)) + j)) ∧ (pair = false → runS K C ρ q a pair (452 + 12 * ρ 493) = -1) ∧
    runS K C ρ q a pair (456 + 12 * ρ 493) = timeR K C ρ q a := by
  have hn := hk.2.1
  have kk := hk.2.2 q h0 h1
  generalize hg : updR (layS (445 + 12 * ρ 493 + 1) a (updR ρ (445 + 12 * ρ 493) q)) (445 + 12 * ρ 493 + 7) (-1) = ρ3
  have g0 : ∀ j, (j < 445 + 12 * ρ 493 ∨ 457 + 12 * ρ 493 ≤ j) → ρ3 j = ρ j := by
    intro j hj; rw [← hg, updR_miss (by omega)]; unfold layS; rw [if_neg (by omega), updR_miss (by omega)]
  have g1 : ρ3 (445 + 12 * ρ 493) = q := by
    rw [← hg, updR_miss (by omega)]; unfold layS; rw [if_neg (by omega), updR_hit rfl]
  have g2 : ∀ j, 0 ≤ j → j < 5 → ρ3 (446 + 12 * ρ 493 + j) = ρ (a + j) := by
    intro j j0 j1; rw [← hg, updR_miss (by omega)]; unfold layS
    rw [if_pos (by omega), show a + (446 + 12 * ρ 493 + j - (445 + 12 * ρ 493 + 1)) = a + j by omega, updR_miss (by omega)]
  have g3 : ρ3 (452 + 12 * ρ 493) = -1 := by rw [← hg]; exact updR_hit (by omega)
  have ef : ρ3 (89 * q + 3) = ρ (89 * q + 3) := g0 _ (by omega)
  have rb := rAt_b (q := q) (k := ρ (89 * q + 3)) h0 (by omega)
  have kn : 840 + C.2.2.2.1 q ≠ 89 * q + 3 := by omega
  have fe : ∀ j, (j < 445 + 12 * ρ 493 ∨ 457 + 12 * ρ 493 ≤ j) → fetS C ρ3 q j = fetS C ρ q j := by
    intro j hj
    unfold fetS
    rw [ef, g0 (840 + C.2.2.2.1 q) (by omega)]
    unfold updR
    rw [g0 j hj]
  have fl : ∀ j, 445 + 12 * ρ 493 ≤ j → j < 457 + 12 * ρ 493 → fetS C ρ3 q j = ρ3 j := fun j h5 h6 => fetS_oth (by omega) (by omega)
  unfold runS
  simp only [hg]
  cases pair with
  | false =>
    simp only [Bool.false_eq_true, if_false]
    refine ⟨fun j j0 j1 j2 j3 => ?_, ?_, ?_, fun j j0 j1 => ?_, ?_, fun _ => ?_, ?_⟩
    · rw [updR_miss (by omega), updR_miss (by omega)]; exact g0 j j3
    · rw [updR_hit rfl, g0 493 (by omega)]
    · rw [updR_miss (by omega), updR_miss (by omega)]; exact g1
    · rw [updR_miss (by omega), updR_miss (by omega)]; exact g2 j j0 j1
    · intro h; exact absurd h (by decide)
    · rw [updR_miss (by omega), updR_miss (by omega)]; exact g3
    · rw [updR_miss (by omega)]; exact updR_hit (by omega)
  | true =>
    simp only [if_true]
    have ly : ∀ j, (j < 451 + 12 * ρ 493 ∨ 456 + 12 * ρ 493 ≤ j) → layS (445 + 12 * ρ 493 + 6) (rAt q (ρ3 (89 * q + 3))) (fetS C ρ3 q) j = fetS C ρ3 q j := by
      intro j hj; unfold layS; rw [if_neg (by omega)]
    refine ⟨fun j j0 j1 j2 j3 => ?_, ?_, ?_, fun j j0 j1 => ?_, fun _ j j0 j1 => ?_, fun h => absurd h (by decide), ?_⟩
    · rw [updR_miss (by omega), updR_miss (by omega), ly j (by omega)]; exact fe j j3
    · rw [updR_hit rfl, ly _ (by omega), fe _ (by omega), fetS_oth (by omega) (by omega)]
    · rw [updR_miss (by omega), updR_miss (by omega), ly _ (by omega), fl _ (by omega) (by omega)]; exact g1
    · rw [updR_miss (by omega), updR_miss (by omega), ly _ (by omega), fl _ (by omega) (by omega)]; exact g2 j j0 j1
    · rw [updR_miss (by omega), updR_miss (by omega)]; unfold layS
      rw [if_pos (by omega), ef, show rAt q (ρ (89 * q + 3)) + (451 + 12 * ρ 493 + j - (445 + 12 * ρ 493 + 6)) = rAt q (ρ (89 * q + 3)) + j by omega, fe _ (by omega), fetS_oth (by omega) (by omega)]
    · rw [updR_miss (by omega)]; exact updR_hit (by omega)
end r52
