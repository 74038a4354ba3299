/-! the whole of it at rest; an act leaves it at rest */ -/
section r72
variable {d : Nat} {S : SS} {I J I2 : II} {C : CF} {ρ σ τ : RW} {b a q k N M : Int}
def ST (N : Int) (I : II) : Prop := cT I ∧ cR I ∧ cH I ∧ cD I ∧ cU I ∧ cP I ∧ cK I ∧ cB N I
theorem cT_mem (h : cT I) (h1 : J 1 = I 1) (h2 : J 2 = I 2) (h3 : J 429 = I 429) (h4 : J 427 4 = I 427 4) : cT J := by unfold cT at *; rw [h1, h2, h3, h4]; exact h
theorem cR_mem (h : cR I) (h1 : J 3 = I 3) (h2 : J 4 = I 4) (h3 : J 428 = I 428) (h4 : J 427 1 = I 427 1) : cR J := by unfold cR at *; rw [h1, h2, h3, h4]; exact h
theorem cH_mem (h : cH I) (h1 : J 424 = I 424) (h2 : J 425 = I 425) (h3 : J 426 = I 426) (h4 : J 448 = I 448) (h5 : J 449 = I 449) (h6 : J 427 36 = I 427 36) : cH J := by unfold cH at *; rw [h1, h2, h3, h4, h5, h6]; exact h
theorem cU_mem (h : cU I) (h1 : J 412 = I 412) (h2 : J 413 = I 413) (h3 : J 430 = I 430) (h4 : J 427 10 = I 427 10) : cU J := by
  unfold cU RuleR kfM at *; rw [show (412 : Int) + 1 = 413 from rfl] at *; rw [h1, h2, h3, h4]; exact h
theorem cfM_mem (h0 : J 427 14 = I 427 14) (h1 : J 434 = I 434) (h2 : J 435 = I 435) (h3 : J 436 = I 436) (h4 : J 437 = I 437) : cfM J = cfM I := by unfold cfM; rw [h0, h1, h2, h3, h4]
theorem cfA_mem {n : Int} (h1 : J 434 = I 434) (h2 : J 435 = I 435) (h3 : J 436 = I 436) (h4 : J 437 = I 437) : cfA J n = cfA I n := by unfold cfA; rw [h1, h2, h3, h4]
theorem cD_mem (h : cD I) (hc : cfM J = cfM I) (h1 : J 438 = I 438) (h2 : ∀ x, 5 ≤ x → x < 36 → J x = I x) : cD J := by
  unfold cD; rw [hc, h1]; exact ⟨h.1, GD_mem h.2 (fun x x0 x1 => h2 x x0 (by omega))⟩
theorem cP_mem (h : cP I) (hc : cfM J = cfM I) (h1 : ∀ k, J 67 k = I 67 k) (h2 : J 427 22 = I 427 22) (h3 : J 440 = I 440) (h4 : ∀ x, 71 ≤ x → x < 350 → J x = I x) : cP J := by
  obtain ⟨p0, p1, p2, p3, p4, p5⟩ := h
  unfold cP
  rw [h1, h1, h2, h3, hc]
  exact ⟨p0, p1, p2, p3, p4, fun i i0 i1 => GD_mem (p5 i i0 i1) (fun x x0 x1 => h4 x (by unfold stp at x0; omega) (by unfold stp at x1; omega))⟩
theorem cK_mem (h : cK I) (h0 : J 427 14 = I 427 14) (h0' : J 427 15 = I 427 15) (h1 : J 434 = I 434) (h2 : J 435 = I 435) (h3 : J 436 = I 436) (h4 : J 437 = I 437) (h5 : J 452 = I 452) (h6 : J 70 = I 70) (h7 : J 453 = I 453) (h8 : J 454 = I 454) (h9 : ∀ x, 350 ≤ x → x < 412 → J x = I x) : cK J := by
  unfold cK
  rw [h0, h0', h5, h6, h7, h8]
  refine ⟨h.1, fun i i0 i1 => ⟨(h.2 i i0 i1).1, (h.2 i i0 i1).2.1, fun e => ?_⟩⟩
  obtain ⟨a0, a1, a2⟩ := (h.2 i i0 i1).2.2 e
  rw [cfA_mem h1 h2 h3 h4]
  exact ⟨a0, a1, GD_mem a2 (fun x x0 x1 => h9 x (by omega) (by omega))⟩
theorem cB_mem (h : cB N I) (h1 : J 438 = I 438) (h2 : J 439 = I 439) (h3 : J 440 = I 440) (h4 : J 454 = I 454) : cB N J := by unfold cB at *; rw [h1, h2, h3, h4]; exact h
theorem cB_le (h : cB N I) (hN : N ≤ M) : cB M I := ⟨BdN_le h.1 hN, BdN_le h.2.1 hN, BdN_le h.2.2.1 hN, BdN_le h.2.2.2 hN⟩
theorem act_ST (h : ST N I) {ok : Prop} [Decidable ok] (hσ : WF (cfM I) σ) (hl : lftOK 1 σ) (hB : BdN (N + 100000) σ)
    (e5 : RelD (cfM I) I2 5 σ) (estep : GD (cfM I) I2 (71 + 31 * I 67 1) (I 438))
    (ex : ∀ x, x < 427 → ¬ (5 ≤ x ∧ x < 36) → ¬ (71 + 31 * I 67 1 ≤ x ∧ x < 71 + 31 * I 67 1 + 31) → x ≠ 67 → x ≠ 3 → x ≠ 4 → x ≠ 416 → x ≠ 417 → x ≠ 422 → x ≠ 423 → I2 x = I x)
    (e67 : I2 67 1 = if ok then (I 67 1 + 1) % 9 else I 67 1) (e67b : I2 67 2 = if ok then addZ (I 67 2) else I 67 2)
    (ey : ∀ x, 427 < x → x ≠ 428 → x ≠ 438 → x ≠ 440 → x ≠ 432 → x ≠ 433 → I2 x = I x)
    (e38 : I2 438 = σ) (e40 : I2 440 = if ok then addU (putU (I 440) (I 438) (I 67 2)) (I 67 2) else putU (I 440) (I 438) (I 67 2))
    (e27 : ∀ k, (k = 4 ∨ k = 36 ∨ k = 10 ∨ k = 14 ∨ k = 15) → I2 427 k = I 427 k) (e22 : I2 427 22 = I2 67 2) (hR : cR I2) : ST (N + 100000) I2 := by
  obtain ⟨tT, tR, tH, tD, tU, tP, tK, tB⟩ := h
  have hc : cfM I2 = cfM I := cfM_mem (e27 14 (by omega)) (ey 434 (by decide) (by decide) (by decide) (by decide) (by decide) (by decide)) (ey 435 (by decide) (by decide) (by decide) (by decide) (by decide) (by decide)) (ey 436 (by decide) (by decide) (by decide) (by decide) (by decide) (by decide)) (ey 437 (by decide) (by decide) (by decide) (by decide) (by decide) (by decide))
  obtain ⟨p0, p1, p2, p3, p4, p5⟩ := tP
  obtain ⟨b1, b2, b3, b4⟩ := cB_le tB (show N ≤ N + 100000 by omega)
  refine ⟨cT_mem tT (ex 1 (by decide) (by omega) (by omega) (by decide) (by decide) (by decide) (by decide) (by decide) (by decide) (by decide)) (ex 2 (by decide) (by omega) (by omega) (by decide) (by decide) (by decide) (by decide) (by decide) (by decide) (by decide)) (ey 429 (by decide) (by decide) (by decide) (by decide) (by decide) (by decide)) (e27 4 (by omega)), hR, cH_mem tH (ex 424 (by decide) (by omega) (by omega) (by decide) (by decide) (by decide) (by decide) (by decide) (by decide) (by decide)) (ex 425 (by decide) (by omega) (by omega) (by decide) (by decide) (by decide) (by decide) (by decide) (by decide) (by decide)) (ex 426 (by decide) (by omega) (by omega) (by decide) (by decide) (by decide) (by decide) (by decide) (by decide) (by decide)) (ey 448 (by decide) (by decide) (by decide) (by decide) (by decide) (by decide)) (ey 449 (by decide) (by decide) (by decide) (by decide) (by decide) (by decide)) (e27 36 (by omega)), ?_, cU_mem tU (ex 412 (by decide) (by omega) (by omega) (by decide) (by decide) (by decide) (by decide) (by decide) (by decide) (by decide)) (ex 413 (by decide) (by omega) (by omega) (by decide) (by decide) (by decide) (by decide) (by decide) (by decide) (by decide)) (ey 430 (by decide) (by decide) (by decide) (by decide) (by decide) (by decide)) (e27 10 (by omega)), ?_, cK_mem tK (e27 14 (by omega)) (e27 15 (by omega)) (ey 434 (by decide) (by decide) (by decide) (by decide) (by decide) (by decide)) (ey 435 (by decide) (by decide) (by decide) (by decide) (by decide) (by decide)) (ey 436 (by decide) (by decide) (by decide) (by decide) (by decide) (by decide)) (ey 437 (by decide) (by decide) (by decide) (by decide) (by decide) (by decide)) (ey 452 (by decide) (by decide) (by decide) (by decide) (by decide) (by decide)) (ex 70 (by decide) (by omega) (by omega) (by decide) (by decide) (by decide) (by decide) (by decide) (by decide) (by decide)) (ey 453 (by decide) (by decide) (by decide) (by decide) (by decide) (by decide)) (ey 454 (by decide) (by decide) (by decide) (by decide) (by decide) (by decide)) (fun x x0 x1 => ex x (by omega) (by omega) (by omega) (by omega) (by omega) (by omega) (by omega) (by omega) (by omega) (by omega)), ?_⟩
  · unfold cD; rw [hc, e38]; exact ⟨tD.1, e5, hσ, hl⟩
  · have oldB : ∀ i, 0 ≤ i → i < I 67 2 → GD (cfM I) I2 (stp (I 67 1) (I 67 2) i) (rowAt (I 440) i) := fun i i0 i1 =>
      GD_mem (p5 i i0 i1) (fun x x0 x1 => ex x (by unfold stp at x1; omega) (by unfold stp at x0; omega) (by unfold stp at x0 x1; omega) (by unfold stp at x0; omega) (by unfold stp at x0; omega) (by unfold stp at x0; omega) (by unfold stp at x1; omega) (by unfold stp at x1; omega) (by unfold stp at x1; omega) (by unfold stp at x1; omega))
    unfold cP
    rw [e22, e67, e67b, e40, hc]
    by_cases g : ok
    · rw [if_pos g, if_pos g, if_pos g]
      by_cases g8 : I 67 2 < 8
      · have ez : addZ (I 67 2) = I 67 2 + 1 := by unfold addZ; rw [if_pos g8]
        have eu : ∀ f, addU f (I 67 2) = f := fun f => by unfold addU; rw [if_pos g8]
        rw [ez, eu]
        refine ⟨by omega, by omega, by omega, by omega, rfl, fun i i0 i1 => ?_⟩
        have es : stp ((I 67 1 + 1) % 9) (I 67 2 + 1) i = stp (I 67 1) (I 67 2) i := by unfold stp; omega
        rw [es]
        by_cases ei : i = I 67 2
        · have e0 : stp (I 67 1) (I 67 2) i = 71 + 31 * I 67 1 := by unfold stp; omega
          rw [e0]
          exact GD_row estep (fun j j0 j1 => by rw [rowAt_putU j0 j1, if_pos ei])
        · exact GD_row (oldB i i0 (by omega)) (fun j j0 j1 => by rw [rowAt_putU j0 j1, if_neg ei])
      · have e8 : I 67 2 = 8 := by omega
        have ez : addZ (I 67 2) = 8 := by unfold addZ; rw [if_neg g8]
        have eu : ∀ f, addU f (I 67 2) = shU f := fun f => by unfold addU; rw [if_neg g8]
        rw [ez, eu]
        refine ⟨by omega, by omega, by omega, by omega, rfl, fun i i0 i1 => ?_⟩
        have es : stp ((I 67 1 + 1) % 9) 8 i = stp (I 67 1) (I 67 2) (i + 1) := by rw [e8]; unfold stp; omega
        rw [es]
        by_cases ei : i + 1 = I 67 2
        · have e0 : stp (I 67 1) (I 67 2) (i + 1) = 71 + 31 * I 67 1 := by unfold stp; omega
          rw [e0]
          exact GD_row estep (fun j j0 j1 => by rw [rowAt_shU i0 i1 j0 j1, rowAt_putU j0 j1, if_pos ei])
        · exact GD_row (oldB (i + 1) (by omega) (by omega)) (fun j j0 j1 => by rw [rowAt_shU i0 i1 j0 j1, rowAt_putU j0 j1, if_neg ei])
    · rw [if_neg g, if_neg g, if_neg g]
      exact ⟨p0, p1, p2, p3, rfl, fun i i0 i1 => GD_row (oldB i i0 i1) (fun j j0 j1 => by rw [rowAt_putU j0 j1, if_neg (by omega)])⟩
  · unfold cB
    rw [e38, e40, ey 439 (by decide) (by decide) (by decide) (by decide) (by decide) (by decide), ey 454 (by decide) (by decide) (by decide) (by decide) (by decide) (by decide)]
    refine ⟨hB, b2, ?_, b4⟩
    split
    · exact BdN_addU (BdN_putU b3 b1)
    · exact BdN_putU b3 b1
end r72
