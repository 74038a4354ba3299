/-! a row keeps its order: calling back, posting, shadows, turns -/
section r54
variable {C : CF} {ρ σ : RW} {q a id st res k z : Int}
theorem brk_WF (h : WF C ρ) (hn : C.1 ≤ 5) (h0 : 0 ≤ k) (h1 : k < ρ 493) (hq : ρ (445 + 12 * k) = q) :
    WF C (breakS ρ q k) ∧ (∀ z, cnt (breakS ρ q k) z = cnt ρ z) ∧ ∀ lo, lftOK lo ρ → lftOK lo (breakS ρ q k) := by
  have r4 := h.1.2.1.2.1
  have o0 := h.1.2.2.1.1
  have m1 := runm_ge h0 h1
  have m2 := out_room h hn
  have i1 := @ite01 (0 ≤ ρ (452 + 12 * k)) _
  have r := h.1.2.1.2.2 k h0 h1
  unfold run1OK at r
  obtain ⟨q0, q1, c1, n3, ca, hs⟩ := r
  unfold cmdOK at c1
  have x1 := outS_W0 (q := q) (id := ρ (446 + 12 * k)) (st := 1) (res := 0) h.1 (by omega) (by omega) (by omega) (by omega) (by omega) (by decide) (by decide) (by decide) (by decide)
  have x8 : outS ρ q (ρ (446 + 12 * k)) 1 0 814 = ρ 814 + 1 := outS_814
  have xo : ∀ j, 445 ≤ j → j ≤ 493 → outS ρ q (ρ (446 + 12 * k)) 1 0 j = ρ j := fun j g0 g1 => outS_oth o0 (by omega) (by omega)
  -- from the row behind the completions on
  have fin1 : ∀ τ : RW, W0 C τ → (∀ z, cnt τ z = cnt ρ z + run1c ρ z k) → (∀ j, 445 ≤ j → j ≤ 493 → τ j = ρ j) → WF C (runGoS τ k) ∧ (∀ z, cnt (runGoS τ k) z = cnt ρ z) ∧ ∀ lo, lftOK lo ρ → lftOK lo (runGoS τ k) := by
    intro τ w1 w2 w3
    have e93 := w3 493 (by decide) (by decide)
    have cc : ∀ z, cnt (runGoS τ k) z = cnt ρ z := fun z => by
      have rc : run1c τ z k = run1c ρ z k := by unfold run1c; rw [w3 _ (by omega) (by omega), w3 _ (by omega) (by omega), w3 _ (by omega) (by omega), w3 _ (by omega) (by omega)]
      rw [runGo_cnt w1 h0 (by omega), w2, rc]; omega
    exact ⟨⟨runGo_W0 w1 h0 (by omega), fun z => by rw [cc]; exact h.2 z⟩, cc, fun lo hl => runGo_lft (lftOK_congr w3 r4 hl) (by omega) h0 (by omega)⟩
  have hse : hasSecS (outS ρ q (ρ (446 + 12 * k)) 1 0) k = true ↔ 0 ≤ ρ (452 + 12 * k) := by unfold hasSecS; rw [xo _ (by omega) (by omega)]; exact ⟨of_decide_eq_true, decide_eq_true⟩
  unfold breakS
  by_cases hsec : 0 ≤ ρ (452 + 12 * k)
  · rw [if_pos (hse.mpr hsec)]
    rw [if_pos hsec] at m1
    rcases hs with hs | ⟨_, cs, _⟩
    · omega
    unfold cmdOK at cs
    rw [xo _ (by omega) (by omega)]
    refine fin1 _ (outS_W0 x1 (by omega) (by omega) (by omega) (by omega) (by omega) (by decide) (by decide) (by decide) (by decide)) (fun z => ?_) (fun j g0 g1 => by rw [outS_oth (by omega) (by omega) (by omega)]; exact xo j g0 g1)
    rw [outS_cnt x1 (by omega), outS_cnt h.1 (by omega)]
    unfold run1c
    rw [hq]
    by_cases e : 16 * q + ρ (451 + 12 * k) = z
    · rw [if_pos e, if_pos (show 0 ≤ ρ (452 + 12 * k) ∧ 16 * q + ρ (451 + 12 * k) = z from ⟨hsec, e⟩)]; omega
    · rw [if_neg e, if_neg (show ¬ (0 ≤ ρ (452 + 12 * k) ∧ 16 * q + ρ (451 + 12 * k) = z) from fun g => e g.2)]; omega
  · rw [if_neg (fun g => hsec (hse.mp g))]
    refine fin1 _ x1 (fun z => ?_) xo
    rw [outS_cnt h.1 (by omega)]
    unfold run1c
    rw [hq, if_neg (show ¬ (0 ≤ ρ (452 + 12 * k) ∧ 16 * q + ρ (451 + 12 * k) = z) from fun g => hsec g.1)]; omega
/-- a COMMAND in its ring is marked as called back -/
theorem mrk_W0 (h : W0 C ρ) (h0 : 0 ≤ q) (h1 : q < 5) (k0 : ρ (89 * q + 3) ≤ k) (k1 : k < ρ (89 * q)) : W0 C (updR ρ (rAt q k + 4) 1) ∧ ∀ z, cnt (updR ρ (rAt q k + 4) 1) z = cnt ρ z := by
  obtain ⟨c1, c2, c3⟩ := h.1 q h0 h1
  have rb := rAt_b (q := q) (k := k) h0 h1
  have oth : ∀ j, j ≠ rAt q k + 4 → updR ρ (rAt q k + 4) 1 j = ρ j := fun j h2 => updR_miss h2
  have c1' := c1
  unfold cntsOK at c1'
  constructor
  · refine W0_queue h h0 h1 (fun j h2 => oth j (by omega)) ⟨?_, fun k' g0 g1 => ?_, postOK_same c3 (oth _ (by omega)) (oth _ (by omega)) (oth _ (by omega)) (oth _ (by omega)) (fun j h2 h3 => oth j (by omega))⟩ (oth _ (by omega))
    · unfold cntsOK
      rw [oth _ (by omega), oth _ (by omega), oth _ (by omega), oth _ (by omega), oth _ (by omega), oth _ (by omega), oth _ (by omega), oth _ (by omega), oth (89 * q + 7) (by omega)]
      exact c1
    · rw [oth _ (by omega)] at g0 g1
      have cm := c2 k' g0 g1
      by_cases e : k' = k
      · subst e
        unfold cmdOK at *
        rw [updR_hit rfl, oth _ (by omega), oth _ (by omega), oth _ (by omega), oth _ (by omega)]
        exact ⟨cm.1, cm.2.1, cm.2.2.1, cm.2.2.2.1, cm.2.2.2.2.1, cm.2.2.2.2.2.1, cm.2.2.2.2.2.2.1, cm.2.2.2.2.2.2.2.1, Or.inr rfl⟩
      · have ne := rAt_ne (q := q) (k := k') (k' := k) e (by omega) (by omega)
        exact cmdOK_congr (fun j j1 j2 => oth j (by omega)) cm
  · intro z
    rw [cnt_queue h h0 h1 (fun j h2 => oth j (by omega)), rngc_same h0 h1 (oth _ (by omega)) (oth _ (by omega)) (fun k' g0 g1 => ?_), pstc_same h0 h1 (oth _ (by omega)) (oth _ (by omega)) (fun k' _ _ => by have b := pAt_b (k := k') h0 h1; exact oth _ (by omega))]
    · omega
    · by_cases e : k' = k
      · subst e; exact oth _ (by omega)
      · have ne := rAt_ne (q := q) (k := k') (k' := k) e (by omega) (by omega)
        exact oth _ (by omega)
theorem roomS_iff : roomS C ρ k = true ↔ ρ (89 * ρ (494 + 4 * k) + 5) - ρ (89 * ρ (494 + 4 * k) + 6) < C.2.2.1 (ρ (494 + 4 * k)) - 1 := by
  unfold roomS; exact ⟨of_decide_eq_true, decide_eq_true⟩
theorem lay_W0 (h : W0 C ρ) (hk : okC C) (h0 : 0 ≤ k) (h1 : k < ρ 814) (hr : roomS C ρ k = true) :
    W0 C (laidS C ρ k) ∧ (∀ z, cnt (laidS C ρ k) z = cnt ρ z + out1c ρ z k) ∧ (∀ j, 445 ≤ j → laidS C ρ k j = ρ j) := by
  have o := h.2.2.1.2.2 k h0 h1
  unfold out1OK at o
  obtain ⟨q0, q1, i0, i1, s0, s1, r0, r1⟩ := o
  have hn := hk.2.1
  have kk := hk.2.2 _ q0 q1
  have hr' := roomS_iff.mp hr
  have oe1 : 494 + 4 * k + 1 = 495 + 4 * k := by omega
  have oe2 : 494 + 4 * k + 2 = 496 + 4 * k := by omega
  have oe3 : 494 + 4 * k + 3 = 497 + 4 * k := by omega
  generalize hq : ρ (494 + 4 * k) = q at *
  obtain ⟨c1, c2, c3⟩ := h.1 q q0 (by omega)
  unfold cntsOK at c1
  have pb := pAt_b (q := q) (k := ρ (89 * q + 5)) q0 (by omega)
  have eL : laidS C ρ k = updR (updR (updR (updR (updR (updR ρ (pAt q (ρ (89 * q + 5))) (ρ (495 + 4 * k))) (pAt q (ρ (89 * q + 5)) + 1) (ρ (496 + 4 * k))) (pAt q (ρ (89 * q + 5)) + 2) (ρ (497 + 4 * k))) (pAt q (ρ (89 * q + 5)) + 3) (ρ (89 * q + 3))) (pAt q (ρ (89 * q + 5)) + 4) (if ρ (89 * q + 5) / C.2.2.1 q % 2 = 0 then 1 else 0)) (89 * q + 5) (ρ (89 * q + 5) + 1) := by
    unfold laidS; simp only [hq, oe1, oe2, oe3]
  rw [eL]
  generalize hP : pAt q (ρ (89 * q + 5)) = P at *
  generalize hph : (if ρ (89 * q + 5) / C.2.2.1 q % 2 = 0 then (1 : Int) else 0) = ph
  generalize hL : updR (updR (updR (updR (updR (updR ρ P (ρ (495 + 4 * k))) (P + 1) (ρ (496 + 4 * k))) (P + 2) (ρ (497 + 4 * k))) (P + 3) (ρ (89 * q + 3))) (P + 4) ph) (89 * q + 5) (ρ (89 * q + 5) + 1) = L
  have oth : ∀ j, j ≠ 89 * q + 5 → (j < P ∨ P + 5 ≤ j) → L j = ρ j := by
    intro j g0 g1; rw [← hL]; simp (disch := omega) only [updR_miss]
  have e5 : L (89 * q + 5) = ρ (89 * q + 5) + 1 := by rw [← hL]; exact updR_hit rfl
  have p0 : L P = ρ (495 + 4 * k) := by rw [← hL]; simp (disch := omega) only [updR_miss, updR_hit]
  have p1 : L (P + 1) = ρ (496 + 4 * k) := by rw [← hL]; simp (disch := omega) only [updR_miss, updR_hit]
  have p2 : L (P + 2) = ρ (497 + 4 * k) := by rw [← hL]; simp (disch := omega) only [updR_miss, updR_hit]
  have p3 : L (P + 3) = ρ (89 * q + 3) := by rw [← hL]; simp (disch := omega) only [updR_miss, updR_hit]
  have p4 : L (P + 4) = ph := by rw [← hL]; simp (disch := omega) only [updR_miss, updR_hit]
  have far : ∀ k', ρ (89 * q + 6) ≤ k' → k' < ρ (89 * q + 5) → (pAt q k' + 5 ≤ P ∨ P + 5 ≤ pAt q k') := by
    intro k' g0 g1
    have := pAt_ne (q := q) (k := k') (k' := ρ (89 * q + 5)) (by omega) (by omega) (by omega)
    rw [hP] at this; exact this
  refine ⟨W0_queue h q0 (by omega) (fun j h2 => oth j (by omega) (by omega)) ⟨?_, ringOK_same c2 (oth _ (by omega) (by omega)) (oth _ (by omega) (by omega)) (fun j h2 h3 => oth j (by omega) (by omega)), fun k' g0 g1 => ?_⟩ (oth _ (by omega) (by omega)), fun z => ?_, fun j g0 => oth j (by omega) (by omega)⟩
  · unfold cntsOK
    rw [e5, oth _ (by omega) (by omega), oth _ (by omega) (by omega), oth _ (by omega) (by omega), oth _ (by omega) (by omega), oth _ (by omega) (by omega), oth _ (by omega) (by omega), oth _ (by omega) (by omega)]
    omega
  · rw [oth _ (by omega) (by omega)] at g0
    rw [e5] at g1
    rw [oth (89 * q + 4) (by omega) (by omega), oth (89 * q + 3) (by omega) (by omega)]
    by_cases e : k' = ρ (89 * q + 5)
    · subst e
      rw [hP, p0, p1, p2, p3, p4]
      refine ⟨i0, i1, s0, s1, r0, r1, by omega, Int.le_refl _, hph.symm, fun k2 g2 g3 => ?_⟩
      have : k2 = ρ (89 * q + 5) := by omega
      subst this
      rw [hP, p3]; exact Int.le_refl _
    · have f := far k' g0 (by omega)
      have b := pAt_b (q := q) (k := k') q0 (by omega)
      have := c3 k' g0 (by omega)
      rw [oth _ (by omega) (by omega), oth _ (by omega) (by omega), oth _ (by omega) (by omega), oth _ (by omega) (by omega), oth _ (by omega) (by omega)]
      refine ⟨this.1, this.2.1, this.2.2.1, this.2.2.2.1, this.2.2.2.2.1, this.2.2.2.2.2.1, this.2.2.2.2.2.2.1, this.2.2.2.2.2.2.2.1, this.2.2.2.2.2.2.2.2.1, fun k2 g2 g3 => ?_⟩
      rw [e5] at g3
      by_cases e2 : k2 = ρ (89 * q + 5)
      · subst e2; rw [hP, p3]; exact this.2.2.2.2.2.2.2.1
      · have f2 := far k2 (by omega) (by omega)
        have b2 := pAt_b (q := q) (k := k2) q0 (by omega)
        rw [oth (pAt q k2 + 3) (by omega) (by omega)]
        exact this.2.2.2.2.2.2.2.2.2 k2 g2 (by omega)
  · rw [cnt_queue h q0 (by omega) (fun j h2 => oth j (by omega) (by omega)), rngc_same q0 (by omega) (oth _ (by omega) (by omega)) (oth _ (by omega) (by omega)) (fun k' _ _ => by have b := rAt_b (q := q) (k := k') q0 (by omega); exact oth _ (by omega) (by omega))]
    have e : pstc L q z = pstc ρ q z + out1c ρ z k := by
      unfold pstc out1c
      rw [e5, oth (89 * q + 6) (by omega) (by omega), hq]
      have e1 : (ρ (89 * q + 5) + 1 - ρ (89 * q + 6)).toNat = (ρ (89 * q + 5) - ρ (89 * q + 6)).toNat + 1 := by omega
      rw [e1, sm_last, sm_congr (g := fun k => if 16 * q + ρ (pAt q k) = z then 1 else 0) _ _ (fun j h2 h3 => ?_)]
      · have e2 : ρ (89 * q + 6) + ((ρ (89 * q + 5) - ρ (89 * q + 6)).toNat : Int) = ρ (89 * q + 5) := by omega
        rw [e2, hP, p0]
      · have f := far j h2 (by omega)
        have b := pAt_b (q := q) (k := j) q0 (by omega)
        rw [oth (pAt q j) (by omega) (by omega)]
    rw [e]; omega
theorem post_WF (h : WF C ρ) (hk : okC C) (h0 : 0 ≤ k) (h1 : k < ρ 814) (hr : roomS C ρ k = true) :
    WF C (postS C ρ k) ∧ (∀ z, cnt (postS C ρ k) z = cnt ρ z) ∧ (∀ j, 445 ≤ j → j ≤ 493 → postS C ρ k j = ρ j) ∧ postS C ρ k 814 = ρ 814 - 1 := by
  obtain ⟨w1, w2, w3⟩ := lay_W0 h.1 hk h0 h1 hr
  have o8 := h.1.2.2.1.2.1
  have e8 := w3 814 (by decide)
  have cc : ∀ z, cnt (postS C ρ k) z = cnt ρ z := fun z => by
    have rc : out1c (laidS C ρ k) z k = out1c ρ z k := by unfold out1c; rw [w3 _ (by omega), w3 _ (by omega)]
    unfold postS; rw [outGo_cnt w1 h0 (by omega), w2, rc]; omega
  refine ⟨⟨outGo_W0 w1 h0 (by omega), fun z => by rw [cc]; exact h.2 z⟩, cc, fun j g0 g1 => ?_, ?_⟩
  · unfold postS; rw [outGo_lo (by omega) (by omega)]; exact w3 j g0
  · unfold postS; rw [outGo_814 (by omega), e8]
theorem shad_W0 (h : W0 C ρ) (h0 : 0 ≤ q) (h1 : q < 5) : W0 C (shadS C ρ q) ∧ (∀ z, cnt (shadS C ρ q) z = cnt ρ z) ∧ (∀ j, 445 ≤ j → shadS C ρ q j = ρ j) := by
  obtain ⟨c1, c2, c3⟩ := h.1 q h0 h1
  unfold cntsOK at c1
  have oth : ∀ j, j ≠ 89 * q + 2 → j ≠ 89 * q + 7 → j ≠ 89 * q + 8 → shadS C ρ q j = ρ j := by
    intro j g0 g1 g2; unfold shadS; split
    · split
      · simp (disch := omega) only [updR_miss]
      · exact updR_miss g0
    · rfl
  have e2 : shadS C ρ q (89 * q + 2) = ρ (89 * q + 2) ∨ shadS C ρ q (89 * q + 2) = ρ (89 * q + 1) := by
    unfold shadS; split
    · split
      · exact Or.inr (by simp (disch := omega) only [updR_miss, updR_hit])
      · exact Or.inr (updR_hit rfl)
    · exact Or.inl rfl
  have e7 : shadS C ρ q (89 * q + 7) = ρ (89 * q + 7) ∨ shadS C ρ q (89 * q + 7) = ρ (89 * q + 1) := by
    unfold shadS; split
    · split
      · exact Or.inr (by simp (disch := omega) only [updR_miss, updR_hit])
      · exact Or.inl (updR_miss (by omega))
    · exact Or.inl rfl
  have e8 : shadS C ρ q (89 * q + 8) = ρ (89 * q + 8) ∨ shadS C ρ q (89 * q + 8) = 0 := by
    unfold shadS; split
    · split
      · exact Or.inr (updR_hit rfl)
      · exact Or.inl (updR_miss (by omega))
    · exact Or.inl rfl
  refine ⟨W0_queue h h0 h1 (fun j h2 => oth j (by omega) (by omega) (by omega)) ⟨?_, ringOK_same c2 (oth _ (by omega) (by omega) (by omega)) (oth _ (by omega) (by omega) (by omega)) (fun j h2 h3 => oth j (by omega) (by omega) (by omega)), postOK_same c3 (oth _ (by omega) (by omega) (by omega)) (oth _ (by omega) (by omega) (by omega)) (oth _ (by omega) (by omega) (by omega)) (oth _ (by omega) (by omega) (by omega)) (fun j h2 h3 => oth j (by omega) (by omega) (by omega))⟩ (oth _ (by omega) (by omega) (by omega)), fun z => cnt_low h (fun j g0 g1 g2 g3 => oth j (g2 q h0 h1).2.1 (g2 q h0 h1).2.2.2.1 (g2 q h0 h1).2.2.2.2), fun j g0 => oth j (by omega) (by omega) (by omega)⟩
  unfold cntsOK
  rw [oth (89 * q) (by omega) (by omega) (by omega), oth (89 * q + 1) (by omega) (by omega) (by omega), oth (89 * q + 3) (by omega) (by omega) (by omega), oth (89 * q + 4) (by omega) (by omega) (by omega), oth (89 * q + 5) (by omega) (by omega) (by omega), oth (89 * q + 6) (by omega) (by omega) (by omega)]
  omega
/-- only numbers from 815 on, CLASSES' -/
theorem misc_W0 (h : W0 C ρ) (ho : ∀ j, 0 ≤ j → j < 844 → (j < 815 ∨ 840 ≤ j) → σ j = ρ j) (hm : miscOK σ) : W0 C σ ∧ ∀ z, cnt σ z = cnt ρ z :=
  ⟨⟨fun q g0 g1 => qOK_congr g0 g1 (fun j g2 g3 => ho j (by omega) (by omega) (by omega)) (h.1 q g0 g1), runsOK_congr (fun j g0 g1 => ho j (by omega) (by omega) (by omega)) h.2.1, outsOK_congr (fun j g0 g1 => ho j (by omega) (by omega) (by omega)) h.2.2.1, hm, srvOK_congr (fun j g0 g1 => ho j (by omega) (by omega) (by omega)) (fun q g0 g1 => ho _ (by omega) (by omega) (by omega)) h.2.2.2.2⟩, fun z => cnt_low h (fun j g0 g1 _ g2 => ho j g0 g1 (by omega))⟩
theorem chosen_W0 (h : W0 C ρ) (hc : canS C ρ) : W0 C (chosenS C ρ).2 ∧ (∀ z, cnt (chosenS C ρ).2 z = cnt ρ z) := by
  refine misc_W0 h (fun j g0 g1 g2 => chosenS_oth hc (by omega)) ?_
  obtain ⟨m1, m2, m3, m4, m5⟩ := h.2.2.2.1
  have oo : ∀ j, j < 818 ∨ 825 < j → (chosenS C ρ).2 j = ρ j := fun j g => chosenS_oth hc g
  have key : (∀ j, 819 ≤ j → j < 822 → 0 ≤ (chosenS C ρ).2 j ∧ (chosenS C ρ).2 j ≤ 9) ∧ (∀ j, 822 ≤ j → j < 826 → 0 ≤ (chosenS C ρ).2 j ∧ (chosenS C ρ).2 j ≤ 4) := by
    unfold chosenS
    by_cases c0 : 0 ≤ behS C ρ 0
    · rw [if_pos c0]
      simp only
      have b := behS_b C ρ 0
      refine ⟨fun j g0 g1 => by rw [updR_miss (by omega)]; exact m3 j g0 g1, fun j g0 g1 => ?_⟩
      by_cases e : j = 822
      · subst e; rw [updR_hit rfl]; omega
      · rw [updR_miss e]; exact m4 j g0 g1
    · rw [if_neg c0]
      have hc := hc.resolve_left c0
      simp only
      have m3' : ∀ j, 819 ≤ j → j < 822 → 0 ≤ (if credS C ρ < 0 then refS ρ else ρ) j ∧ (if credS C ρ < 0 then refS ρ else ρ) j ≤ 9 := by
        intro j g0 g1
        split
        · unfold refS
          have w1 := m2 815 (by decide) (by decide)
          have w2 := m2 816 (by decide) (by decide)
          have w3 := m2 817 (by decide) (by decide)
          rcases (by omega : j = 819 ∨ j = 820 ∨ j = 821) with rfl | rfl | rfl
          · simp (disch := omega) only [updR_miss, updR_hit]; omega
          · simp (disch := omega) only [updR_miss, updR_hit]; omega
          · simp (disch := omega) only [updR_hit]; omega
        · exact m3 j g0 g1
      have m4' : ∀ j, 822 ≤ j → j < 826 → (if credS C ρ < 0 then refS ρ else ρ) j = ρ j := by
        intro j g0 g1
        split
        · exact refS_oth (by omega)
        · rfl
      generalize (if credS C ρ < 0 then refS ρ else ρ) = ρ1 at *
      have b := credS_b C ρ1
      have b2 := behS_b C ρ1 (credS C ρ1)
      have b3 := b.2.2 hc
      refine ⟨fun j g0 g1 => ?_, fun j g0 g1 => ?_⟩
      · rw [updR_miss (by omega)]
        have := m3' j g0 g1
        by_cases e : j = 818 + credS C ρ1
        · subst e; rw [updR_hit rfl]; omega
        · rw [updR_miss e]; exact this
      · by_cases e : j = 822 + credS C ρ1
        · subst e; rw [updR_hit rfl]; omega
        · rw [updR_miss e, updR_miss (by omega), m4' j g0 g1]; exact m4 j g0 g1
  refine ⟨fun j g0 g1 => by rw [oo j (by omega)]; exact m1 j g0 g1, fun j g0 g1 => by rw [oo j (by omega)]; exact m2 j g0 g1, key.1, key.2, ?_⟩
  rw [oo 826 (by decide), oo 827 (by decide), oo 838 (by decide), oo 839 (by decide)]; exact m5
end r54
