/-! a row keeps its order: what was fetched, what ends -/
section r53
variable {C : CF} {ρ σ : RW} {q a id st res k z : Int}
theorem pairS_iff : pairS ρ q = true ↔ ρ (89 * q + 3) < ρ (89 * q + 2) ∧ ρ (rAt q (ρ (89 * q + 3)) + 1) = 3 ∧ ρ (rAt q (ρ (89 * q + 3)) + 4) = 0 := by
  unfold pairS workS; simp only [Bool.and_eq_true, decide_eq_true_eq, and_assoc]
theorem runS_W0 (K : KF) (pair : Bool) (h : W0 C ρ) (hk : okC C) (h0 : 0 ≤ q) (h1 : q < C.1) (ha0 : 0 ≤ a) (ha1 : a + 5 ≤ 445) (h4 : ρ 493 < 4) (hc : cmdOK ρ a) (hc4 : ρ (a + 4) = 0) (hc3 : ρ (a + 1) ≠ 3) (hp : pair = true ↔ ρ (a + 1) = 2) (hps : pair = true → pairS ρ q = true) :
    W0 C (runS K C ρ q a pair) ∧ (∀ z, cnt (runS K C ρ q a pair) z = cnt ρ z + (if 16 * q + ρ a = z then 1 else 0)) ∧ (∀ lo, lo ≤ 1 → lftOK lo ρ → lftOK lo (runS K C ρ q a pair)) := by
  have hn := hk.2.1
  have kk := hk.2.2 q h0 h1
  have r0 := h.2.1.1
  obtain ⟨f1, f2, f3, f4, f5, f6, f7⟩ := runS_facts (a := a) K pair hk h0 h1 ha0 ha1 r0 h4
  obtain ⟨c1, c2, c3⟩ := h.1 q h0 (by omega)
  unfold cntsOK at c1
  have base : ∀ j, 445 ≤ j → j < 840 → (if pair = true then fetS C ρ q else ρ) j = ρ j := by
    intro j h5 h6; split
    · exact fetS_oth (by omega) (by omega)
    · rfl
  have b493 : (if pair = true then fetS C ρ q else ρ) 493 = ρ 493 := base 493 (by decide) (by decide)
  have hW : W0 C (if pair = true then fetS C ρ q else ρ) := by
    split
    · exact fet_W0 h hk h0 h1 (pairS_iff.mp (hps (by assumption))).1
    · exact h
  have g0 := f4 0 (by decide) (by decide)
  have g1 := f4 1 (by decide) (by decide)
  have g4 := f4 4 (by decide) (by decide)
  have hrun : run1OK C (runS K C ρ q a pair) (ρ 493) := by
    unfold run1OK
    rw [f3, show 447 + 12 * ρ 493 = 446 + 12 * ρ 493 + 1 by omega, g1, show 450 + 12 * ρ 493 = 446 + 12 * ρ 493 + 4 by omega, g4]
    refine ⟨h0, h1, cmdOK_move (fun j h5 h6 => f4 j h5 h6) hc, hc3, hc4, ?_⟩
    cases pair with
    | false => exact Or.inl ⟨fun e => absurd (hp.mpr e) (by decide), f6 rfl⟩
    | true =>
      have ps := pairS_iff.mp (hps rfl)
      have f5 := f5 rfl
      refine Or.inr ⟨hp.mp rfl, cmdOK_move (fun j h5 h6 => f5 j h5 h6) (c2 _ (Int.le_refl _) (by omega)), ?_, ?_⟩
      · rw [show 452 + 12 * ρ 493 = 451 + 12 * ρ 493 + 1 by omega, f5 1 (by decide) (by decide)]; exact ps.2.1
      · rw [show 455 + 12 * ρ 493 = 451 + 12 * ρ 493 + 4 by omega, f5 4 (by decide) (by decide)]; exact ps.2.2
  obtain ⟨w1, w2⟩ := runAdd (σ := runS K C ρ q a pair) hW (by rw [b493]; exact h4) (fun j h5 h6 h7 h8 => by rw [b493] at h8; exact f1 j h5 h6 h7 h8) (by rw [b493]; exact f2) (by rw [b493]; exact hrun)
  refine ⟨w1, fun z => ?_, fun lo hlo hl k h5 h6 => ?_⟩
  · rw [w2 z, b493]
    unfold run1c
    rw [f3]
    rw [Int.add_zero, Int.add_zero] at g0
    rw [g0]
    cases pair with
    | false =>
      rw [f6 rfl]
      simp only [Bool.false_eq_true, if_false]
      rw [if_neg (show ¬ ((0 : Int) ≤ -1 ∧ 16 * q + runS K C ρ q a false (451 + 12 * ρ 493) = z) from fun g => absurd g.1 (by decide))]
      omega
    | true =>
      have ps := pairS_iff.mp (hps rfl)
      have s0 := f5 rfl 0 (by decide) (by decide)
      have s1 := f5 rfl 1 (by decide) (by decide)
      rw [Int.add_zero, Int.add_zero] at s0
      rw [s0, show 452 + 12 * ρ 493 = 451 + 12 * ρ 493 + 1 by omega, s1, ps.2.1]
      simp only [if_true]
      rw [fet_cnt h hk h0 h1 ps.1]
      by_cases e : 16 * q + ρ (rAt q (ρ (89 * q + 3))) = z
      · rw [if_pos e, if_pos (show (0 : Int) ≤ 3 ∧ 16 * q + ρ (rAt q (ρ (89 * q + 3))) = z from ⟨by decide, e⟩)]; omega
      · rw [if_neg e, if_neg (show ¬ ((0 : Int) ≤ 3 ∧ 16 * q + ρ (rAt q (ρ (89 * q + 3))) = z) from fun g => e g.2)]; omega
  · rw [f2] at h6
    by_cases e : k = ρ 493
    · subst e
      rw [f7]
      have := clampS_b (if K.2 = 0 then (if 0 < askedS C ρ q a 0 then 2 else 1) else evL K.1 (askedS C ρ q a) K.2.toNat 0 [])
      unfold timeR timeS
      omega
    · rw [f1 _ (by omega) (by omega) (by omega) (by omega), base _ (by omega) (by omega)]; exact hl k h5 (by omega)
theorem outS_lft {lo : Int} (h : lftOK lo ρ) (h0 : 0 ≤ ρ 814) (h8 : ρ 814 < 80) (h4 : ρ 493 ≤ 4) : lftOK lo (outS ρ q id st res) :=
  lftOK_congr (fun j h1 h2 => outS_oth h0 h8 (Or.inl (by omega))) h4 h
/-- a COMMAND that was fetched goes on -/
theorem got_W0 (K : KF) (h : W0 C ρ) (hk : okC C) (h0 : 0 ≤ q) (h1 : q < C.1) (ha0 : 0 ≤ a) (ha1 : a + 5 ≤ 445) (h4 : ρ 493 < 4) (h8 : ρ 814 < 80) (hc : cmdOK ρ a) :
    W0 C (gotS K C ρ q a) ∧ (∀ z, cnt (gotS K C ρ q a) z = cnt ρ z + (if 16 * q + ρ a = z then 1 else 0)) ∧ (∀ lo, lo ≤ 1 → lftOK lo ρ → lftOK lo (gotS K C ρ q a)) := by
  have hc' := hc
  unfold cmdOK at hc'
  unfold gotS
  by_cases c1 : ρ (a + 4) = 1
  · rw [if_pos c1]
    exact ⟨outS_W0 h h8 h0 h1 (by omega) (by omega) (by decide) (by decide) (by decide) (by decide), fun z => outS_cnt h h8, fun lo _ hl => outS_lft hl h.2.2.1.1 h8 (by omega)⟩
  · rw [if_neg c1]
    by_cases c2 : ρ (a + 1) = 2 ∧ pairS ρ q = false ∨ ρ (a + 1) = 3
    · rw [if_pos c2]
      exact ⟨outS_W0 h h8 h0 h1 (by omega) (by omega) (by decide) (by decide) (by decide) (by decide), fun z => outS_cnt h h8, fun lo _ hl => outS_lft hl h.2.2.1.1 h8 (by omega)⟩
    · rw [if_neg c2]
      refine runS_W0 K _ h hk h0 h1 ha0 ha1 h4 hc (by omega) (fun e => c2 (Or.inr e)) ⟨of_decide_eq_true, decide_eq_true⟩ (fun e => ?_)
      by_cases g : pairS ρ q = true
      · exact g
      · exact absurd (Or.inl ⟨of_decide_eq_true e, by simpa using g⟩) c2
/-- the outbox has room for what is fetched -/
theorem out_room1 (h : W0 C ρ) (hn : C.1 ≤ 5) (hu : ∀ z, cnt ρ z ≤ 1) {z0 : Int} (hz0 : 0 ≤ z0) (hz1 : z0 < 80) (hz : cnt ρ z0 ≤ 0) : runm ρ + ρ 814 ≤ 79 := by
  rw [← runc_all h hn, ← outc_all h hn, ← sm_add]
  have := sm_le (f := fun z => runc ρ z + outc ρ z) (g := fun z => if z = z0 then 0 else 1) 80 0 (fun z _ _ => by
    have := hu z; have := quec_nn ρ z; have := runc_nn ρ z; have := outc_nn ρ z; unfold cnt at *
    by_cases e : z = z0
    · subst e; rw [if_pos rfl]; omega
    · rw [if_neg e]; omega)
  rw [sm_one (f := fun _ => 1) (g := fun z => if z = z0 then 0 else 1) (q := z0) 80 0 hz0 (by omega) (fun j _ _ hj => if_neg hj), sm_const, if_pos rfl] at this
  omega
/-- what ends is done -/
theorem done_W0 (h : W0 C ρ) (hn : C.1 ≤ 5) (h0 : 0 ≤ k) (h1 : k < ρ 493) (h8 : ρ 814 + 1 + (if 0 ≤ ρ (452 + 12 * k) then 1 else 0) ≤ 80) :
    W0 C (doneS ρ k) ∧ (∀ z, cnt (doneS ρ k) z = cnt ρ z + run1c ρ z k) ∧ (∀ j, 445 ≤ j → j ≤ 493 → doneS ρ k j = ρ j) := by
  have o0 := h.2.2.1.1
  have r4 := h.2.1.2.1
  have r := h.2.1.2.2 k h0 h1
  unfold run1OK at r
  obtain ⟨q0, q1, c1, n3, ca, hs⟩ := r
  have c1' := c1
  unfold cmdOK at c1'
  have i1 := @ite01 (0 ≤ ρ (452 + 12 * k)) _
  have u1 : 445 + 12 * k + 1 = 446 + 12 * k := by omega
  have u2 : 445 + 12 * k + 2 = 447 + 12 * k := by omega
  have u3 : 445 + 12 * k + 3 = 448 + 12 * k := by omega
  have u4 : 445 + 12 * k + 4 = 449 + 12 * k := by omega
  have u6 : 445 + 12 * k + 6 = 451 + 12 * k := by omega
  have u8 : 445 + 12 * k + 8 = 453 + 12 * k := by omega
  have u9 : 445 + 12 * k + 9 = 454 + 12 * k := by omega
  have e1 : 446 + 12 * k + 1 = 447 + 12 * k := by omega
  have e2 : 446 + 12 * k + 2 = 448 + 12 * k := by omega
  have e3 : 446 + 12 * k + 3 = 449 + 12 * k := by omega
  have e4 : 446 + 12 * k + 4 = 450 + 12 * k := by omega
  rw [e1, e2, e3, e4] at c1'
  -- a block is laid down
  have blk : ∀ (τ : RW) (b v : Int), W0 C τ → 0 ≤ b → b ≤ 9 → 0 ≤ v → v ≤ 99 → W0 C (updR τ (828 + b) v) ∧ (∀ z, cnt (updR τ (828 + b) v) z = cnt τ z) ∧ ∀ j, j < 815 → updR τ (828 + b) v j = τ j := by
    intro τ b v ht b0 b1 v0 v1
    have oo : ∀ j, j ≠ 828 + b → updR τ (828 + b) v j = τ j := fun j hj => updR_miss hj
    refine ⟨⟨fun q g0 g1 => qOK_congr g0 g1 (fun j g2 g3 => oo j (by omega)) (ht.1 q g0 g1), runsOK_congr (fun j g2 g3 => oo j (by omega)) ht.2.1, outsOK_congr (fun j g2 g3 => oo j (by omega)) ht.2.2.1, ?_, srvOK_congr (fun j g2 g3 => oo j (by omega)) (fun q g2 g3 => oo _ (by omega)) ht.2.2.2.2⟩, fun z => cnt_low ht (fun j g0 g1 _ g2 => oo j (by omega)), fun j g => oo j (by omega)⟩
    obtain ⟨m1, m2, m3, m4, m5⟩ := ht.2.2.2.1
    refine ⟨fun j g0 g1 => ?_, fun j g0 g1 => by rw [oo j (by omega)]; exact m2 j g0 g1, fun j g0 g1 => by rw [oo j (by omega)]; exact m3 j g0 g1, fun j g0 g1 => by rw [oo j (by omega)]; exact m4 j g0 g1, by rw [oo 826 (by omega), oo 827 (by omega), oo 838 (by omega), oo 839 (by omega)]; exact m5⟩
    by_cases e : j = 828 + b
    · subst e; rw [updR_hit rfl]; exact ⟨v0, v1⟩
    · rw [oo j e]; exact m1 j g0 g1
  have bb := h.2.2.2.1.1 (828 + ρ (448 + 12 * k)) (by omega) (by omega)
  have single : ρ (447 + 12 * k) ≠ 2 → ∀ z, run1c ρ z k = (if 16 * ρ (445 + 12 * k) + ρ (446 + 12 * k) = z then 1 else 0) := by
    intro h2 z
    unfold run1c
    rw [if_neg (show ¬ (0 ≤ ρ (452 + 12 * k) ∧ 16 * ρ (445 + 12 * k) + ρ (451 + 12 * k) = z) by omega)]; omega
  unfold doneS
  simp only [u1, u2, u3, u4, u6, u8, u9]
  by_cases p0 : ρ (447 + 12 * k) = 0
  · rw [if_pos p0]
    exact ⟨outS_W0 h (by omega) q0 q1 (by omega) (by omega) (by decide) (by decide) bb.1 bb.2, fun z => by rw [outS_cnt h (by omega), single (by omega)], fun j g0 g1 => outS_oth o0 (by omega) (by omega)⟩
  rw [if_neg p0]
  by_cases p1 : ρ (447 + 12 * k) = 1
  · rw [if_pos p1]
    obtain ⟨w1, w2, w3⟩ := blk ρ (ρ (448 + 12 * k)) (ρ (449 + 12 * k)) h (by omega) (by omega) (by omega) (by omega)
    have o8 := w3 814 (by decide)
    exact ⟨outS_W0 w1 (by omega) q0 q1 (by omega) (by omega) (by decide) (by decide) (by omega) (by omega), fun z => by rw [outS_cnt w1 (by omega), w2, single (by omega)], fun j g0 g1 => by rw [outS_oth (by omega) (by omega) (by omega)]; exact w3 j (by omega)⟩
  rw [if_neg p1]
  by_cases p4 : ρ (447 + 12 * k) = 4
  · rw [if_pos p4]
    exact ⟨outS_W0 h (by omega) q0 q1 (by omega) (by omega) (by decide) (by decide) (by decide) (by decide), fun z => by rw [outS_cnt h (by omega), single (by omega)], fun j g0 g1 => outS_oth o0 (by omega) (by omega)⟩
  rw [if_neg p4]
  rcases hs with hs | ⟨hs2, cs, hs3, hs4⟩
  · omega
  have cs' := cs
  unfold cmdOK at cs'
  rw [show 451 + 12 * k + 1 = 452 + 12 * k by omega, show 451 + 12 * k + 2 = 453 + 12 * k by omega, show 451 + 12 * k + 3 = 454 + 12 * k by omega] at cs'
  rw [if_pos (by omega)] at h8
  have pairc : ∀ z, run1c ρ z k = (if 16 * ρ (445 + 12 * k) + ρ (446 + 12 * k) = z then 1 else 0) + (if 16 * ρ (445 + 12 * k) + ρ (451 + 12 * k) = z then 1 else 0) := by
    intro z
    unfold run1c
    by_cases e : 16 * ρ (445 + 12 * k) + ρ (451 + 12 * k) = z
    · rw [if_pos (show 0 ≤ ρ (452 + 12 * k) ∧ 16 * ρ (445 + 12 * k) + ρ (451 + 12 * k) = z from ⟨by omega, e⟩), if_pos e]
    · rw [if_neg (show ¬ (0 ≤ ρ (452 + 12 * k) ∧ 16 * ρ (445 + 12 * k) + ρ (451 + 12 * k) = z) from fun g => e g.2), if_neg e]
  by_cases p5 : ρ (828 + ρ (448 + 12 * k)) = ρ (449 + 12 * k)
  · rw [if_pos p5]
    have x1 := outS_W0 (q := ρ (445 + 12 * k)) (id := ρ (446 + 12 * k)) (st := 0) (res := ρ (828 + ρ (448 + 12 * k))) h (by omega) q0 q1 (by omega) (by omega) (by decide) (by decide) bb.1 bb.2
    have x8 : outS ρ (ρ (445 + 12 * k)) (ρ (446 + 12 * k)) 0 (ρ (828 + ρ (448 + 12 * k))) 814 = ρ 814 + 1 := outS_814
    obtain ⟨w1, w2, w3⟩ := blk _ (ρ (453 + 12 * k)) (ρ (454 + 12 * k)) x1 (by omega) (by omega) (by omega) (by omega)
    have o8 := w3 814 (by decide)
    refine ⟨outS_W0 w1 (by omega) q0 q1 (by omega) (by omega) (by decide) (by decide) (by omega) (by omega), fun z => ?_, fun j g0 g1 => ?_⟩
    · rw [outS_cnt w1 (by omega), w2, outS_cnt h (by omega), pairc]; omega
    · rw [outS_oth (by omega) (by omega) (by omega), w3 j (by omega)]; exact outS_oth o0 (by omega) (by omega)
  · rw [if_neg p5]
    have x1 := outS_W0 (q := ρ (445 + 12 * k)) (id := ρ (446 + 12 * k)) (st := 2) (res := ρ (828 + ρ (448 + 12 * k))) h (by omega) q0 q1 (by omega) (by omega) (by decide) (by decide) bb.1 bb.2
    have x8 : outS ρ (ρ (445 + 12 * k)) (ρ (446 + 12 * k)) 2 (ρ (828 + ρ (448 + 12 * k))) 814 = ρ 814 + 1 := outS_814
    refine ⟨outS_W0 x1 (by omega) q0 q1 (by omega) (by omega) (by decide) (by decide) (by decide) (by decide), fun z => ?_, fun j g0 g1 => ?_⟩
    · rw [outS_cnt x1 (by omega), outS_cnt h (by omega), pairc]; omega
    · rw [outS_oth (by omega) (by omega) (by omega)]; exact outS_oth o0 (by omega) (by omega)
theorem ends_WF (h : WF C ρ) (hn : C.1 ≤ 5) (h0 : 0 ≤ k) (h1 : k < ρ 493) :
    WF C (endsS ρ k) ∧ (∀ z, cnt (endsS ρ k) z = cnt ρ z) ∧ endsS ρ k 493 = ρ 493 - 1 ∧ ∀ lo, lftOK lo ρ → lftOK lo (endsS ρ k) := by
  have r4 := h.1.2.1.2.1
  have m1 := runm_ge h0 h1
  have m2 := out_room h hn
  obtain ⟨w1, w2, w3⟩ := done_W0 h.1 hn h0 h1 (by omega)
  have e93 := w3 493 (by decide) (by decide)
  have rc : ∀ z, run1c (doneS ρ k) z k = run1c ρ z k := fun z => by
    unfold run1c; rw [w3 _ (by omega) (by omega), w3 _ (by omega) (by omega), w3 _ (by omega) (by omega), w3 _ (by omega) (by omega)]
  have cc : ∀ z, cnt (endsS ρ k) z = cnt ρ z := fun z => by
    unfold endsS; rw [runGo_cnt w1 h0 (by omega), w2, rc]; omega
  refine ⟨⟨runGo_W0 w1 h0 (by omega), fun z => by rw [cc]; exact h.2 z⟩, cc, ?_, fun lo hl => ?_⟩
  · unfold endsS; rw [runGo_493 (by omega), e93]
  · exact runGo_lft (lftOK_congr w3 r4 hl) (by omega) h0 (by omega)
end r53
