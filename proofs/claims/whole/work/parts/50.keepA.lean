/-! a row keeps its order: completions, what goes -/
section r50
variable {C : CF} {ρ σ : RW} {q id st res k z : Int}
/-- the same queues and numbers -/
theorem W0_of (h : W0 C ρ) (hq : ∀ j, 0 ≤ j → j < 445 → σ j = ρ j) (hm : ∀ j, 815 ≤ j → j < 844 → σ j = ρ j) (hr : runsOK C σ) (ho : outsOK C σ) : W0 C σ :=
  ⟨fun q h0 h1 => qOK_congr h0 h1 (fun j h2 h3 => hq j (by omega) (by omega)) (h.1 q h0 h1), hr, ho, miscOK_congr (fun j h2 h3 => hm j h2 (by omega)) h.2.2.2.1, srvOK_congr (fun j h2 h3 => hm j (by omega) h3) (fun q h2 h3 => hq _ (by omega) (by omega)) h.2.2.2.2⟩
/-- another queue alone -/
theorem W0_queue (h : W0 C ρ) (h0 : 0 ≤ q) (h1 : q < 5) (hq : ∀ j, (0 ≤ j ∧ j < 89 * q) ∨ (89 * q + 89 ≤ j ∧ j < 844) → σ j = ρ j) (hn : qOK C σ q) (hf : σ (89 * q + 3) = ρ (89 * q + 3)) : W0 C σ := by
  refine ⟨fun q' h2 h3 => ?_, runsOK_congr (fun j h2 h3 => hq j (by omega)) h.2.1, outsOK_congr (fun j h2 h3 => hq j (by omega)) h.2.2.1, miscOK_congr (fun j h2 h3 => hq j (by omega)) h.2.2.2.1, srvOK_congr (fun j h2 h3 => hq j (by omega)) (fun q' h2 h3 => ?_) h.2.2.2.2⟩
  · by_cases e : q' = q
    · subst e; exact hn
    · exact qOK_congr h2 h3 (fun j h4 h5 => hq j (by omega)) (h.1 q' h2 h3)
  · by_cases e : q' = q
    · subst e; exact hf
    · exact hq _ (by omega)
theorem cnt_queue (h : W0 C ρ) (h0 : 0 ≤ q) (h1 : q < 5) (hq : ∀ j, (0 ≤ j ∧ j < 89 * q) ∨ (89 * q + 89 ≤ j ∧ j < 844) → σ j = ρ j) : cnt σ z = cnt ρ z + (rngc σ q z + pstc σ q z - (rngc ρ q z + pstc ρ q z)) := by
  unfold cnt
  rw [quec_one z h0 h1 (fun q' h2 h3 h4 j h5 h6 => hq j (by omega)), runc_congr z (fun j h2 h3 => hq j (by omega)) h.2.1.2.1, outc_congr z (fun j h2 h3 => hq j (by omega)) h.2.2.1.2.1]
  omega
theorem outS_lo {j : Int} (h8 : ρ 814 < 80) (hj : j < 494 + 4 * ρ 814) : outS ρ q id st res j = ρ j := by
  unfold outS; simp (disch := omega) only [updR_miss]
theorem outS_q (h8 : ρ 814 < 80) : outS ρ q id st res (494 + 4 * ρ 814) = q := by
  unfold outS; simp (disch := omega) only [updR_miss, updR_hit]
theorem outS_id (h8 : ρ 814 < 80) : outS ρ q id st res (495 + 4 * ρ 814) = id := by
  unfold outS; simp (disch := omega) only [updR_miss, updR_hit]
theorem outS_st (h8 : ρ 814 < 80) : outS ρ q id st res (496 + 4 * ρ 814) = st := by
  unfold outS; simp (disch := omega) only [updR_miss, updR_hit]
theorem outS_re (h8 : ρ 814 < 80) : outS ρ q id st res (497 + 4 * ρ 814) = res := by
  unfold outS; simp (disch := omega) only [updR_miss, updR_hit]
theorem outS_W0 (h : W0 C ρ) (h8 : ρ 814 < 80) (hq0 : 0 ≤ q) (hq1 : q < C.1) (hi0 : 0 ≤ id) (hi1 : id < 16) (hs0 : 0 ≤ st) (hs1 : st ≤ 4) (hr0 : 0 ≤ res) (hr1 : res ≤ 99) : W0 C (outS ρ q id st res) := by
  have o0 := h.2.2.1.1
  have oo : ∀ j, j < 494 ∨ 814 < j → outS ρ q id st res j = ρ j := fun j hj => outS_oth o0 h8 hj
  refine W0_of h (fun j h0 h1 => oo j (by omega)) (fun j h0 h1 => oo j (by omega)) (runsOK_congr (fun j h0 h1 => oo j (by omega)) h.2.1) ⟨?_, ?_, fun k h0 h1 => ?_⟩
  · rw [outS_814]; omega
  · rw [outS_814]; omega
  · rw [outS_814] at h1
    by_cases hk : k = ρ 814
    · subst hk
      unfold out1OK
      rw [outS_q h8, outS_id h8, outS_st h8, outS_re h8]
      exact ⟨hq0, hq1, hi0, hi1, hs0, hs1, hr0, hr1⟩
    · exact out1OK_congr (fun j h2 h3 => outS_lo h8 (by omega)) (h.2.2.1.2.2 k h0 (by omega))
theorem outS_cnt (h : W0 C ρ) (h8 : ρ 814 < 80) : cnt (outS ρ q id st res) z = cnt ρ z + (if 16 * q + id = z then 1 else 0) := by
  have o0 := h.2.2.1.1
  have oo : ∀ j, j < 494 ∨ 814 < j → outS ρ q id st res j = ρ j := fun j hj => outS_oth o0 h8 hj
  unfold cnt
  rw [quec_congr z (fun j h0 h1 => oo j (by omega)), runc_congr z (fun j h0 h1 => oo j (by omega)) h.2.1.2.1]
  have e : outc (outS ρ q id st res) z = outc ρ z + (if 16 * q + id = z then 1 else 0) := by
    unfold outc
    have e1 : (outS ρ q id st res 814).toNat = (ρ 814).toNat + 1 := by rw [outS_814]; omega
    rw [e1, sm_last, sm_congr (g := out1c ρ z) _ _ (fun j h0 h1 => ?_)]
    · have e2 : 0 + ((ρ 814).toNat : Int) = ρ 814 := by omega
      rw [e2]
      unfold out1c
      rw [outS_q h8, outS_id h8]
    · unfold out1c
      rw [outS_lo h8 (by omega), outS_lo h8 (by omega)]
  rw [e]; omega
theorem BdN_outS {N : Int} (h : BdN N ρ) (hN : 100 ≤ N) (h8 : ρ 814 < 80) (hq : -1 ≤ q ∧ q ≤ N) (hi : -1 ≤ id ∧ id ≤ N) (hs : -1 ≤ st ∧ st ≤ N) (hr : -1 ≤ res ∧ res ≤ N) : BdN N (outS ρ q id st res) :=
  BdN_upd (BdN_upd (BdN_upd (BdN_upd (BdN_upd h hq.1 hq.2) hi.1 hi.2) hs.1 hs.2) hr.1 hr.2) (by have := h 814; omega) (by omega)
theorem BdN_shf {N lo hi s : Int} (h : BdN N ρ) : BdN N (shf lo hi s ρ) := by
  intro j; unfold shf; split
  · exact h _
  · exact h j
theorem runGo_lo {j : Int} (h0 : j < 445 + 12 * k) (h1 : k < 4) : runGoS ρ k j = ρ j := by
  unfold runGoS shf; rw [if_neg (by omega), updR_miss (by omega)]
theorem runGo_hi {j : Int} (h0 : 445 + 12 * k ≤ j) (h1 : j < 445 + 12 * (ρ 493 - 1)) (h4 : ρ 493 ≤ 4) : runGoS ρ k j = ρ (j + 12) := by
  unfold runGoS shf; rw [if_pos (by omega), updR_miss (by omega)]
theorem runGo_oth {j : Int} (h1 : 493 < j) (h4 : ρ 493 ≤ 4) : runGoS ρ k j = ρ j := by
  unfold runGoS shf; rw [if_neg (by omega), updR_miss (by omega)]
theorem run1OK_move {k' : Int} (h : ∀ j, 0 ≤ j → j < 11 → σ (445 + 12 * k' + j) = ρ (445 + 12 * k + j)) (c : run1OK C ρ k) : run1OK C σ k' := by
  have g : ∀ u v : Int, 0 ≤ u → u < 11 → v = 445 + u → σ (v + 12 * k') = ρ (v + 12 * k) := by
    intro u v h0 h1 h2
    have := h u h0 h1
    rw [show v + 12 * k' = 445 + 12 * k' + u by omega, show v + 12 * k = 445 + 12 * k + u by omega]; exact this
  unfold run1OK at *
  rw [g 0 445 (by decide) (by decide) (by decide), g 2 447 (by decide) (by decide) (by decide), g 5 450 (by decide) (by decide) (by decide), g 7 452 (by decide) (by decide) (by decide), g 10 455 (by decide) (by decide) (by decide)]
  refine ⟨c.1, c.2.1, cmdOK_move (fun j h1 h2 => ?_) c.2.2.1, c.2.2.2.1, c.2.2.2.2.1, ?_⟩
  · have := h (1 + j) (by omega) (by omega)
    rw [show 446 + 12 * k' + j = 445 + 12 * k' + (1 + j) by omega, show 446 + 12 * k + j = 445 + 12 * k + (1 + j) by omega]; exact this
  · rcases c.2.2.2.2.2 with c1 | ⟨c1, c2, c3⟩
    · exact Or.inl c1
    · refine Or.inr ⟨c1, cmdOK_move (fun j h1 h2 => ?_) c2, c3⟩
      have := h (6 + j) (by omega) (by omega)
      rw [show 451 + 12 * k' + j = 445 + 12 * k' + (6 + j) by omega, show 451 + 12 * k + j = 445 + 12 * k + (6 + j) by omega]; exact this
theorem runGo_W0 (h : W0 C ρ) (h0 : 0 ≤ k) (h1 : k < ρ 493) : W0 C (runGoS ρ k) := by
  have r4 := h.2.1.2.1
  have r5 := runGo_493 (ρ := ρ) (k := k) (by omega)
  refine W0_of h (fun j h2 h3 => runGo_lo (by omega) (by omega)) (fun j h2 h3 => runGo_oth (by omega) r4) ⟨?_, ?_, fun k' h2 h3 => ?_⟩ (outsOK_congr (fun j h2 h3 => runGo_oth (by omega) r4) h.2.2.1)
  · rw [r5]; omega
  · rw [r5]; omega
  · rw [r5] at h3
    by_cases hk : k' < k
    · exact run1OK_congr (fun j h4 h5 => runGo_lo (by omega) (by omega)) (h.2.1.2.2 k' h2 (by omega))
    · refine run1OK_move (k := k' + 1) (fun j h4 h5 => ?_) (h.2.1.2.2 (k' + 1) (by omega) (by omega))
      rw [runGo_hi (by omega) (by omega) r4]
      rw [show 445 + 12 * k' + j + 12 = 445 + 12 * (k' + 1) + j by omega]
theorem runGo_cnt (h : W0 C ρ) (h0 : 0 ≤ k) (h1 : k < ρ 493) : cnt (runGoS ρ k) z = cnt ρ z - run1c ρ z k := by
  have r4 := h.2.1.2.1
  have r5 := runGo_493 (ρ := ρ) (k := k) (by omega)
  unfold cnt
  rw [quec_congr (ρ := ρ) (σ := runGoS ρ k) z (fun j h2 h3 => runGo_lo (by omega) (by omega)), outc_congr (ρ := ρ) (σ := runGoS ρ k) z (fun j h2 h3 => runGo_oth (by omega) r4) h.2.2.1.2.1]
  have e : runc (runGoS ρ k) z = runc ρ z - run1c ρ z k := by
    unfold runc
    rw [r5]
    have e1 : (ρ 493).toNat = (ρ 493 - 1).toNat + 1 := by omega
    rw [e1]
    refine sm_rem (m := k) _ 0 h0 (by omega) (fun j h2 h3 => ?_) (fun j h2 h3 => ?_)
    · unfold run1c
      rw [runGo_lo (by omega) (by omega), runGo_lo (by omega) (by omega), runGo_lo (by omega) (by omega), runGo_lo (by omega) (by omega)]
    · unfold run1c
      rw [runGo_hi (by omega) (by omega) r4, runGo_hi (by omega) (by omega) r4, runGo_hi (by omega) (by omega) r4, runGo_hi (by omega) (by omega) r4]
      rw [show 445 + 12 * j + 12 = 445 + 12 * (j + 1) by omega, show 446 + 12 * j + 12 = 446 + 12 * (j + 1) by omega, show 451 + 12 * j + 12 = 451 + 12 * (j + 1) by omega, show 452 + 12 * j + 12 = 452 + 12 * (j + 1) by omega]
  rw [e]; omega
theorem runGo_lft {lo : Int} (h : lftOK lo ρ) (h4 : ρ 493 ≤ 4) (h0 : 0 ≤ k) (h1 : k < ρ 493) : lftOK lo (runGoS ρ k) := by
  have r5 := runGo_493 (ρ := ρ) (k := k) (by omega)
  intro k' h2 h3
  rw [r5] at h3
  by_cases hk : k' < k
  · rw [runGo_lo (by omega) (by omega)]; exact h k' h2 (by omega)
  · rw [runGo_hi (by omega) (by omega) h4, show 456 + 12 * k' + 12 = 456 + 12 * (k' + 1) by omega]; exact h (k' + 1) (by omega) (by omega)
theorem BdN_runGo {N : Int} (h : BdN N ρ) (hN : 4 ≤ N) (h0 : 0 ≤ ρ 493) (h4 : ρ 493 ≤ 4) : BdN N (runGoS ρ k) := BdN_shf (BdN_upd h (by omega) (by omega))
theorem outGo_lo {j : Int} (h0 : j < 494 + 4 * k) (h1 : k < 80) : outGoS ρ k j = ρ j := by
  unfold outGoS shf; rw [if_neg (by omega), updR_miss (by omega)]
theorem outGo_hi {j : Int} (h0 : 494 + 4 * k ≤ j) (h1 : j < 494 + 4 * (ρ 814 - 1)) (h4 : ρ 814 ≤ 80) : outGoS ρ k j = ρ (j + 4) := by
  unfold outGoS shf; rw [if_pos (by omega), updR_miss (by omega)]
theorem outGo_oth {j : Int} (h1 : 814 < j) (h4 : ρ 814 ≤ 80) : outGoS ρ k j = ρ j := by
  unfold outGoS shf; rw [if_neg (by omega), updR_miss (by omega)]
theorem outGo_814 (h : ρ 814 ≤ 80) : outGoS ρ k 814 = ρ 814 - 1 := by
  unfold outGoS shf; rw [if_neg (by omega), updR_hit rfl]
theorem outGo_W0 (h : W0 C ρ) (h0 : 0 ≤ k) (h1 : k < ρ 814) : W0 C (outGoS ρ k) := by
  have r4 := h.2.2.1.2.1
  have r5 := outGo_814 (ρ := ρ) (k := k) r4
  refine W0_of h (fun j h2 h3 => outGo_lo (by omega) (by omega)) (fun j h2 h3 => outGo_oth (by omega) r4) (runsOK_congr (fun j h2 h3 => outGo_lo (by omega) (by omega)) h.2.1) ⟨?_, ?_, fun k' h2 h3 => ?_⟩
  · rw [r5]; omega
  · rw [r5]; omega
  · rw [r5] at h3
    by_cases hk : k' < k
    · exact out1OK_congr (fun j h4 h5 => outGo_lo (by omega) (by omega)) (h.2.2.1.2.2 k' h2 (by omega))
    · have c := h.2.2.1.2.2 (k' + 1) (by omega) (by omega)
      unfold out1OK at *
      rw [outGo_hi (by omega) (by omega) r4, outGo_hi (by omega) (by omega) r4, outGo_hi (by omega) (by omega) r4, outGo_hi (by omega) (by omega) r4, show 494 + 4 * k' + 4 = 494 + 4 * (k' + 1) by omega, show 495 + 4 * k' + 4 = 495 + 4 * (k' + 1) by omega, show 496 + 4 * k' + 4 = 496 + 4 * (k' + 1) by omega, show 497 + 4 * k' + 4 = 497 + 4 * (k' + 1) by omega]
      exact c
theorem outGo_cnt (h : W0 C ρ) (h0 : 0 ≤ k) (h1 : k < ρ 814) : cnt (outGoS ρ k) z = cnt ρ z - out1c ρ z k := by
  have r4 := h.2.2.1.2.1
  have r5 := outGo_814 (ρ := ρ) (k := k) r4
  unfold cnt
  rw [quec_congr (ρ := ρ) (σ := outGoS ρ k) z (fun j h2 h3 => outGo_lo (by omega) (by omega)), runc_congr (ρ := ρ) (σ := outGoS ρ k) z (fun j h2 h3 => outGo_lo (by omega) (by omega)) h.2.1.2.1]
  have e : outc (outGoS ρ k) z = outc ρ z - out1c ρ z k := by
    unfold outc
    rw [r5]
    have e1 : (ρ 814).toNat = (ρ 814 - 1).toNat + 1 := by omega
    rw [e1]
    refine sm_rem (m := k) _ 0 h0 (by omega) (fun j h2 h3 => ?_) (fun j h2 h3 => ?_)
    · unfold out1c
      rw [outGo_lo (by omega) (by omega), outGo_lo (by omega) (by omega)]
    · unfold out1c
      rw [outGo_hi (by omega) (by omega) r4, outGo_hi (by omega) (by omega) r4]
      rw [show 494 + 4 * j + 4 = 494 + 4 * (j + 1) by omega, show 495 + 4 * j + 4 = 495 + 4 * (j + 1) by omega]
  rw [e]; omega
theorem BdN_outGo {N : Int} (h : BdN N ρ) (h0 : 0 ≤ ρ 814) : BdN N (outGoS ρ k) := BdN_shf (BdN_upd h (by omega) (by have := h 814; omega))
end r50
