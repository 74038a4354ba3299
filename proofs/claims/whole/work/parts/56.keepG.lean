/-! a row keeps its order: A TICK can be done, and keeps it -/
section r56
variable {C : CF} {ρ σ : RW} {q a id st res k z : Int}
theorem decs_all : ∀ (n : Nat) (k : Int) (ρ : RW), W0 C ρ → 0 ≤ k → k + n ≤ 4 → W0 C (decsS n k ρ) ∧ (∀ z, cnt (decsS n k ρ) z = cnt ρ z) ∧ (∀ j, (∀ i, k ≤ i → i < k + n → j ≠ 456 + 12 * i) → decsS n k ρ j = ρ j) ∧ (∀ i, k ≤ i → i < k + n → decsS n k ρ (456 + 12 * i) = ρ (456 + 12 * i) - 1) := by
  intro n
  induction n with
  | zero => intro k ρ h h0 h1; exact ⟨h, fun _ => rfl, fun _ _ => rfl, fun i g0 g1 => by omega⟩
  | succ n ih =>
    intro k ρ h h0 h1
    have oo : ∀ j, j ≠ 456 + 12 * k → updR ρ (456 + 12 * k) (ρ (456 + 12 * k) - 1) j = ρ j := fun j g => updR_miss g
    have w : W0 C (updR ρ (456 + 12 * k) (ρ (456 + 12 * k) - 1)) := by
      refine W0_of h (fun j g0 g1 => oo j (by omega)) (fun j g0 g1 => oo j (by omega)) ⟨?_, ?_, fun i g0 g1 => ?_⟩ (outsOK_congr (fun j g0 g1 => oo j (by omega)) h.2.2.1)
      · rw [oo 493 (by omega)]; exact h.2.1.1
      · rw [oo 493 (by omega)]; exact h.2.1.2.1
      · rw [oo 493 (by omega)] at g1
        exact run1OK_congr (fun j g2 g3 => oo j (by omega)) (h.2.1.2.2 i g0 g1)
    have c : ∀ z, cnt (updR ρ (456 + 12 * k) (ρ (456 + 12 * k) - 1)) z = cnt ρ z := fun z => by
      unfold cnt
      rw [quec_congr (ρ := ρ) z (fun j g0 g1 => oo j (by omega)), outc_congr (ρ := ρ) z (fun j g0 g1 => oo j (by omega)) h.2.2.1.2.1]
      have e : runc (updR ρ (456 + 12 * k) (ρ (456 + 12 * k) - 1)) z = runc ρ z := by
        unfold runc
        rw [oo 493 (by omega)]
        refine sm_congr _ _ (fun j _ _ => ?_)
        unfold run1c
        rw [oo _ (by omega), oo _ (by omega), oo _ (by omega), oo _ (by omega)]
      rw [e]
    obtain ⟨i1, i2, i3, i4⟩ := ih (k + 1) _ w (by omega) (by omega)
    refine ⟨i1, fun z => (i2 z).trans (c z), fun j g => ?_, fun i g0 g1 => ?_⟩
    · rw [decsS, i3 j (fun i g0 g1 => g i (by omega) (by omega)), oo j (g k (by omega) (by omega))]
    · rw [decsS]
      by_cases e : i = k
      · subst e; rw [i3 _ (fun i' g2 g3 => by omega), updR_hit rfl]
      · rw [i4 i (by omega) (by omega), oo _ (by omega)]
theorem BdN_decs {N : Int} : ∀ (n : Nat) (k : Int) (ρ : RW), BdN N ρ → (∀ i, k ≤ i → i < k + n → 0 ≤ ρ (456 + 12 * i)) → BdN N (decsS n k ρ) := by
  intro n
  induction n with
  | zero => intro k ρ h _; exact h
  | succ n ih =>
    intro k ρ h hp
    have := h (456 + 12 * k)
    have := hp k (by omega) (by omega)
    refine ih (k + 1) _ (BdN_upd h (by omega) (by omega)) (fun i g0 g1 => ?_)
    rw [updR_miss (by omega)]; exact hp i (by omega) (by omega)
theorem BdN_done {N : Int} (h : BdN N ρ) (hN : 100 ≤ N) (w : W0 C ρ) (hn : C.1 ≤ 5) (h0 : 0 ≤ k) (h1 : k < ρ 493) (h8 : ρ 814 + 1 + (if 0 ≤ ρ (452 + 12 * k) then 1 else 0) ≤ 80) : BdN N (doneS ρ k) := by
  have o0 := w.2.2.1.1
  have r := w.2.1.2.2 k h0 h1
  unfold run1OK at r
  obtain ⟨q0, q1, c1, n3, ca, hs⟩ := r
  unfold cmdOK at c1
  have i1 := @ite01 (0 ≤ ρ (452 + 12 * k)) _
  have e1 : 445 + 12 * k + 3 = 448 + 12 * k := by omega
  have e2 : 446 + 12 * k + 2 = 448 + 12 * k := by omega
  have e3 : 445 + 12 * k + 2 = 447 + 12 * k := by omega
  have e4 : 446 + 12 * k + 1 = 447 + 12 * k := by omega
  rw [e2, e4] at c1
  unfold doneS
  simp only [e1, e3]
  split
  · exact BdN_outS h hN (by omega) (h _) (h _) ⟨by decide, by omega⟩ (h _)
  · split
    · exact BdN_outS (BdN_upd h (h _).1 (h _).2) hN (by rw [updR_miss (by omega)]; omega) (h _) (h _) ⟨by decide, by omega⟩ (h _)
    · split
      · exact BdN_outS h hN (by omega) (h _) (h _) ⟨by decide, by omega⟩ ⟨by decide, by omega⟩
      · rcases hs with hs | ⟨_, cs, hs3, _⟩
        · omega
        unfold cmdOK at cs
        rw [if_pos (by omega)] at h8
        have e5 : 445 + 12 * k + 8 = 451 + 12 * k + 2 := by omega
        split
        · exact BdN_outS (BdN_upd (BdN_outS h hN (by omega) (h _) (h _) ⟨by decide, by omega⟩ (h _)) (h _).1 (h _).2) hN (by rw [e5, updR_miss (by omega), outS_814]; omega) (h _) (h _) ⟨by decide, by omega⟩ (h _)
        · exact BdN_outS (BdN_outS h hN (by omega) (h _) (h _) ⟨by decide, by omega⟩ (h _)) hN (by rw [outS_814]; omega) (h _) (h _) ⟨by decide, by omega⟩ ⟨by decide, by omega⟩
theorem endl_all {N : Int} (hn5 : C.1 ≤ 5) (hN : 100 ≤ N) (hN1 : N < 1073741824) : ∀ (n : Nat) (k : Int) (ρ : RW), WF C ρ → BdN N ρ → lftOK 0 ρ → (∀ j, 0 ≤ j → j < k → 1 ≤ ρ (456 + 12 * j)) → 0 ≤ k → k ≤ ρ 493 → n = (ρ 493 - k).toNat →
    okEnd n k ρ ∧ WF C (endlS n k ρ) ∧ BdN N (endlS n k ρ) ∧ (∀ z, cnt (endlS n k ρ) z = cnt ρ z) ∧ lftOK 1 (endlS n k ρ) := by
  intro n
  induction n with
  | zero =>
    intro k ρ h hB hl hk h0 hk1 hn
    have r0 := h.1.2.1.1
    exact ⟨WF_Cn h.1 hB hN1, h, hB, fun _ => rfl, fun j g0 g1 => by
      rw [endlS] at g1 ⊢
      exact ⟨hk j g0 (by omega), (hl j g0 g1).2⟩⟩
  | succ n ih =>
    intro k ρ h hB hl hk h0 hk1 hn
    have r4 := h.1.2.1.2.1
    have o0 := h.1.2.2.1.1
    have h1 : k < ρ 493 := by omega
    obtain ⟨w1, w2, w3, w4⟩ := ends_WF h hn5 h0 h1
    have m1 := runm_ge h0 h1
    have m2 := out_room h hn5
    have i1 := @ite01 (0 ≤ ρ (452 + 12 * k)) _
    have r := h.1.2.1.2.2 k h0 h1
    have d3 := (done_W0 h.1 hn5 h0 h1 (by omega)).2.2
    have bE : BdN N (endsS ρ k) := BdN_runGo (BdN_done hB hN h.1 hn5 h0 h1 (by omega)) (by omega) (by rw [d3 493 (by decide) (by decide)]; omega) (by rw [d3 493 (by decide) (by decide)]; omega)
    unfold run1OK at r
    obtain ⟨q0, q1, c1, n3, ca, hs⟩ := r
    unfold cmdOK at c1
    have e2 : 446 + 12 * k + 2 = 448 + 12 * k := by omega
    have e4 : 446 + 12 * k + 1 = 447 + 12 * k := by omega
    rw [e2, e4] at c1
    -- one that ends
    have A : ρ (456 + 12 * k) = 0 → okEnd n k (endsS ρ k) ∧ WF C (endlS n k (endsS ρ k)) ∧ BdN N (endlS n k (endsS ρ k)) ∧ (∀ z, cnt (endlS n k (endsS ρ k)) z = cnt ρ z) ∧ lftOK 1 (endlS n k (endsS ρ k)) := by
      intro _
      obtain ⟨j1, j2, j3, j4, j5⟩ := ih k (endsS ρ k) w1 bE (w4 0 hl) (fun j g0 g1 => by
        unfold endsS
        rw [runGo_lo (by omega) (by omega), d3 _ (by omega) (by omega)]; exact hk j g0 g1) h0 (by omega) (by omega)
      exact ⟨j1, j2, j3, fun z => (j4 z).trans (w2 z), j5⟩
    have B : ρ (456 + 12 * k) ≠ 0 → okEnd n (k + 1) ρ ∧ WF C (endlS n (k + 1) ρ) ∧ BdN N (endlS n (k + 1) ρ) ∧ (∀ z, cnt (endlS n (k + 1) ρ) z = cnt ρ z) ∧ lftOK 1 (endlS n (k + 1) ρ) := by
      intro g
      have := hl k h0 h1
      exact ih (k + 1) ρ h hB hl (fun j g0 g1 => by
        by_cases e : j = k
        · subst e; omega
        · exact hk j g0 (by omega)) (by omega) (by omega) (by omega)
    refine ⟨⟨WF_Cn h.1 hB hN1, fun g => ⟨by omega, ⟨by omega, by omega⟩, fun g0 g1 g4 => ?_, (A g).1⟩, fun g => (B g).1⟩, ?_⟩
    · rcases hs with hs | ⟨_, cs, hs3, _⟩
      · omega
      unfold cmdOK at cs
      have e5 : 451 + 12 * k + 2 = 453 + 12 * k := by omega
      rw [e5] at cs
      rw [if_pos (by omega)] at m1
      omega
    · rw [endlS]
      by_cases g : ρ (456 + 12 * k) = 0
      · rw [if_pos g]; exact (A g).2
      · rw [if_neg g]; exact (B g).2
theorem BdN_lay2 {N : Int} (h : BdN N ρ) (hN : 100 ≤ N) : BdN (N + 1) (laidS C ρ k) := by
  have h' := BdN_le h (show N ≤ N + 1 by omega)
  unfold laidS
  simp only
  have b5 := h (89 * ρ (494 + 4 * k) + 5)
  refine BdN_upd (BdN_upd (BdN_upd (BdN_upd (BdN_upd (BdN_upd h' (h' _).1 (h' _).2) (h' _).1 (h' _).2) (h' _).1 (h' _).2) (h' _).1 (h' _).2) ?_ ?_) (by omega) (by omega)
  · have := @ite01 (ρ (89 * ρ (494 + 4 * k) + 5) / C.2.2.1 (ρ (494 + 4 * k)) % 2 = 0) _; omega
  · split <;> omega
theorem post_all (hk : okC C) {N : Int} (hN : 100 ≤ N) : ∀ (n : Nat) (k : Int) (M : Int) (ρ : RW), WF C ρ → N ≤ M → BdN M ρ → M + n < 1073741824 → 0 ≤ k → k ≤ ρ 814 → n = (ρ 814 - k).toNat →
    okPost C n k ρ ∧ WF C (postlS C n k ρ) ∧ BdN (M + n) (postlS C n k ρ) ∧ (∀ z, cnt (postlS C n k ρ) z = cnt ρ z) ∧ (∀ j, 445 ≤ j → j ≤ 493 → postlS C n k ρ j = ρ j) := by
  intro n
  induction n with
  | zero =>
    intro k M ρ h hM hB hb h0 hk1 hn
    exact ⟨WF_Cn h.1 hB (by omega), h, BdN_le hB (by omega), fun _ => rfl, fun _ _ _ => rfl⟩
  | succ n ih =>
    intro k M ρ h hM hB hb h0 hk1 hn
    have h1 : k < ρ 814 := by omega
    have o8 := h.1.2.2.1.2.1
    have o := h.1.2.2.1.2.2 k h0 h1
    unfold out1OK at o
    have A : roomS C ρ k = true → okPost C n k (postS C ρ k) ∧ WF C (postlS C n k (postS C ρ k)) ∧ BdN (M + 1 + n) (postlS C n k (postS C ρ k)) ∧ (∀ z, cnt (postlS C n k (postS C ρ k)) z = cnt ρ z) ∧ (∀ j, 445 ≤ j → j ≤ 493 → postlS C n k (postS C ρ k) j = ρ j) := by
      intro hr
      obtain ⟨w1, w2, w3, w4⟩ := post_WF h hk h0 h1 hr
      have l8 := (lay_W0 h.1 hk h0 h1 hr).2.2 814 (by decide)
      obtain ⟨j1, j2, j3, j4, j5⟩ := ih k (M + 1) (postS C ρ k) w1 (by omega) (BdN_outGo (BdN_lay2 hB (by omega)) (by omega)) (by omega) h0 (by omega) (by omega)
      exact ⟨j1, j2, j3, fun z => (j4 z).trans (w2 z), fun j g0 g1 => (j5 j g0 g1).trans (w3 j g0 g1)⟩
    have B : okPost C n (k + 1) ρ ∧ WF C (postlS C n (k + 1) ρ) ∧ BdN (M + n) (postlS C n (k + 1) ρ) ∧ (∀ z, cnt (postlS C n (k + 1) ρ) z = cnt ρ z) ∧ (∀ j, 445 ≤ j → j ≤ 493 → postlS C n (k + 1) ρ j = ρ j) :=
      ih (k + 1) M ρ h hM hB (by omega) (by omega) (by omega) (by omega)
    refine ⟨⟨WF_Cn h.1 hB (by omega), ⟨o.1, o.2.1⟩, fun g => (A g).1, fun _ => B.1⟩, ?_⟩
    rw [postlS]
    by_cases g : roomS C ρ k = true
    · rw [if_pos g]
      obtain ⟨_, a2, a3, a4, a5⟩ := A g
      exact ⟨a2, BdN_le a3 (by omega), a4, a5⟩
    · rw [if_neg g]
      obtain ⟨_, a2, a3, a4, a5⟩ := B
      exact ⟨a2, BdN_le a3 (by omega), a4, a5⟩
theorem shads_all (hn : C.1 ≤ 5) {N : Int} (hN : 0 ≤ N) : ∀ (n : Nat) (q : Int) (ρ : RW), WF C ρ → BdN N ρ → 0 ≤ q → q + n ≤ 5 → WF C (shadsS C n q ρ) ∧ BdN N (shadsS C n q ρ) ∧ (∀ z, cnt (shadsS C n q ρ) z = cnt ρ z) ∧ (∀ j, 445 ≤ j → shadsS C n q ρ j = ρ j) := by
  intro n
  induction n with
  | zero => intro q ρ h hB h0 h1; exact ⟨h, hB, fun _ => rfl, fun _ _ => rfl⟩
  | succ n ih =>
    intro q ρ h hB h0 h1
    obtain ⟨w1, w2, w3⟩ := shad_W0 h.1 h0 (by omega : q < 5)
    obtain ⟨j1, j2, j3, j4⟩ := ih (q + 1) (shadS C ρ q) ⟨w1, fun z => by rw [w2]; exact h.2 z⟩ (BdN_shad hB hN) (by omega) (by omega)
    exact ⟨j1, j2, fun z => (j3 z).trans (w2 z), fun j g => (j4 j g).trans (w3 j g)⟩
theorem fetl_all (K : KF) (hk : okC C) : ∀ (n : Nat) (M : Int) (ρ : RW), WF C ρ → lftOK 1 ρ → 100 ≤ M → BdN M ρ → M + 3 * n ≤ 90000000 → muS ρ ≤ n →
    okFet K C n ρ ∧ WF C (fetlS K C n ρ) ∧ BdN (M + 3 * n) (fetlS K C n ρ) ∧ (∀ z, cnt (fetlS K C n ρ) z = cnt ρ z) ∧ lftOK 1 (fetlS K C n ρ) := by
  intro n
  induction n with
  | zero =>
    intro M ρ h hl hM hB hb hm
    refine ⟨⟨BdN_le hB (by omega), WF_Cn h.1 hB (by omega), fun hg => ?_⟩, h, BdN_le hB (by omega), fun _ => rfl, hl⟩
    obtain ⟨q, q0, q1, hw⟩ := anyS_iff.mp hg.2
    have p : 0 < muS ρ := by
      have hn := hk.2.1
      have e := sm_le (f := fun j => if j = q then 1 else 0) (g := fun q => ρ (89 * q + 2) - ρ (89 * q + 3)) 5 0 (fun j g0 g1 => by
        have := (h.1.1 j g0 (by omega)).1
        unfold cntsOK at this
        split
        · rename_i e; subst e; omega
        · omega)
      rw [sm_congr (g := fun j => if q = j then 1 else 0) 5 0 (fun j _ _ => by
        by_cases e2 : j = q
        · rw [if_pos e2, if_pos e2.symm]
        · rw [if_neg e2, if_neg (fun g => e2 g.symm)]), sm_ind 5 0 q0 (by omega)] at e
      unfold muS; omega
    omega
  | succ n ih =>
    intro M ρ h hl hM hB hb hm
    have d1 := h.1.2.2.2.1.2.2.2.2
    have A : goesS C ρ → (canS C ρ ∧ 0 ≤ (chosenS C ρ).1 ∧ (chosenS C ρ).1 < C.1 ∧ ρ 493 < 4 ∧ ρ 814 < 80 ∧ okFet K C n (fetchesS K C ρ)) ∧ WF C (fetlS K C n (fetchesS K C ρ)) ∧ BdN (M + 3 + 3 * n) (fetlS K C n (fetchesS K C ρ)) ∧ (∀ z, cnt (fetlS K C n (fetchesS K C ρ)) z = cnt ρ z) ∧ lftOK 1 (fetlS K C n (fetchesS K C ρ)) := by
      intro hg
      unfold goesS at hg
      have hc := canS_of h.1 hk hg.2
      have s := chosen_spec hc
      obtain ⟨w1, w2, w3, w4, w5, w6⟩ := fetches_WF K h hk hg.2 (by omega) hB hM
      obtain ⟨j1, j2, j3, j4, j5⟩ := ih (M + 3) (fetchesS K C ρ) w1 (w3 1 (by decide) hl) (by omega) w5 (by omega) (by omega)
      exact ⟨⟨hc, s.1, s.2.1, by omega, w6, j1⟩, j2, j3, fun z => (j4 z).trans (w2 z), j5⟩
    refine ⟨⟨BdN_le hB (by omega), WF_Cn h.1 hB (by omega), WF_okL h.1, d1.2.2.1, fun g => (A g).1⟩, ?_⟩
    rw [fetlS]
    by_cases g : ρ 493 < ρ 826 ∧ anyS C ρ = true
    · rw [if_pos g]
      obtain ⟨_, a2, a3, a4, a5⟩ := A g
      exact ⟨a2, BdN_le a3 (by omega), a4, a5⟩
    · rw [if_neg g]
      exact ⟨h, BdN_le hB (by omega), fun _ => rfl, hl⟩
/-- A TICK can be done, and leaves a row in order -/
theorem tick_WF {N : Int} (K : KF) (hk : okC C) (h : WF C ρ) (hl : lftOK 1 ρ) (hN : 100 ≤ N) (hB : BdN N ρ) (hb : N < 80000000) :
    okTick K C ρ ∧ WF C (tickS K C ρ) ∧ lftOK 1 (tickS K C ρ) ∧ BdN (N + 400) (tickS K C ρ) ∧ ∀ z, cnt (tickS K C ρ) z = cnt ρ z := by
  have hn := hk.2.1
  have r0 := h.1.2.1.1
  have r4 := h.1.2.1.2.1
  obtain ⟨a1, a2, a3, a4⟩ := decs_all (ρ 493).toNat 0 ρ h.1 (by decide) (by omega)
  have a5 := BdN_decs (N := N) (ρ 493).toNat 0 ρ hB (fun i g0 g1 => by have := hl i g0 (by omega); omega)
  rw [show decsS (ρ 493).toNat 0 ρ = tk1S ρ from rfl] at a1 a2 a3 a4 a5
  have e1 : tk1S ρ 493 = ρ 493 := a3 493 (fun i _ _ => by omega)
  have w1 : WF C (tk1S ρ) := ⟨a1, fun z => by rw [a2]; exact h.2 z⟩
  have l0 : lftOK 0 (tk1S ρ) := fun i g0 g1 => by
    rw [e1] at g1
    have := hl i g0 g1
    rw [a4 i g0 (by omega)]; omega
  obtain ⟨b1, b2, b3, b4, b5⟩ := endl_all hn hN (by omega) (tk1S ρ 493).toNat 0 (tk1S ρ) w1 a5 l0 (fun j g0 g1 => by omega) (by decide) (by omega) (by rw [Int.sub_zero])
  rw [show endlS (tk1S ρ 493).toNat 0 (tk1S ρ) = tk2S ρ from rfl] at b2 b3 b4 b5
  have o8 := b2.1.2.2.1.2.1
  have o0 := b2.1.2.2.1.1
  obtain ⟨c1, c2, c3, c4, c5⟩ := post_all hk hN (tk2S ρ 814).toNat 0 N (tk2S ρ) b2 (Int.le_refl _) b3 (by omega) (by decide) (by omega) (by rw [Int.sub_zero])
  rw [show postlS C (tk2S ρ 814).toNat 0 (tk2S ρ) = tk3S C ρ from rfl] at c2 c3 c4 c5
  have c3 := BdN_le c3 (show N + ((tk2S ρ 814).toNat : Int) ≤ N + 80 by omega)
  have n0 := hk.1
  obtain ⟨d1, d2, d3, d4⟩ := shads_all hn (show (0 : Int) ≤ N + 80 by omega) C.1.toNat 0 (tk3S C ρ) c2 c3 (by decide) (by omega)
  rw [show shadsS C C.1.toNat 0 (tk3S C ρ) = tk4S C ρ from rfl] at d1 d2 d3 d4
  have l4 : lftOK 1 (tk4S C ρ) := lftOK_congr (fun j g0 g1 => (d4 j g0).trans (c5 j g0 g1)) b2.1.2.1.2.1 b5
  have mu := mu_b d1.1
  obtain ⟨f1, f2, f3, f4, f5⟩ := fetl_all K hk 80 (N + 80) (tk4S C ρ) d1 l4 (by omega) d2 (by omega) (by omega)
  rw [show fetlS K C 80 (tk4S C ρ) = tk5S K C ρ from rfl] at f2 f3 f4 f5
  have bt := f3 827
  have t0 := f2.1.2.2.2.1
  have oo : ∀ j, j ≠ 827 → tickS K C ρ j = tk5S K C ρ j := fun j g => updR_miss g
  have e7 : tickS K C ρ 827 = tk5S K C ρ 827 + 1 := updR_hit rfl
  obtain ⟨m1, m2, m3, m4, m5⟩ := t0
  obtain ⟨g1, g2⟩ := misc_W0 (σ := tickS K C ρ) f2.1 (fun j g0 g1 g2 => oo j (by omega)) ⟨fun j g0 g1 => by rw [oo j (by omega)]; exact m1 j g0 g1, fun j g0 g1 => by rw [oo j (by omega)]; exact m2 j g0 g1, fun j g0 g1 => by rw [oo j (by omega)]; exact m3 j g0 g1, fun j g0 g1 => by rw [oo j (by omega)]; exact m4 j g0 g1, by rw [oo 826 (by decide), e7, oo 838 (by decide), oo 839 (by decide)]; omega⟩
  have cc : ∀ z, cnt (tickS K C ρ) z = cnt ρ z := fun z => by rw [g2, f4, d3, c4, b4, a2]
  refine ⟨⟨r0, r4, b1, c1, BdN_le c3 (by omega), f1, BdN_le f3 (by omega)⟩, ⟨g1, fun z => by rw [cc]; exact h.2 z⟩, lftOK_congr (fun j g0 g1 => oo j (by omega)) f2.1.2.1.2.1 f5, ?_, cc⟩
  exact BdN_upd (BdN_le f3 (by omega)) (by omega) (by omega)
end r56
