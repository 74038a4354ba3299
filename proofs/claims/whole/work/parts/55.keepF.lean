/-! a row keeps its order: whose turn it is, TO FETCH */ -/
section r55
variable {C : CF} {ρ σ : RW} {q a id st res k z : Int}
theorem workS_iff : workS ρ q = true ↔ ρ (89 * q + 3) < ρ (89 * q + 2) := by unfold workS; exact ⟨of_decide_eq_true, decide_eq_true⟩
theorem anyS_iff : anyS C ρ = true ↔ ∃ q, 0 ≤ q ∧ q < C.1 ∧ ρ (89 * q + 3) < ρ (89 * q + 2) := by
  unfold anyS
  rw [decide_eq_true_iff, fnd_pos (Int.le_refl 0)]
  constructor
  · rintro ⟨j, h1, h2, h3⟩; exact ⟨j, h1, by omega, workS_iff.mp h3⟩
  · rintro ⟨j, h1, h2, h3⟩; exact ⟨j, h1, by omega, workS_iff.mpr h3⟩
theorem behIs_iff {c : Int} : behIs C ρ c k = true ↔ (ρ (822 + c) + k) % 5 < C.1 ∧ C.2.2.2.1 ((ρ (822 + c) + k) % 5) = c ∧ ρ (89 * ((ρ (822 + c) + k) % 5) + 3) < ρ (89 * ((ρ (822 + c) + k) % 5) + 2) := by
  unfold behIs; simp only [Bool.and_eq_true, decide_eq_true_eq, workS_iff, and_assoc]
theorem behS_spec {c : Int} (h : 0 ≤ behS C ρ c) : behS C ρ c < C.1 ∧ C.2.2.2.1 (behS C ρ c) = c ∧ ρ (89 * behS C ρ c + 3) < ρ (89 * behS C ρ c + 2) := by
  unfold behS at *
  rcases fnd_lo (behIs C ρ c) 5 1 with e | ⟨e1, e2, e3⟩
  · rw [if_pos (by omega)] at h; omega
  · rw [if_neg (by omega)]; exact behIs_iff.mp e3
theorem behS_ex {c : Int} (hq0 : 0 ≤ q) (hq1 : q < C.1) (hn : C.1 ≤ 5) (hk : C.2.2.2.1 q = c) (hw : ρ (89 * q + 3) < ρ (89 * q + 2)) : 0 ≤ behS C ρ c := by
  have f : 0 ≤ fnd (behIs C ρ c) 5 1 := by
    rw [fnd_pos (by decide)]
    have e : (ρ (822 + c) + ((q - ρ (822 + c) - 1) % 5 + 1)) % 5 = q := by omega
    refine ⟨(q - ρ (822 + c) - 1) % 5 + 1, by omega, by omega, behIs_iff.mpr ?_⟩
    rw [e]; exact ⟨hq1, hk, hw⟩
  unfold behS
  rw [if_neg (by omega)]; omega
theorem behS_congr {c : Int} (h1 : σ (822 + c) = ρ (822 + c)) (h2 : ∀ q, 0 ≤ q → q < 5 → σ (89 * q + 2) = ρ (89 * q + 2) ∧ σ (89 * q + 3) = ρ (89 * q + 3)) : behS C σ c = behS C ρ c := by
  have e : fnd (behIs C σ c) 5 1 = fnd (behIs C ρ c) 5 1 := fnd_congr 5 1 (fun j _ _ => by
    unfold behIs workS
    rw [h1, (h2 ((ρ (822 + c) + j) % 5) (by omega) (by omega)).1, (h2 ((ρ (822 + c) + j) % 5) (by omega) (by omega)).2])
  unfold behS
  rw [e, h1]
theorem canS_of (h : W0 C ρ) (hk : okC C) (ha : anyS C ρ = true) : canS C ρ := by
  obtain ⟨q, q0, q1, hw⟩ := anyS_iff.mp ha
  have hn := hk.2.1
  have kk := hk.2.2 q q0 q1
  have b := behS_ex q0 q1 hn rfl hw
  unfold canS
  by_cases c0 : 0 ≤ behS C ρ 0
  · exact Or.inl c0
  · have hc : C.2.2.2.1 q ≠ 0 := fun e => by rw [e] at b; exact c0 b
    refine Or.inr ?_
    by_cases c1 : credS C ρ < 0
    · rw [if_pos c1]
      have e : behS C (refS ρ) (C.2.2.2.1 q) = behS C ρ (C.2.2.2.1 q) := behS_congr (refS_oth (by omega)) (fun q' g0 g1 => ⟨refS_oth (by omega), refS_oth (by omega)⟩)
      have w := h.2.2.2.1.2.1 (814 + C.2.2.2.1 q) (by omega) (by omega)
      have cr : 0 < refS ρ (818 + C.2.2.2.1 q) := by
        unfold refS
        rcases (by omega : C.2.2.2.1 q = 1 ∨ C.2.2.2.1 q = 2 ∨ C.2.2.2.1 q = 3) with e1 | e1 | e1
        · rw [e1] at w ⊢; simp (disch := omega) only [updR_miss, updR_hit]; exact w.1
        · rw [e1] at w ⊢; simp (disch := omega) only [updR_miss, updR_hit]; exact w.1
        · rw [e1] at w ⊢; simp (disch := omega) only [updR_hit]; exact w.1
      have f : 0 ≤ credS C (refS ρ) := by
        unfold credS
        rw [fnd_pos (by decide)]
        refine ⟨C.2.2.2.1 q, by omega, by omega, ?_⟩
        rw [e]
        simp only [Bool.and_eq_true, decide_eq_true_eq]
        exact ⟨cr, b⟩
      unfold credS at *
      rcases fnd_lo (fun c => decide (0 < refS ρ (818 + c)) && decide (0 ≤ behS C (refS ρ) c)) 3 1 with e2 | ⟨e2, _, _⟩ <;> omega
    · rw [if_neg c1]
      unfold credS at *
      rcases fnd_lo (fun c => decide (0 < ρ (818 + c)) && decide (0 ≤ behS C ρ c)) 3 1 with e2 | ⟨e2, _, _⟩ <;> omega
theorem chosen_spec (hc : canS C ρ) : 0 ≤ (chosenS C ρ).1 ∧ (chosenS C ρ).1 < C.1 ∧ (chosenS C ρ).1 < 5 ∧ ρ (89 * (chosenS C ρ).1 + 3) < ρ (89 * (chosenS C ρ).1 + 2) := by
  unfold chosenS
  by_cases c0 : 0 ≤ behS C ρ 0
  · rw [if_pos c0]
    exact ⟨c0, (behS_spec c0).1, (behS_b C ρ 0).2, (behS_spec c0).2.2⟩
  · rw [if_neg c0]
    have hc := hc.resolve_left c0
    simp only
    have m : ∀ j, j < 815 → (if credS C ρ < 0 then refS ρ else ρ) j = ρ j := by
      intro j hj; split
      · exact refS_oth (by omega)
      · rfl
    generalize (if credS C ρ < 0 then refS ρ else ρ) = ρ1 at *
    have b := ((credS_b C ρ1).2.2 hc).2
    have s := behS_spec b
    have l := (behS_b C ρ1 (credS C ρ1)).2
    rw [m _ (by omega), m _ (by omega)] at s
    exact ⟨b, s.1, l, s.2.2⟩
theorem BdN_got {N : Int} {K : KF} (h : BdN N ρ) (hN : 100 ≤ N) (h0 : 0 ≤ q) (hq : q < 5) (h8 : ρ 814 < 80) : BdN (N + 2) (gotS K C ρ q a) := by
  unfold gotS
  split
  · exact BdN_le (BdN_outS h hN h8 ⟨by omega, by omega⟩ (h a) ⟨by decide, by omega⟩ ⟨by decide, by omega⟩) (by omega)
  · split
    · exact BdN_le (BdN_outS h hN h8 ⟨by omega, by omega⟩ (h a) ⟨by decide, by omega⟩ ⟨by decide, by omega⟩) (by omega)
    · unfold runS
      simp only
      generalize hg : updR (layS (445 + 12 * ρ 493 + 1) a (updR ρ (445 + 12 * ρ 493) q)) (445 + 12 * ρ 493 + 7) (-1) = ρ3
      have b3 : BdN N ρ3 := by rw [← hg]; exact BdN_upd (BdN_lay (BdN_upd h (by omega) (by omega))) (by omega) (by omega)
      have b4 : BdN (N + 1) (if decide (ρ (a + 1) = 2) = true then layS (445 + 12 * ρ 493 + 6) (rAt q (ρ3 (89 * q + 3))) (fetS C ρ3 q) else ρ3) := by
        split
        · exact BdN_lay (BdN_fet b3)
        · exact BdN_le b3 (by omega)
      generalize (if decide (ρ (a + 1) = 2) = true then layS (445 + 12 * ρ 493 + 6) (rAt q (ρ3 (89 * q + 3))) (fetS C ρ3 q) else ρ3) = ρ4 at *
      have t := clampS_b (if K.2 = 0 then (if 0 < askedS C ρ q a 0 then 2 else 1) else evL K.1 (askedS C ρ q a) K.2.toNat 0 [])
      have b5 := b4 493
      refine BdN_upd (BdN_upd (BdN_le b4 (by omega)) ?_ ?_) (by omega) (by omega)
      · unfold timeR timeS; omega
      · unfold timeR timeS; omega
/-- what is still to be fetched -/
def muS (ρ : RW) : Int := sm (fun q => ρ (89 * q + 2) - ρ (89 * q + 3)) 5 0
theorem mu_b (h : W0 C ρ) : 0 ≤ muS ρ ∧ muS ρ ≤ 35 := by
  have e : ∀ q, 0 ≤ q → q < 5 → 0 ≤ ρ (89 * q + 2) - ρ (89 * q + 3) ∧ ρ (89 * q + 2) - ρ (89 * q + 3) ≤ 7 := by
    intro q g0 g1
    have := (h.1 q g0 g1).1
    unfold cntsOK at this
    omega
  refine ⟨sm_nonneg _ _ (fun q g0 g1 => (e q g0 (by omega)).1), ?_⟩
  have := sm_le (f := fun q => ρ (89 * q + 2) - ρ (89 * q + 3)) (g := fun _ => 7) 5 0 (fun q g0 g1 => (e q g0 (by omega)).2)
  rw [sm_const] at this
  unfold muS; omega
theorem fetches_WF {N : Int} (K : KF) (h : WF C ρ) (hk : okC C) (ha : anyS C ρ = true) (h4 : ρ 493 < 4) (hB : BdN N ρ) (hN : 100 ≤ N) :
    WF C (fetchesS K C ρ) ∧ (∀ z, cnt (fetchesS K C ρ) z = cnt ρ z) ∧ (∀ lo, lo ≤ 1 → lftOK lo ρ → lftOK lo (fetchesS K C ρ)) ∧ muS (fetchesS K C ρ) ≤ muS ρ - 1 ∧ BdN (N + 3) (fetchesS K C ρ) ∧ ρ 814 < 80 := by
  have hn := hk.2.1
  have hc := canS_of h.1 hk ha
  obtain ⟨q0, q1, q5, hw⟩ := chosen_spec hc
  obtain ⟨w1, w2⟩ := chosen_W0 h.1 hc
  have oo : ∀ j, j < 818 ∨ 825 < j → (chosenS C ρ).2 j = ρ j := fun j g => chosenS_oth hc g
  have bc := chosenS_BdN hc hB (by omega)
  unfold fetchesS
  generalize (chosenS C ρ).1 = q at *
  generalize (chosenS C ρ).2 = ρc at *
  have kk := hk.2.2 q q0 q1
  have hwc : ρc (89 * q + 3) < ρc (89 * q + 2) := by rw [oo _ (by omega), oo _ (by omega)]; exact hw
  have rb := rAt_b (q := q) (k := ρc (89 * q + 3)) q0 q5
  obtain ⟨c1, c2, c3⟩ := w1.1 q q0 q5
  unfold cntsOK at c1
  have cm := c2 _ (Int.le_refl _) (by omega : ρc (89 * q + 3) < ρc (89 * q))
  have f1 := fet_W0 w1 hk q0 q1 hwc
  have f2 := fun z => fet_cnt (z := z) w1 hk q0 q1 hwc
  have fo : ∀ j, j ≠ 89 * q + 3 → j < 840 → fetS C ρc q j = ρc j := fun j g0 g1 => fetS_oth g0 (by omega)
  have f3 : fetS C ρc q (89 * q + 3) = ρc (89 * q + 3) + 1 := fetS_3 (by omega)
  have bf := BdN_fet (C := C) (q := q) bc
  have cm2 : cmdOK (fetS C ρc q) (rAt q (ρc (89 * q + 3))) := cmdOK_congr (fun j g0 g1 => fo j (by omega) (by omega)) cm
  have eid : fetS C ρc q (rAt q (ρc (89 * q + 3))) = ρc (rAt q (ρc (89 * q + 3))) := fo _ (by omega) (by omega)
  unfold cmdOK at cm
  have r1 := out_room1 f1 hn (fun z => by have := h.2 z; have := @ite01 (16 * q + ρc (rAt q (ρc (89 * q + 3))) = z) _; rw [f2, w2]; omega) (z0 := 16 * q + ρc (rAt q (ρc (89 * q + 3)))) (by omega) (by omega) (by have := h.2 (16 * q + ρc (rAt q (ρc (89 * q + 3)))); rw [f2, w2, if_pos rfl]; omega)
  have rn : 0 ≤ runm (fetS C ρc q) := sm_nonneg _ _ (fun j _ _ => by have := @ite01 (0 ≤ fetS C ρc q (452 + 12 * j)) _; omega)
  have e8 : fetS C ρc q 814 = ρ 814 := by rw [fo _ (by omega) (by omega), oo _ (by omega)]
  have e4 : fetS C ρc q 493 = ρ 493 := by rw [fo _ (by omega) (by omega), oo _ (by omega)]
  obtain ⟨g1, g2, g3⟩ := got_W0 K f1 hk q0 q1 (a := rAt q (ρc (89 * q + 3))) (by omega) (by omega) (by rw [e4]; exact h4) (by omega) cm2
  have cc : ∀ z, cnt (gotS K C (fetS C ρc q) q (rAt q (ρc (89 * q + 3)))) z = cnt ρ z := fun z => by rw [g2, f2, w2, eid]; omega
  refine ⟨⟨g1, fun z => by rw [cc]; exact h.2 z⟩, cc, fun lo hlo hl => g3 lo hlo (lftOK_congr (fun j g0 g1 => by rw [fo _ (by omega) (by omega), oo _ (by omega)]) (by omega) hl), ?_, ?_, by omega⟩
  · -- the measure
    have gm : ∀ q', 0 ≤ q' → q' < 5 → gotS K C (fetS C ρc q) q (rAt q (ρc (89 * q + 3))) (89 * q' + 2) = fetS C ρc q (89 * q' + 2) ∧ fetS C ρc q (89 * q' + 3) ≤ gotS K C (fetS C ρc q) q (rAt q (ρc (89 * q + 3))) (89 * q' + 3) := by
      intro q' z0 z1
      have o0 := f1.2.2.1.1
      have f93 := f1.2.1.1
      have ou : ∀ st, outS (fetS C ρc q) q (fetS C ρc q (rAt q (ρc (89 * q + 3)))) st 0 (89 * q' + 2) = fetS C ρc q (89 * q' + 2) ∧ fetS C ρc q (89 * q' + 3) ≤ outS (fetS C ρc q) q (fetS C ρc q (rAt q (ρc (89 * q + 3)))) st 0 (89 * q' + 3) := by
        intro st
        rw [outS_oth o0 (by omega) (by omega), outS_oth o0 (by omega) (by omega)]
        exact ⟨rfl, Int.le_refl _⟩
      unfold gotS
      split
      · exact ou 1
      · split
        · exact ou 4
        · have fx := (runS_facts (ρ := fetS C ρc q) (a := rAt q (ρc (89 * q + 3))) K (decide (fetS C ρc q (rAt q (ρc (89 * q + 3)) + 1) = 2)) hk q0 q1 (by omega) (by omega) f1.2.1.1 (by rw [e4]; exact h4)).1
          rw [fx _ (by omega) (by omega) (by omega) (by omega), fx _ (by omega) (by omega) (by omega) (by omega)]
          split
          · refine ⟨fetS_oth (by omega) (by omega), ?_⟩
            by_cases e : q' = q
            · subst e; rw [fetS_3 (ρ := fetS C ρc q') (by omega)]; omega
            · rw [fetS_oth (ρ := fetS C ρc q) (by omega) (by omega)]; exact Int.le_refl _
          · exact ⟨rfl, Int.le_refl _⟩
    have l1 := sm_le (f := fun q' => gotS K C (fetS C ρc q) q (rAt q (ρc (89 * q + 3))) (89 * q' + 2) - gotS K C (fetS C ρc q) q (rAt q (ρc (89 * q + 3))) (89 * q' + 3)) (g := fun q' => fetS C ρc q (89 * q' + 2) - fetS C ρc q (89 * q' + 3)) 5 0 (fun q' z0 z1 => by have := gm q' z0 (by omega); omega)
    have l2 := sm_one (f := fun q' => ρ (89 * q' + 2) - ρ (89 * q' + 3)) (g := fun q' => fetS C ρc q (89 * q' + 2) - fetS C ρc q (89 * q' + 3)) (q := q) 5 0 q0 (by omega) (fun j _ _ hj => by rw [fo _ (by omega) (by omega), fo _ (by omega) (by omega), oo _ (by omega), oo _ (by omega)])
    rw [f3, fo (89 * q + 2) (by omega) (by omega), oo (89 * q + 2) (by omega), oo (89 * q + 3) (by omega)] at l2
    unfold muS; omega
  · exact BdN_le (BdN_got bf (by omega) q0 q5 (by omega)) (by omega)
end r55
