/-! a row keeps its order: what one QUEUE does -/
theorem rAt_ne {q k k' : Int} (h : k ≠ k') (h0 : k - k' < 8) (h1 : k' - k < 8) : rAt q k + 5 ≤ rAt q k' ∨ rAt q k' + 5 ≤ rAt q k := by unfold rAt; omega
theorem pAt_ne {q k k' : Int} (h : k ≠ k') (h0 : k - k' < 8) (h1 : k' - k < 8) : pAt q k + 5 ≤ pAt q k' ∨ pAt q k' + 5 ≤ pAt q k := by unfold pAt; omega
section r51
variable {C : CF} {ρ σ : RW} {q id st res k z : Int}
theorem rngc_same (h0 : 0 ≤ q) (h1 : q < 5) (ew : σ (89 * q) = ρ (89 * q)) (ef : σ (89 * q + 3) = ρ (89 * q + 3)) (h : ∀ k, ρ (89 * q + 3) ≤ k → k < ρ (89 * q) → σ (rAt q k) = ρ (rAt q k)) : rngc σ q z = rngc ρ q z := by
  unfold rngc
  rw [ew, ef]
  exact sm_congr _ _ (fun k h2 h3 => by rw [h k h2 (by omega)])
theorem pstc_same (h0 : 0 ≤ q) (h1 : q < 5) (ew : σ (89 * q + 5) = ρ (89 * q + 5)) (ef : σ (89 * q + 6) = ρ (89 * q + 6)) (h : ∀ k, ρ (89 * q + 6) ≤ k → k < ρ (89 * q + 5) → σ (pAt q k) = ρ (pAt q k)) : pstc σ q z = pstc ρ q z := by
  unfold pstc
  rw [ew, ef]
  exact sm_congr _ _ (fun k h2 h3 => by rw [h k h2 (by omega)])
/-- nothing POSTED is another -/
theorem postOK_same (c : postOK C ρ q) (e3 : σ (89 * q + 3) = ρ (89 * q + 3)) (e4 : σ (89 * q + 4) = ρ (89 * q + 4)) (e5 : σ (89 * q + 5) = ρ (89 * q + 5)) (e6 : σ (89 * q + 6) = ρ (89 * q + 6)) (h : ∀ j, 89 * q + 49 ≤ j → j < 89 * q + 89 → σ j = ρ j) : postOK C σ q := by
  intro k k1 k2
  rw [e6] at k1; rw [e5] at k2
  have b : 89 * q + 49 ≤ pAt q k ∧ pAt q k ≤ 89 * q + 84 := by unfold pAt; omega
  have := c k k1 k2
  rw [e3, e4, e5, h (pAt q k) (by omega) (by omega), h (pAt q k + 1) (by omega) (by omega), h (pAt q k + 2) (by omega) (by omega), h (pAt q k + 3) (by omega) (by omega), h (pAt q k + 4) (by omega) (by omega)]
  refine ⟨this.1, this.2.1, this.2.2.1, this.2.2.2.1, this.2.2.2.2.1, this.2.2.2.2.2.1, this.2.2.2.2.2.2.1, this.2.2.2.2.2.2.2.1, this.2.2.2.2.2.2.2.2.1, fun k' k3 k4 => ?_⟩
  have b' : 89 * q + 49 ≤ pAt q k' ∧ pAt q k' ≤ 89 * q + 84 := by unfold pAt; omega
  rw [h (pAt q k' + 3) (by omega) (by omega)]
  exact this.2.2.2.2.2.2.2.2.2 k' k3 k4
theorem ringOK_same (c : ringOK ρ q) (e0 : σ (89 * q) = ρ (89 * q)) (e3 : σ (89 * q + 3) = ρ (89 * q + 3)) (h : ∀ j, 89 * q + 9 ≤ j → j < 89 * q + 49 → σ j = ρ j) : ringOK σ q := by
  intro k k1 k2
  rw [e3] at k1; rw [e0] at k2
  have b : 89 * q + 9 ≤ rAt q k ∧ rAt q k ≤ 89 * q + 44 := by unfold rAt; omega
  exact cmdOK_congr (fun j j1 j2 => h j (by omega) (by omega)) (c k k1 k2)
/-- what puts lays down -/
def putR (ρ : RW) (q id op b v : Int) : RW := updR (updR (updR (updR (updR (updR ρ (rAt q (ρ (89 * q))) id) (rAt q (ρ (89 * q)) + 1) op) (rAt q (ρ (89 * q)) + 2) b) (rAt q (ρ (89 * q)) + 3) v) (rAt q (ρ (89 * q)) + 4) 0) (89 * q) (ρ (89 * q) + 1)
theorem put_W0 {op b v : Int} (h : W0 C ρ) (hn : C.1 ≤ 5) (h0 : 0 ≤ q) (h1 : q < C.1) (hr : ρ (89 * q) - ρ (89 * q + 4) < 7) (hi0 : 0 ≤ id) (hi1 : id < 16) (ho0 : 0 ≤ op) (ho1 : op ≤ 4) (hb0 : 0 ≤ b) (hb1 : b ≤ 9) (hv0 : 0 ≤ v) (hv1 : v ≤ 99) : W0 C (putR ρ q id op b v) := by
  obtain ⟨c1, c2, c3⟩ := h.1 q h0 (by omega)
  unfold cntsOK at c1
  have rb := rAt_b (q := q) (k := ρ (89 * q)) h0 (by omega)
  have oth : ∀ j, j ≠ 89 * q → (j < rAt q (ρ (89 * q)) ∨ rAt q (ρ (89 * q)) + 5 ≤ j) → putR ρ q id op b v j = ρ j := by
    intro j h2 h3; unfold putR; simp (disch := omega) only [updR_miss]
  have ew : putR ρ q id op b v (89 * q) = ρ (89 * q) + 1 := by unfold putR; exact updR_hit rfl
  refine W0_queue h h0 (by omega) (fun j h2 => oth j (by omega) (by omega)) ⟨?_, ?_, ?_⟩ (oth _ (by omega) (by omega))
  · unfold cntsOK
    rw [ew, oth _ (by omega) (by omega), oth _ (by omega) (by omega), oth _ (by omega) (by omega), oth _ (by omega) (by omega), oth _ (by omega) (by omega), oth _ (by omega) (by omega), oth _ (by omega) (by omega)]
    omega
  · intro k k1 k2
    rw [oth _ (by omega) (by omega)] at k1
    rw [ew] at k2
    by_cases hk : k = ρ (89 * q)
    · subst hk
      unfold cmdOK putR
      simp (disch := omega) only [updR_miss, updR_hit]
      exact ⟨hi0, hi1, ho0, ho1, hb0, hb1, hv0, hv1, Or.inl trivial⟩
    · have ne := rAt_ne (q := q) (k := k) (k' := ρ (89 * q)) hk (by omega) (by omega)
      have kb := rAt_b (q := q) (k := k) h0 (by omega)
      exact cmdOK_congr (fun j h2 h3 => oth j (by omega) (by omega)) (c2 k k1 (by omega))
  · exact postOK_same c3 (oth _ (by omega) (by omega)) (oth _ (by omega) (by omega)) (oth _ (by omega) (by omega)) (oth _ (by omega) (by omega)) (fun j h2 h3 => oth j (by omega) (by omega))
theorem put_cnt {op b v : Int} (h : W0 C ρ) (hn : C.1 ≤ 5) (h0 : 0 ≤ q) (h1 : q < C.1) (hr : ρ (89 * q) - ρ (89 * q + 4) < 7) : cnt (putR ρ q id op b v) z = cnt ρ z + (if 16 * q + id = z then 1 else 0) := by
  obtain ⟨c1, c2, c3⟩ := h.1 q h0 (by omega)
  unfold cntsOK at c1
  have rb := rAt_b (q := q) (k := ρ (89 * q)) h0 (by omega)
  have oth : ∀ j, j ≠ 89 * q → (j < rAt q (ρ (89 * q)) ∨ rAt q (ρ (89 * q)) + 5 ≤ j) → putR ρ q id op b v j = ρ j := by
    intro j h2 h3; unfold putR; simp (disch := omega) only [updR_miss]
  have ew : putR ρ q id op b v (89 * q) = ρ (89 * q) + 1 := by unfold putR; exact updR_hit rfl
  have ei : putR ρ q id op b v (rAt q (ρ (89 * q))) = id := by unfold putR; simp (disch := omega) only [updR_miss, updR_hit]
  rw [cnt_queue h h0 (by omega) (fun j h2 => oth j (by omega) (by omega)), pstc_same h0 (by omega) (oth _ (by omega) (by omega)) (oth _ (by omega) (by omega)) (fun k h2 h3 => by have := pAt_b (k := k) h0 (by omega : q < 5); exact oth _ (by omega) (by omega))]
  have e : rngc (putR ρ q id op b v) q z = rngc ρ q z + (if 16 * q + id = z then 1 else 0) := by
    unfold rngc
    rw [ew, oth _ (by omega) (by omega)]
    have e1 : (ρ (89 * q) + 1 - ρ (89 * q + 3)).toNat = (ρ (89 * q) - ρ (89 * q + 3)).toNat + 1 := by omega
    rw [e1, sm_last, sm_congr (g := fun k => if 16 * q + ρ (rAt q k) = z then 1 else 0) _ _ (fun j h2 h3 => ?_)]
    · have e2 : ρ (89 * q + 3) + ((ρ (89 * q) - ρ (89 * q + 3)).toNat : Int) = ρ (89 * q) := by omega
      rw [e2, ei]
    · have ne := rAt_ne (q := q) (k := j) (k' := ρ (89 * q)) (by omega) (by omega) (by omega)
      have kb := rAt_b (q := q) (k := j) h0 (by omega)
      rw [oth (rAt q j) (by omega) (by omega)]
  rw [e]; omega
theorem BdN_put {N op b v : Int} (h : BdN N ρ) (hN : 100 ≤ N) (hi0 : 0 ≤ id) (hi1 : id < 16) (ho0 : 0 ≤ op) (ho1 : op ≤ 4) (hb0 : 0 ≤ b) (hb1 : b ≤ 9) (hv0 : 0 ≤ v) (hv1 : v ≤ 99) : BdN (N + 1) (putR ρ q id op b v) := by
  have b0 := h (89 * q)
  exact BdN_upd (BdN_upd (BdN_upd (BdN_upd (BdN_upd (BdN_upd (BdN_le h (by omega)) (by omega) (by omega)) (by omega) (by omega)) (by omega) (by omega)) (by omega) (by omega)) (by omega) (by omega)) (by omega) (by omega)
/-- the bell is told: to be seen or not -/
def rngR (ρ : RW) (q : Int) : RW := updR ρ (89 * q + 1) (ρ (89 * q))
def seeR (ρ : RW) (q a : Int) : RW := updR (updR (rngR ρ q) (89 * q + 2) (ρ (89 * q))) (89 * q + 8) a
theorem rng_W0 (h : W0 C ρ) (h0 : 0 ≤ q) (h1 : q < 5) : W0 C (rngR ρ q) := by
  obtain ⟨c1, c2, c3⟩ := h.1 q h0 h1
  unfold cntsOK at c1
  have oth : ∀ j, j ≠ 89 * q + 1 → rngR ρ q j = ρ j := fun j h2 => updR_miss h2
  have ew : rngR ρ q (89 * q + 1) = ρ (89 * q) := updR_hit rfl
  refine W0_queue h h0 h1 (fun j h2 => oth j (by omega)) ⟨?_, ringOK_same c2 (oth _ (by omega)) (oth _ (by omega)) (fun j h2 h3 => oth j (by omega)), postOK_same c3 (oth _ (by omega)) (oth _ (by omega)) (oth _ (by omega)) (oth _ (by omega)) (fun j h2 h3 => oth j (by omega))⟩ (oth _ (by omega))
  unfold cntsOK
  rw [ew, oth _ (by omega), oth _ (by omega), oth _ (by omega), oth _ (by omega), oth _ (by omega), oth _ (by omega), oth _ (by omega), oth (89 * q + 7) (by omega)]
  omega
theorem see_W0 {a : Int} (h : W0 C ρ) (h0 : 0 ≤ q) (h1 : q < 5) (hq : q < C.1) (ha : a = 0 ∨ a = 1) : W0 C (seeR ρ q a) := by
  obtain ⟨c1, c2, c3⟩ := h.1 q h0 h1
  unfold cntsOK at c1
  have oth : ∀ j, j ≠ 89 * q + 1 → j ≠ 89 * q + 2 → j ≠ 89 * q + 8 → seeR ρ q a j = ρ j := fun j h2 h3 h4 => by unfold seeR rngR; rw [updR_miss h4, updR_miss h3, updR_miss h2]
  have e1 : seeR ρ q a (89 * q + 1) = ρ (89 * q) := by unfold seeR rngR; simp (disch := omega) only [updR_miss, updR_hit]
  have e2 : seeR ρ q a (89 * q + 2) = ρ (89 * q) := by unfold seeR rngR; simp (disch := omega) only [updR_miss, updR_hit]
  have e8 : seeR ρ q a (89 * q + 8) = a := by unfold seeR rngR; simp (disch := omega) only [updR_miss, updR_hit]
  refine W0_queue h h0 h1 (fun j h2 => oth j (by omega) (by omega) (by omega)) ⟨?_, ringOK_same c2 (oth _ (by omega) (by omega) (by omega)) (oth _ (by omega) (by omega) (by omega)) (fun j h2 h3 => oth j (by omega) (by omega) (by omega)), postOK_same c3 (oth _ (by omega) (by omega) (by omega)) (oth _ (by omega) (by omega) (by omega)) (oth _ (by omega) (by omega) (by omega)) (oth _ (by omega) (by omega) (by omega)) (fun j h2 h3 => oth j (by omega) (by omega) (by omega))⟩ (oth _ (by omega) (by omega) (by omega))
  unfold cntsOK
  rw [e1, e2, e8, oth (89 * q + 7) (by omega) (by omega) (by omega), oth _ (by omega) (by omega) (by omega), oth _ (by omega) (by omega) (by omega), oth _ (by omega) (by omega) (by omega), oth _ (by omega) (by omega) (by omega), oth _ (by omega) (by omega) (by omega)]
  omega
/-- numbers that no COMMAND's being there reads -/
theorem cnt_low (h : W0 C ρ) (he : ∀ j, 0 ≤ j → j < 844 → (∀ q, 0 ≤ q → q < 5 → j ≠ 89 * q + 1 ∧ j ≠ 89 * q + 2 ∧ j ≠ 89 * q + 4 ∧ j ≠ 89 * q + 7 ∧ j ≠ 89 * q + 8) → j < 815 → σ j = ρ j) : cnt σ z = cnt ρ z := by
  unfold cnt
  rw [runc_congr z (fun j h2 h3 => he j (by omega) (by omega) (fun q h4 h5 => by omega) (by omega)) h.2.1.2.1, outc_congr z (fun j h2 h3 => he j (by omega) (by omega) (fun q h4 h5 => by omega) (by omega)) h.2.2.1.2.1]
  have e : quec σ z = quec ρ z := by
    unfold quec
    refine sm_congr _ _ (fun q h2 h3 => ?_)
    have hq : q < 5 := by omega
    rw [rngc_same h2 hq (he _ (by omega) (by omega) (fun q' h4 h5 => by omega) (by omega)) (he _ (by omega) (by omega) (fun q' h4 h5 => by omega) (by omega)) (fun k _ _ => by have b := rAt_b (k := k) h2 hq; exact he _ (by omega) (by omega) (fun q' h4 h5 => by omega) (by omega))]
    rw [pstc_same h2 hq (he _ (by omega) (by omega) (fun q' h4 h5 => by omega) (by omega)) (he _ (by omega) (by omega) (fun q' h4 h5 => by omega) (by omega)) (fun k _ _ => by have b := pAt_b (k := k) h2 hq; exact he _ (by omega) (by omega) (fun q' h4 h5 => by omega) (by omega))]
  rw [e]
/-- a completion is TAKEN -/
def takR (ρ : RW) (q : Int) : RW := updR (updR ρ (89 * q + 6) (ρ (89 * q + 6) + 1)) (89 * q + 4) (ρ (pAt q (ρ (89 * q + 6)) + 3))
theorem tak_W0 (h : W0 C ρ) (h0 : 0 ≤ q) (h1 : q < 5) (ht : ρ (89 * q + 6) ≠ ρ (89 * q + 5)) : W0 C (takR ρ q) := by
  obtain ⟨c1, c2, c3⟩ := h.1 q h0 h1
  unfold cntsOK at c1
  have oth : ∀ j, j ≠ 89 * q + 4 → j ≠ 89 * q + 6 → takR ρ q j = ρ j := fun j h2 h3 => by unfold takR; rw [updR_miss h2, updR_miss h3]
  have e4 : takR ρ q (89 * q + 4) = ρ (pAt q (ρ (89 * q + 6)) + 3) := by unfold takR; exact updR_hit rfl
  have e6 : takR ρ q (89 * q + 6) = ρ (89 * q + 6) + 1 := by unfold takR; simp (disch := omega) only [updR_miss, updR_hit]
  have p0 := c3 (ρ (89 * q + 6)) (Int.le_refl _) (by omega)
  refine W0_queue h h0 h1 (fun j h2 => oth j (by omega) (by omega)) ⟨?_, ringOK_same c2 (oth _ (by omega) (by omega)) (oth _ (by omega) (by omega)) (fun j h2 h3 => oth j (by omega) (by omega)), ?_⟩ (oth _ (by omega) (by omega))
  · unfold cntsOK
    rw [e4, e6, oth _ (by omega) (by omega), oth _ (by omega) (by omega), oth _ (by omega) (by omega), oth _ (by omega) (by omega), oth _ (by omega) (by omega), oth _ (by omega) (by omega)]
    omega
  · intro k k1 k2
    rw [e6] at k1; rw [oth _ (by omega) (by omega)] at k2
    have b := pAt_b (k := k) h0 h1
    have := c3 k (by omega) k2
    have m := p0.2.2.2.2.2.2.2.2.2 k (by omega) k2
    rw [e4, oth _ (by omega) (by omega), oth _ (by omega) (by omega), oth _ (by omega) (by omega), oth _ (by omega) (by omega), oth _ (by omega) (by omega), oth _ (by omega) (by omega), oth _ (by omega) (by omega)]
    refine ⟨this.1, this.2.1, this.2.2.1, this.2.2.2.1, this.2.2.2.2.1, this.2.2.2.2.2.1, m, this.2.2.2.2.2.2.2.1, this.2.2.2.2.2.2.2.2.1, fun k' k3 k4 => ?_⟩
    have b' := pAt_b (k := k') h0 h1
    rw [oth _ (by omega) (by omega)]
    exact this.2.2.2.2.2.2.2.2.2 k' k3 k4
theorem tak_cnt (h : W0 C ρ) (h0 : 0 ≤ q) (h1 : q < 5) (ht : ρ (89 * q + 6) ≠ ρ (89 * q + 5)) : cnt (takR ρ q) z = cnt ρ z - (if 16 * q + ρ (pAt q (ρ (89 * q + 6))) = z then 1 else 0) := by
  obtain ⟨c1, c2, c3⟩ := h.1 q h0 h1
  unfold cntsOK at c1
  have oth : ∀ j, j ≠ 89 * q + 4 → j ≠ 89 * q + 6 → takR ρ q j = ρ j := fun j h2 h3 => by unfold takR; rw [updR_miss h2, updR_miss h3]
  have e6 : takR ρ q (89 * q + 6) = ρ (89 * q + 6) + 1 := by unfold takR; simp (disch := omega) only [updR_miss, updR_hit]
  rw [cnt_queue h h0 h1 (fun j h2 => oth j (by omega) (by omega)), rngc_same h0 h1 (oth _ (by omega) (by omega)) (oth _ (by omega) (by omega)) (fun k _ _ => by have b := rAt_b (k := k) h0 h1; exact oth _ (by omega) (by omega))]
  have e : pstc ρ q z = (if 16 * q + ρ (pAt q (ρ (89 * q + 6))) = z then 1 else 0) + pstc (takR ρ q) q z := by
    unfold pstc
    rw [e6, oth (89 * q + 5) (by omega) (by omega)]
    have e1 : (ρ (89 * q + 5) - ρ (89 * q + 6)).toNat = (ρ (89 * q + 5) - (ρ (89 * q + 6) + 1)).toNat + 1 := by omega
    rw [e1, sm_succ, sm_congr (f := fun k => if 16 * q + takR ρ q (pAt q k) = z then (1 : Int) else 0) (g := fun k => if 16 * q + ρ (pAt q k) = z then 1 else 0) _ _ (fun k _ _ => by have b := pAt_b (k := k) h0 h1; rw [oth (pAt q k) (by omega) (by omega)])]
  omega
end r51
