/-! a Drive is copied; rows that are read within their bounds */ -/
section r70
variable {d : Nat} {S : SS} {I J : II} {C : CF} {ρ σ τ : RW} {b a q k : Int}
/-- a Drive as it is, at its place, against a row */ -/
def GD (C : CF) (I : II) (b : Int) (ρ : RW) : Prop := RelD C I b ρ ∧ WF C ρ ∧ lftOK 1 ρ
theorem W0_row (h : W0 C ρ) (he : ∀ j, 0 ≤ j → j < 844 → σ j = ρ j) : W0 C σ :=
  ⟨fun q g0 g1 => qOK_congr g0 g1 (fun j g2 g3 => he j (by omega) (by omega)) (h.1 q g0 g1), runsOK_congr (fun j g0 g1 => he j (by omega) (by omega)) h.2.1, outsOK_congr (fun j g0 g1 => he j (by omega) (by omega)) h.2.2.1, miscOK_congr (fun j g0 g1 => he j (by omega) (by omega)) h.2.2.2.1, srvOK_congr (fun j g0 g1 => he j (by omega) (by omega)) (fun q g0 g1 => he _ (by omega) (by omega)) h.2.2.2.2⟩
theorem cnt_row (h : W0 C ρ) (he : ∀ j, 0 ≤ j → j < 844 → σ j = ρ j) (z : Int) : cnt σ z = cnt ρ z := cnt_low h (fun j g0 g1 _ _ => he j g0 g1)
theorem RelD_row (h : RelD C I b ρ) (hW : W0 C ρ) (he : ∀ j, 0 ≤ j → j < 844 → σ j = ρ j) : RelD C I b σ := by
  obtain ⟨h1, h2, h3, h4, h5, h6⟩ := h
  exact ⟨hdR_congr (fun _ _ => rfl) (fun j hj => he j (by omega) (by omega)) h1, arR_congr (fun _ _ _ => rfl) (fun j g0 g1 => he j (by omega) (by omega)) h2, runsR_congr hW.2.1.2.1 (fun _ _ _ => rfl) (fun j g0 g1 => he j (by omega) (by omega)) h3, boxR_congr hW.2.2.1.2.1 rfl (fun j g0 g1 => he j (by omega) (by omega)) h4, fun q g0 g1 => laneR_congr g0 g1 (fun _ _ _ => rfl) (fun j g2 g3 => he j (by omega) (by omega)) (h5 q g0 g1), bitsR_congr (fun _ _ _ => rfl) (cnt_row hW he) h6⟩
theorem GD_row (h : GD C I b ρ) (he : ∀ j, 0 ≤ j → j < 844 → σ j = ρ j) : GD C I b σ :=
  ⟨RelD_row h.1 h.2.1.1 he, ⟨W0_row h.2.1.1 he, fun z => by rw [cnt_row h.2.1.1 he]; exact h.2.1.2 z⟩, lftOK_congr (fun j g0 g1 => he j (by omega) (by omega)) h.2.1.1.2.1.2.1 h.2.2⟩
theorem GD_mem (h : GD C I b ρ) (hI : ∀ a, b ≤ a → a < b + 31 → J a = I a) : GD C J b ρ := ⟨RelD_mem h.1 h.2.1.1 hI, h.2⟩
/-- the same cells, at another place */ -/
def COPD (I : II) (a : Int) (J : II) (b : Int) : Prop := (∀ k, (k = 0 ∨ 6 ≤ k ∧ k ≤ 10 ∨ k = 15) → J b k = I a k) ∧ (∀ j, 0 ≤ j → j < 10 → J (b + 2) j = I (a + 2) j) ∧ (∀ i j, 3 ≤ i → i ≤ 9 → 0 ≤ j → j < 4 → J (b + i) j = I (a + i) j) ∧ (∀ j, 0 ≤ j → j < 80 → J (b + 10) j = I (a + 10) j) ∧ (∀ q k, 0 ≤ q → q < 5 → 0 ≤ k → k < 14 → J (b + 11 + 4 * q) k = I (a + 11 + 4 * q) k) ∧ (∀ q i j, 0 ≤ q → q < 5 → 1 ≤ i → i ≤ 3 → 0 ≤ j → j < 8 → J (b + 11 + 4 * q + i) j = I (a + 11 + 4 * q + i) j)
theorem RelD_cop (h : RelD C I a ρ) (hW : W0 C ρ) (hc : COPD I a J b) : RelD C J b ρ := by
  obtain ⟨c1, c2, c3, c4, c5, c6⟩ := hc
  obtain ⟨h1, h2, h3, h4, h5, h6⟩ := h
  have r4 := hW.2.1.2.1
  have o8 := hW.2.2.1.2.1
  refine ⟨?_, ⟨fun j j0 j1 => ?_, fun c g0 g1 => ?_, fun c g0 g1 => ?_⟩, fun k k0 k1 => ?_, fun k k0 k1 => ?_, fun q q0 q1 => ?_, fun q id q0 q1 i0 i1 => ?_⟩
  · unfold hdR at *
    rw [c1 0 (by omega), c1 6 (by omega), c1 7 (by omega), c1 8 (by omega), c1 9 (by omega), c1 10 (by omega), c1 15 (by omega)]; exact h1
  · rw [c2 j j0 j1]; exact h2.1 j j0 j1
  · rw [c3 3 c (by decide) (by decide) (by omega) g1, c3 4 c (by decide) (by decide) (by omega) g1]; exact h2.2.1 c g0 g1
  · rw [c3 5 c (by decide) (by decide) g0 g1]; exact h2.2.2 c g0 g1
  · have := h3 k k0 k1
    unfold run1R at *
    rw [c3 6 k (by decide) (by decide) k0 (by omega), c3 7 k (by decide) (by decide) k0 (by omega), c3 8 k (by decide) (by decide) k0 (by omega), c3 9 k (by decide) (by decide) k0 (by omega)]; exact this
  · rw [c4 k k0 (by omega)]; exact h4 k k0 k1
  · obtain ⟨l1, l2, l3, l4⟩ := h5 q q0 q1
    refine ⟨?_, ⟨fun k k0 k1 => ?_, fun j j0 j1 => ?_⟩, fun k k0 k1 => ?_, ?_⟩
    · unfold lanfR at *
      rw [c5 q 0 q0 q1 (by decide) (by decide), c5 q 1 q0 q1 (by decide) (by decide), c5 q 2 q0 q1 (by decide) (by decide), c5 q 3 q0 q1 (by decide) (by decide), c5 q 4 q0 q1 (by decide) (by decide), c5 q 5 q0 q1 (by decide) (by decide), c5 q 6 q0 q1 (by decide) (by decide), c5 q 7 q0 q1 (by decide) (by decide), c5 q 8 q0 q1 (by decide) (by decide), c5 q 9 q0 q1 (by decide) (by decide), c5 q 10 q0 q1 (by decide) (by decide), c5 q 11 q0 q1 (by decide) (by decide), c5 q 12 q0 q1 (by decide) (by decide)]; exact l1
    · rw [c6 q 1 _ q0 q1 (by decide) (by decide) (by omega) (by omega)]; exact l2.1 k k0 k1
    · rw [c6 q 1 _ q0 q1 (by decide) (by decide) j0 j1]; exact l2.2 j j0 j1
    · rw [c6 q 2 _ q0 q1 (by decide) (by decide) (by omega) (by omega), c6 q 3 _ q0 q1 (by decide) (by decide) (by omega) (by omega)]; exact l3 k k0 k1
    · rw [c5 q 13 q0 q1 (by decide) (by decide)]; exact l4
  · rw [c5 q 13 q0 q1 (by decide) (by decide)]; exact h6 q id q0 q1 i0 i1
theorem cpy_in {sp dp n x b' k' : Int} (h : b' = x ∧ dp ≤ k' ∧ k' < dp + n) : cpy I a sp x dp n b' k' = I a (sp + (k' - dp)) := by unfold cpy; rw [if_pos h]
/-- a lane is copied */ -/
theorem c_lcopy {a0 a1 : Int} (hL1 : LA S a1) (hL0 : LA S a0) (hne : a0 + 4 ≤ a1 ∨ a1 + 4 ≤ a0) (h3 : I a1 3 = 0 ∨ I a1 3 = 1) (h12 : I a1 12 = 0 ∨ I a1 12 = 1) :
    ∃ J, ev d 75 0 [(2, a0), (2, a1)] [] S I = some (uU, S, J) ∧ (∀ k, 0 ≤ k → k < 14 → J a0 k = I a1 k) ∧ (∀ i j, 1 ≤ i → i ≤ 3 → 0 ≤ j → j < 8 → J (a0 + i) j = I (a1 + i) j) ∧ ∀ x, (x < a0 ∨ a0 + 4 ≤ x) → J x = I x := by
  rw [E75_0 hL1 hL0 hne, gdR_pos h3, gdR_pos h12]
  generalize hG : up2 (up2 (up2 (up2 (up2 (up2 (up2 (up2 (up2 (up2 (up2 (up2 (up2 (up2 I a0 0 (I a1 0)) a0 1 (I a1 1)) a0 2 (I a1 2)) a0 3 (I a1 3)) a0 4 (I a1 4)) a0 5 (I a1 5)) a0 6 (I a1 6)) a0 7 (I a1 7)) a0 8 (I a1 8)) a0 9 (I a1 9)) a0 10 (I a1 10)) a0 11 (I a1 11)) a0 12 (I a1 12)) a0 13 (I a1 13) = G
  have gx : ∀ x, x ≠ a0 → G x = I x := fun x hx => by rw [← hG]; simp only [up2_oth hx]
  have gk : ∀ k, 0 ≤ k → k < 14 → G a0 k = I a1 k := fun k k0 k1 => by
    rw [← hG]
    rcases (by omega : k = 0 ∨ k = 1 ∨ k = 2 ∨ k = 3 ∨ k = 4 ∨ k = 5 ∨ k = 6 ∨ k = 7 ∨ k = 8 ∨ k = 9 ∨ k = 10 ∨ k = 11 ∨ k = 12 ∨ k = 13) with rfl | rfl | rfl | rfl | rfl | rfl | rfl | rfl | rfl | rfl | rfl | rfl | rfl | rfl <;> simp (disch := omega) only [up2_hit, up2_miss]
  refine ⟨_, rfl, fun k k0 k1 => ?_, fun i j i0 i1 j0 j1 => ?_, fun x hx => ?_⟩
  · rw [cpy_cell (by omega), cpy_cell (by omega), cpy_cell (by omega)]; exact gk k k0 k1
  · rcases (by omega : i = 1 ∨ i = 2 ∨ i = 3) with rfl | rfl | rfl
    · rw [cpy_cell (by omega), cpy_cell (by omega), cpy_in ⟨rfl, by omega, by omega⟩, gx _ (by omega)]
      congr 1; omega
    · rw [cpy_cell (by omega), cpy_in ⟨rfl, by omega, by omega⟩, cpy_cell (by omega), gx _ (by omega)]
      congr 1; omega
    · rw [cpy_in ⟨rfl, by omega, by omega⟩, cpy_cell (by omega), cpy_cell (by omega), gx _ (by omega)]
      congr 1; omega
  · funext k; rw [cpy_cell (by omega), cpy_cell (by omega), cpy_cell (by omega), gx _ (by omega)]
theorem c_copyl {a0 a1 : Int} (hD1 : DA S a1) (hD0 : DA S a0) (hne : a0 + 31 ≤ a1 ∨ a1 + 31 ≤ a0) : ∀ (n : Nat) (q : Int) (I : II), 0 ≤ q → q ≤ 5 → n = (5 - q).toNat → (∀ q', 0 ≤ q' → q' < 5 → (I (a1 + 11 + 4 * q') 3 = 0 ∨ I (a1 + 11 + 4 * q') 3 = 1) ∧ (I (a1 + 11 + 4 * q') 12 = 0 ∨ I (a1 + 11 + 4 * q') 12 = 1)) →
    ∃ J, ev (d + 1) 19 10 [(2, a0), (2, a1), (0, q)] [] S I = ev (d + 1) 19 10 [(2, a0), (2, a1), (0, 5)] [] S J ∧ (∀ q' k, q ≤ q' → q' < 5 → 0 ≤ k → k < 14 → J (a0 + 11 + 4 * q') k = I (a1 + 11 + 4 * q') k) ∧ (∀ q' i j, q ≤ q' → q' < 5 → 1 ≤ i → i ≤ 3 → 0 ≤ j → j < 8 → J (a0 + 11 + 4 * q' + i) j = I (a1 + 11 + 4 * q' + i) j) ∧ ∀ x, (x < a0 + 11 + 4 * q ∨ a0 + 31 ≤ x) → J x = I x := by
  intro n
  induction n with
  | zero =>
    intro q I q0 q1 hn _
    have : q = 5 := by omega
    subst this
    exact ⟨I, rfl, fun q' k g0 g1 => by omega, fun q' i j g0 g1 => by omega, fun _ _ => rfl⟩
  | succ n ih =>
    intro q I q0 q1 hn hb
    have h := hb q q0 (by omega)
    obtain ⟨G, g1, g2, g3, g4⟩ := c_lcopy (d := d) (S := S) (I := I) (DA_lane hD1 q0 (show q < 5 by omega)) (DA_lane hD0 q0 (by omega)) (by omega) h.1 h.2
    obtain ⟨J, j1, j2, j3, j4⟩ := ih (q + 1) G (by omega) (by omega) (by omega) (fun q' x0 x1 => by rw [g4 _ (by omega)]; exact hb q' x0 x1)
    refine ⟨J, ?_, fun q' k x0 x1 k0 k1 => ?_, fun q' i j x0 x1 i0 i1 j0 j1' => ?_, fun x hx => by rw [j4 x (by omega), g4 x (by omega)]⟩
    · rw [E19_10 hD0 hD1 hne, w_small (z := q) (by omega) (by omega), if_pos (by omega), gdR_pos (by omega), gdR_pos (by omega), g1]
      simp only [Option.bind_some, psh_u]
      rw [E19_30, j1]
    · by_cases e : q' = q
      · subst e; rw [j4 _ (by omega), g2 k k0 k1]
      · rw [j2 q' k (by omega) x1 k0 k1, g4 _ (by omega)]
    · by_cases e : q' = q
      · subst e; rw [j4 _ (by omega), g3 i j i0 i1 j0 j1']
      · rw [j3 q' i j (by omega) x1 i0 i1 j0 j1', g4 _ (by omega)]
/-- a Drive is copied */ -/
theorem c_copy {a0 a1 : Int} (hD1 : DA S a1) (hD0 : DA S a0) (hne : a0 + 31 ≤ a1 ∨ a1 + 31 ≤ a0) (h : GD C I a1 ρ) : ∃ J, ev (d + 1) 19 0 [(2, a0), (2, a1), uU] [] S I = some (uU, S, J) ∧ GD C J a0 ρ ∧ OUTB a0 I J := by
  have hbo : ∀ q', 0 ≤ q' → q' < 5 → (I (a1 + 11 + 4 * q') 3 = 0 ∨ I (a1 + 11 + 4 * q') 3 = 1) ∧ (I (a1 + 11 + 4 * q') 12 = 0 ∨ I (a1 + 11 + 4 * q') 12 = 1) := by
    intro q' x0 x1
    have l := (h.1.2.2.2.2.1 q' x0 x1).1
    have c := (h.2.1.1.1 q' x0 x1).1
    unfold cntsOK at c
    refine ⟨l.2.1, ?_⟩
    rw [l.2.2.2.2.2.2.2.2.2.2]; omega
  have m0 : ∀ x, x ≠ a0 → up2 I a0 0 (I a1 0) x = I x := fun x hx => up2_oth hx
  obtain ⟨G, g1, g2, g3, g4⟩ := c_copyl (d := d) (S := S) hD1 hD0 hne 5 0 (up2 I a0 0 (I a1 0)) (by decide) (by decide) (by decide) (fun q' x0 x1 => by rw [m0 _ (by omega)]; exact hbo q' x0 x1)
  have g4' : ∀ x, (x < a0 + 11 ∨ a0 + 31 ≤ x) → G x = up2 I a0 0 (I a1 0) x := fun x hx => g4 x (by omega)
  have ga1 : ∀ x, a1 ≤ x → x < a1 + 31 → G x = I x := fun x x0 x1 => by rw [g4' x (by omega), m0 x (by omega)]
  rw [E19_0 hD1 hD0, g1, E19_10 hD0 hD1 hne, w_small (z := 5) (by decide) (by decide), if_neg (by decide)]
  refine ⟨_, rfl, ?_, fun x hx => ?_⟩
  · refine ⟨RelD_cop h.1 h.2.1.1 ⟨fun k hk => ?_, fun j j0 j1 => ?_, fun i j i0 i1 j0 j1 => ?_, fun j j0 j1 => ?_, fun q k q0 q1 k0 k1 => ?_, fun q i j q0 q1 i0 i1 j0 j1 => ?_⟩, h.2⟩
    · rw [cpy_cell (by omega)]
      rcases (by omega : k = 0 ∨ k = 6 ∨ k = 7 ∨ k = 8 ∨ k = 9 ∨ k = 10 ∨ k = 15) with rfl | rfl | rfl | rfl | rfl | rfl | rfl
      · rw [up2_miss (by omega), cpy_cell (by omega), cpy_cell (by omega), cpy_cell (by omega), cpy_cell (by omega), up2_miss (by omega), up2_miss (by omega), up2_miss (by omega), up2_miss (by omega), up2_miss (by omega), cpy_cell (by omega), cpy_cell (by omega), cpy_cell (by omega), cpy_cell (by omega), g4' a0 (by omega), up2_hit rfl rfl]
      all_goals
        simp (disch := omega) only [up2_hit, up2_miss, cpy_cell]
        rw [ga1 a1 (by omega) (by omega)]
    · rw [cpy_cell (by omega), up2_oth (by omega), cpy_cell (by omega), cpy_cell (by omega), cpy_cell (by omega), cpy_cell (by omega), up2_oth (by omega), up2_oth (by omega), up2_oth (by omega), up2_oth (by omega), up2_oth (by omega), cpy_cell (by omega), cpy_cell (by omega), cpy_cell (by omega), cpy_in ⟨rfl, by omega, by omega⟩, ga1 _ (by omega) (by omega)]
      congr 1; omega
    · rcases (by omega : i = 3 ∨ i = 4 ∨ i = 5 ∨ i = 6 ∨ i = 7 ∨ i = 8 ∨ i = 9) with rfl | rfl | rfl | rfl | rfl | rfl | rfl
      all_goals
        simp (disch := omega) only [up2_oth, cpy_cell, cpy_in]
        rw [ga1 _ (by omega) (by omega)]
        congr 1; omega
    · rw [cpy_in ⟨rfl, by omega, by omega⟩]
      simp (disch := omega) only [up2_oth, cpy_cell]
      rw [ga1 _ (by omega) (by omega)]
      congr 1; omega
    · simp (disch := omega) only [up2_oth, cpy_cell]
      rw [g2 q k q0 q1 k0 k1, m0 _ (by omega)]
    · simp (disch := omega) only [up2_oth, cpy_cell]
      rw [g3 q i j q0 q1 i0 i1 j0 j1, m0 _ (by omega)]
  · funext k
    simp (disch := omega) only [up2_oth, cpy_cell]
    rw [g4' x (by omega), m0 x (by omega)]
end r70
