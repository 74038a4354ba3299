/-! the reference's row: TO FETCH -/
def pairS (ρ : RW) (q : Int) : Bool := workS ρ q && decide (ρ (rAt q (ρ (89 * q + 3)) + 1) = 3) && decide (ρ (rAt q (ρ (89 * q + 3)) + 4) = 0)
def runS (K : KF) (C : CF) (ρ : RW) (q a : Int) (pair : Bool) : RW :=
  let u := 445 + 12 * ρ 493
  let ρ3 := updR (layS (u + 1) a (updR ρ u q)) (u + 7) (-1)
  let ρ4 := if pair = true then layS (u + 6) (rAt q (ρ3 (89 * q + 3))) (fetS C ρ3 q) else ρ3
  updR (updR ρ4 (u + 11) (timeR K C ρ q a)) 493 (ρ4 493 + 1)
/-- a COMMAND of q that lay at a has been fetched -/
def gotS (K : KF) (C : CF) (ρ : RW) (q a : Int) : RW :=
  if ρ (a + 4) = 1 then outS ρ q (ρ a) 1 0
  else if ρ (a + 1) = 2 ∧ pairS ρ q = false ∨ ρ (a + 1) = 3 then outS ρ q (ρ a) 4 0
  else runS K C ρ q a (decide (ρ (a + 1) = 2))
def fetchesS (K : KF) (C : CF) (ρ : RW) : RW :=
  gotS K C (fetS C (chosenS C ρ).2 (chosenS C ρ).1) (chosenS C ρ).1 (rAt (chosenS C ρ).1 ((chosenS C ρ).2 (89 * (chosenS C ρ).1 + 3)))
def BdN (N : Int) (ρ : RW) : Prop := ∀ k, -1 ≤ ρ k ∧ ρ k ≤ N
theorem BdN_Bd {N : Int} {ρ : RW} (h : BdN N ρ) (hN : N < 1073741824) : Bd ρ := fun k => ⟨(h k).1, by have := (h k).2; omega⟩
theorem BdN_upd {N : Int} {ρ : RW} {k v : Int} (h : BdN N ρ) (h0 : -1 ≤ v) (h1 : v ≤ N) : BdN N (updR ρ k v) := by
  intro j; unfold updR; split
  · exact ⟨h0, h1⟩
  · exact h j
theorem BdN_le {N M : Int} {ρ : RW} (h : BdN N ρ) (hM : N ≤ M) : BdN M ρ := fun k => ⟨(h k).1, by have := (h k).2; omega⟩
theorem BdN_lay {N : Int} {ρ : RW} {t f : Int} (h : BdN N ρ) : BdN N (layS t f ρ) := by
  intro j; unfold layS; split
  · exact h _
  · exact h j
theorem BdN_fet {N : Int} {C : CF} {ρ : RW} {q : Int} (h : BdN N ρ) : BdN (N + 1) (fetS C ρ q) :=
  BdN_upd (BdN_upd (BdN_le h (by omega)) (by have := h (89 * q + 3); omega) (by have := h (89 * q + 3); omega)) (by have := h (840 + C.2.2.2.1 q); omega) (by have := h (840 + C.2.2.2.1 q); omega)
section r37
variable {d : Nat} {S : SS} {I : II} {r q a k : Int}
theorem m_run {N : Int} (hM : MA S 427) (hr : isRw r) (hk : okC (cfM I)) (hK : okK (kfM I)) (hB : BdN N (I r)) (hN0 : 100 ≤ N) (hN : N < 1073741820) (hC : Cn (I r)) (ht : 0 ≤ I r 827) (hq0 : 0 ≤ q) (hqn : q < I 427 14) (ha : ∃ k, a = rAt q k) (h4 : I r 493 < 4) (pair : Bool) (op id n7 : Int) (hop : pair = true ↔ op = 2) (hop3 : op ≠ 3) (hi : isI op) (x9 : Int) (p : Int) (hp : p = if pair = true then 1 else 0) :
    ∃ J, ev (d + 4) 246 109 [(2, 427), (2, r), (0, q), (0, a), (0, id), (0, op), (0, n7), (0, p), uU, uU] [] S I = some (uU, S, J) ∧ J r = runS (kfM I) (cfM I) (I r) q a pair ∧ ∀ x, x ≠ r → x ≠ 432 → x ≠ 433 → J x = I x := by
  have hKA := isRw_K hM hr
  have hn1 : I 427 14 ≤ 5 := hk.2.1
  obtain ⟨k0, rfl⟩ := ha
  have ab := rAt_b (q := q) (k := k0) hq0 (by omega)
  obtain ⟨J, hJ, hF⟩ := m_time (d := d) (S := S) (I := I) (a := rAt q k0) hM hr hk hK (BdN_Bd hB (by omega)) ht hq0 hqn (by omega) (by omega)
  have er : J r = I r := hF r (by rcases hr with rfl | rfl <;> decide) (by rcases hr with rfl | rfl <;> decide)
  have b9 := hB 493
  have c9 := hC.2.2.2.2.1
  have tb := clampS_b
  rw [E246_109 hM, w_small hi.1 hi.2, if_neg hop3, hJ]
  simp only [Option.bind_some, psh_i]
  rw [E246_132 hKA, w_small (z := 493) (by decide) (by decide), gdR_pos (by decide), E224_0, er]
  simp only [Option.bind_some, psh_i]
  rw [E246_142 hKA, Int.add_zero, w_small (z := 445 + 12 * I r 493) (by omega) (by omega), gdR_pos (by omega), m_lays hKA (by omega) (by omega) (by omega) (by omega) (by omega)]
  simp only [Option.bind_some, psh_u]
  have e7 : 445 + 12 * I r 493 + 6 + 1 = 445 + 12 * I r 493 + 7 := by omega
  rw [E246_160 hKA hM, e7, w_small (z := 445 + 12 * I r 493 + 7) (by omega) (by omega), gdR_pos (by omega)]
  simp only [up2_set, setR_set, setR_same, er]
  -- the end, from place 190 on
  have fin1 : ∀ G : II, (∀ x, x ≠ r → x ≠ 432 → x ≠ 433 → G x = I x) → ∃ J', ev (d + 4) 246 190 [(2, 427), (2, r), (0, q), (0, rAt q k0), (0, id), (0, op), (0, n7), (0, p), (0, timeR (kfM I) (cfM I) (I r) q (rAt q k0)), (0, 445 + 12 * I r 493)] [] S G = some (uU, S, J') ∧ J' r = updR (updR (G r) (445 + 12 * I r 493 + 11) (timeR (kfM I) (cfM I) (I r) q (rAt q k0))) 493 (G r 493 + 1) ∧ ∀ x, x ≠ r → x ≠ 432 → x ≠ 433 → J' x = I x := by
    intro G hG
    rw [E246_190 hKA, w_small (z := 445 + 12 * I r 493 + 11) (by omega) (by omega), w_small (z := 493) (by decide) (by decide), gdR_pos (by omega), gdR_pos (by decide), gdR_pos (by decide)]
    refine ⟨_, rfl, ?_, fun x h1 h2 h3 => ?_⟩
    · simp (disch := omega) only [up2_set, setR_set, setR_same, updR_miss]
    · rw [up2_oth h1, up2_oth h1]; exact hG x h1 h2 h3
  rw [w_small (z := p) (by subst hp; split <;> decide) (by subst hp; split <;> decide)]
  by_cases hpp : pair = true
  · rw [if_pos hpp] at hp
    subst hp
    rw [if_neg (by decide)]
    generalize hG0 : setR J r (updR (layS (445 + 12 * I r 493 + 1) (rAt q k0) (updR (I r) (445 + 12 * I r 493) q)) (445 + 12 * I r 493 + 7) (-1)) = G0
    have gr : G0 r = updR (layS (445 + 12 * I r 493 + 1) (rAt q k0) (updR (I r) (445 + 12 * I r 493) q)) (445 + 12 * I r 493 + 7) (-1) := by rw [← hG0, setR_same]
    have gx : ∀ x, x ≠ r → x ≠ 432 → x ≠ 433 → G0 x = I x := fun x h1 h2 h3 => by rw [← hG0, setR_oth h1]; exact hF x h2 h3
    have gc : cfM G0 = cfM I := by
      unfold cfM
      rcases hr with rfl | rfl <;> rw [gx 427 (by decide) (by decide) (by decide), gx 434 (by decide) (by decide) (by decide), gx 435 (by decide) (by decide) (by decide), gx 436 (by decide) (by decide) (by decide), gx 437 (by decide) (by decide) (by decide)]
    have g14 : G0 427 14 = I 427 14 := by rcases hr with rfl | rfl <;> rw [gx 427 (by decide) (by decide) (by decide)]
    have gl : ∀ j, j < 445 ∨ 493 ≤ j → G0 r j = I r j := by
      intro j hj
      rw [gr]
      rw [updR_miss (by omega)]; unfold layS; rw [if_neg (by omega), updR_miss (by omega)]
    have gb : BdN N (G0 r) := by
      rw [gr]; exact BdN_upd (BdN_lay (BdN_upd hB (by omega) (by omega))) (by omega) (by omega)
    have gC : Cn (G0 r) := by
      refine ⟨BdN_Bd gb (by omega), fun q' h1 h2 => ?_, ?_, ?_, ?_, ?_⟩
      · rw [gl _ (by omega), gl _ (by omega), gl _ (by omega), gl _ (by omega)]; exact hC.2.1 q' h1 h2
      · rw [gl _ (by omega)]; exact hC.2.2.1
      · rw [gl _ (by omega)]; exact hC.2.2.2.1
      · rw [gl _ (by omega)]; exact hC.2.2.2.2.1
      · rw [gl _ (by omega)]; exact hC.2.2.2.2.2
    have ab2 := rAt_b (q := q) (k := G0 r (89 * q + 3)) hq0 (by omega)
    rw [m_fet (r := r) hM hr (by rw [gc]; exact hk) gC hq0 (by rw [g14]; exact hqn)]
    simp only [Option.bind_some, psh_i]
    rw [E246_187, m_lays hKA (by omega) (by omega) (by omega) (by omega) (by omega)]
    simp only [Option.bind_some, psh_u, setR_set, setR_same]
    obtain ⟨J', hJ', hJr, hJx⟩ := fin1 (setR G0 r (layS (445 + 12 * I r 493 + 6) (rAt q (G0 r (89 * q + 3))) (fetS (cfM G0) (G0 r) q))) (fun x h1 h2 h3 => by rw [setR_oth h1]; exact gx x h1 h2 h3)
    refine ⟨J', hJ', ?_, hJx⟩
    rw [hJr, setR_same, gc, gr]
    unfold runS
    simp only [if_pos hpp]
  · rw [if_neg hpp] at hp
    subst hp
    rw [if_pos rfl]
    obtain ⟨J', hJ', hJr, hJx⟩ := fin1 (setR J r (updR (layS (445 + 12 * I r 493 + 1) (rAt q k0) (updR (I r) (445 + 12 * I r 493) q)) (445 + 12 * I r 493 + 7) (-1))) (fun x h1 h2 h3 => by rw [setR_oth h1]; exact hF x h2 h3)
    refine ⟨J', hJ', ?_, hJx⟩
    rw [hJr, setR_same]
    unfold runS
    simp only [if_neg hpp]
end r37
