/-! calls: undo, keep, again */ -/
section r76
variable {d : Nat} {S : SS} {I J G : II} {C : CF} {ρ σ τ : RW} {b a q k c N M : Int}
def getU (f g : RW) (z : Int) : RW := fun j => if 0 ≤ j ∧ j < 844 then g (844 * z + j) else f j
theorem getU_step {f g : RW} {z k : Int} (h0 : 0 ≤ k) (h1 : k < 844) : (fun j => if k + 1 ≤ j ∧ j < 844 then g (844 * z + j) else updR f k (g (844 * z + k)) j) = (fun j => if k ≤ j ∧ j < 844 then g (844 * z + j) else f j) := by
  funext j
  by_cases e : j = k
  · subst e; rw [if_neg (by omega), updR_hit rfl, if_pos (by omega)]
  · by_cases e2 : k ≤ j ∧ j < 844
    · rw [if_pos (by omega), if_pos e2]
    · rw [if_neg (by omega), updR_miss e, if_neg e2]
theorem BdN_getU {f g : RW} {z : Int} (hf : BdN N f) (hg : BdN N g) : BdN N (getU f g z) := by
  intro j; unfold getU; split
  · exact hg _
  · exact hf j
theorem m_undo1 (hM : MA S 427) : ∀ (n : Nat) (k : Int) (I : II), 0 ≤ k → k ≤ 844 → 0 ≤ I 427 22 → I 427 22 ≤ 8 → n = (844 - k).toNat →
    ev d 215 26 [(2, 427), (0, k)] [] S I = some ((0, I 427 22), S, setR I 438 (fun j => if k ≤ j ∧ j < 844 then I 440 (844 * I 427 22 + j) else I 438 j)) := by
  intro n
  induction n with
  | zero =>
    intro k I h0 h1 h2 h3 hn
    have e : (fun j => if k ≤ j ∧ j < 844 then I 440 (844 * I 427 22 + j) else I 438 j) = I 438 := by funext j; rw [if_neg (by omega)]
    rw [E215_26 hM, w_small (z := k) (by omega) (by omega), if_neg (by omega), e, setR_id]
  | succ n ih =>
    intro k I h0 h1 h2 h3 hn
    rw [E215_26 hM, w_small (z := k) (by omega) (by omega), if_pos (by omega), w_small (z := 844 * I 427 22 + k) (by omega) (by omega), gdR_pos (by omega), gdR_pos (by omega)]
    have e27 : up2 I 438 k (I 440 (844 * I 427 22 + k)) 427 = I 427 := up2_oth (by decide)
    have e40 : up2 I 438 k (I 440 (844 * I 427 22 + k)) 440 = I 440 := up2_oth (by decide)
    rw [ih (k + 1) _ (by omega) (by omega) (by rw [e27]; exact h2) (by rw [e27]; exact h3) (by omega), e27, e40, up2_set, setR_same, setR_set, getU_step h0 (by omega)]
theorem m_keep1 (hM : MA S 427) (h2 : 0 ≤ a) (h3 : a < 2) : ∀ (n : Nat) (k : Int) (I : II), 0 ≤ k → k ≤ 844 → n = (844 - k).toNat →
    ev d 307 36 [(2, 427), (0, a), (0, k)] [] S I = some ((0, 1), S, setR I 454 (fun j => if 844 * a + k ≤ j ∧ j < 844 * a + 844 then I 438 (j - 844 * a) else I 454 j)) := by
  intro n
  induction n with
  | zero =>
    intro k I h0 h1 hn
    have e : (fun j => if 844 * a + k ≤ j ∧ j < 844 * a + 844 then I 438 (j - 844 * a) else I 454 j) = I 454 := by funext j; rw [if_neg (by omega)]
    rw [E307_36 hM, w_small (z := k) (by omega) (by omega), if_neg (by omega), e, setR_id]
  | succ n ih =>
    intro k I h0 h1 hn
    rw [E307_36 hM, w_small (z := k) (by omega) (by omega), if_pos (by omega), gdR_pos (by omega), w_small (z := 844 * a + k) (by omega) (by omega), gdR_pos (by omega)]
    have e38 : up2 I 454 (844 * a + k) (I 438 k) 438 = I 438 := up2_oth (by decide)
    rw [ih (k + 1) _ (by omega) (by omega) (by omega), e38, up2_set, setR_same, setR_set]
    have := putU_step (f := I 454) (g := I 438) (z := a) (k := k) h0 (by omega)
    rw [this]
theorem m_again1 (hM : MA S 427) (h2 : 0 ≤ a) (h3 : a < 2) : ∀ (n : Nat) (k : Int) (I : II), 0 ≤ k → k ≤ 844 → n = (844 - k).toNat →
    ev d 308 41 [(2, 427), (0, a), (0, k)] [] S I = some ((0, 1), S, up2 (setR I 438 (fun j => if k ≤ j ∧ j < 844 then I 454 (844 * a + j) else I 438 j)) 427 22 0) := by
  intro n
  induction n with
  | zero =>
    intro k I h0 h1 hn
    have e : (fun j => if k ≤ j ∧ j < 844 then I 454 (844 * a + j) else I 438 j) = I 438 := by funext j; rw [if_neg (by omega)]
    rw [E308_41 hM, w_small (z := k) (by omega) (by omega), if_neg (by omega), e, setR_id]
  | succ n ih =>
    intro k I h0 h1 hn
    rw [E308_41 hM, w_small (z := k) (by omega) (by omega), if_pos (by omega), w_small (z := 844 * a + k) (by omega) (by omega), gdR_pos (by omega), gdR_pos (by omega)]
    have e54 : up2 I 438 k (I 454 (844 * a + k)) 454 = I 454 := up2_oth (by decide)
    rw [ih (k + 1) _ (by omega) (by omega) (by omega), e54, up2_set (r := 438) (k := k), setR_same, setR_set, getU_step h0 (by omega)]
/-- nothing but what the reference says of a throw */ -/
theorem ST_0 {v : Int} (h : ST N I) : ST N (up2 I 427 0 v) := by
  obtain ⟨tT, tR, tH, tD, tU, tP, tK, tB⟩ := h
  have gx : ∀ x, x ≠ 427 → up2 I 427 0 v x = I x := fun x h2 => up2_oth h2
  have g27 : ∀ k, k ≠ 0 → up2 I 427 0 v 427 k = I 427 k := fun k hk => up2_miss (by omega)
  have hc : cfM (up2 I 427 0 v) = cfM I := cfM_mem (g27 14 (by decide)) (gx 434 (by decide)) (gx 435 (by decide)) (gx 436 (by decide)) (gx 437 (by decide))
  exact ⟨cT_mem tT (gx 1 (by decide)) (gx 2 (by decide)) (gx 429 (by decide)) (g27 4 (by decide)), cR_mem tR (gx 3 (by decide)) (gx 4 (by decide)) (gx 428 (by decide)) (g27 1 (by decide)), cH_mem tH (gx 424 (by decide)) (gx 425 (by decide)) (gx 426 (by decide)) (gx 448 (by decide)) (gx 449 (by decide)) (g27 36 (by decide)), cD_mem tD hc (gx 438 (by decide)) (fun x x0 x1 => gx x (by omega)), cU_mem tU (gx 412 (by decide)) (gx 413 (by decide)) (gx 430 (by decide)) (g27 10 (by decide)), cP_mem tP hc (fun k => by rw [gx 67 (by decide)]) (g27 22 (by decide)) (gx 440 (by decide)) (fun x x0 x1 => gx x (by omega)), cK_mem tK (g27 14 (by decide)) (g27 15 (by decide)) (gx 434 (by decide)) (gx 435 (by decide)) (gx 436 (by decide)) (gx 437 (by decide)) (gx 452 (by decide)) (gx 70 (by decide)) (gx 453 (by decide)) (gx 454 (by decide)) (fun x x0 x1 => gx x (by omega)), cB_mem tB (gx 438 (by decide)) (gx 439 (by decide)) (gx 440 (by decide)) (gx 454 (by decide))⟩
theorem call_undo (hS : SH S) (h : ST N I) (hN0 : 100 ≤ N) :
    ∃ r I1 I2, ev (d + 100) 160 0 [(2, 0)] [] S I = some ((0, r), S, I1) ∧ ev (d + 100) 215 0 [(2, 427), uU] [] S I1 = some ((0, r), S, I2) ∧ ST (N + 100000) I2 := by
  obtain ⟨hQ, hM⟩ := hS
  have h2 := h
  obtain ⟨tT, tR, tH, tD, tU, ⟨p0, p1, p2, p3, p4, p5⟩, tK, tB⟩ := h2
  have e1 := E160_0 (d := d + 99) (I := I) hQ
  by_cases g : I 67 2 < 1
  · rw [E105_0 (PA67 hQ), w_small (z := I 67 2) (by omega) (by omega), if_pos g] at e1
    simp only [Option.bind_some, psh_i, E160_11] at e1
    refine ⟨_, _, _, e1, ?_, ST_le (ST_0 (v := 0) h) (by omega)⟩
    rw [E215_0 hM, p4, w_small (z := I 67 2) (by omega) (by omega), if_pos (by omega)]
  · have ho : ∃ o', 0 ≤ o' ∧ o' < 9 ∧ 71 + 31 * o' = stp (I 67 1) (I 67 2) (I 67 2 - 1) ∧ (∀ i, stp o' (I 67 2 - 1) i = stp (I 67 1) (I 67 2) i) ∧ ev (d + 99) 105 0 [(2, 67), (2, 5)] [] S I = ev (d + 99) 105 38 [(2, 67), (2, 5)] [(0, o'), (2, 67)] S I := by
      rw [E105_0 (PA67 hQ), w_small (z := I 67 2) (by omega) (by omega), if_neg g, w_small (z := I 67 1) (by omega) (by omega), E105_36]
      by_cases g2 : 0 < I 67 1
      · rw [if_pos g2, if_neg (by omega)]
        exact ⟨I 67 1 - 1, by omega, by omega, by unfold stp; omega, fun i => by unfold stp; omega, rfl⟩
      · rw [if_neg g2]
        exact ⟨8, by omega, by omega, by unfold stp; omega, fun i => by unfold stp; omega, rfl⟩
    obtain ⟨o', o0, o1, o2, o3, o4⟩ := ho
    have pz := p5 (I 67 2 - 1) (by omega) (by omega)
    rw [← o2] at pz
    generalize hA : up2 (up2 I 67 1 o') 67 2 (I 67 2 - 1) = A
    have ax : ∀ x, x ≠ 67 → A x = I x := fun x hx => by rw [← hA, up2_oth hx, up2_oth hx]
    have a1 : A 67 1 = o' := by rw [← hA, up2_miss (by omega), up2_hit rfl rfl]
    have a2 : A 67 2 = I 67 2 - 1 := by rw [← hA, up2_hit rfl rfl]
    obtain ⟨J, j1, j2, j3⟩ := c_copy (d := d + 97) (S := S) (a0 := 5) (a1 := 71 + 31 * o') (DAstep hQ o0 o1) (DA5 hQ) (by omega) (GD_mem pz (J := A) (fun x x0 x1 => ax x (by omega)))
    rw [o4, E105_38 (PA67 hQ) (DA5 hQ), w_small (z := o') (by omega) (by omega), gdR_pos (by omega), hA, j1] at e1
    simp only [Option.bind_some, psh_u] at e1
    have j67 : J 67 = A 67 := j3 67 (by omega)
    rw [E105_64 (PA67 hQ), j67, a2] at e1
    simp only [Option.bind_some, psh_i, E160_11] at e1
    have jx : ∀ x, x ≠ 67 → ¬ (5 ≤ x ∧ x < 36) → J x = I x := fun x x0 x1 => by rw [j3 x (by omega), ax x x0]
    generalize hB0 : up2 (up2 J 427 0 0) 427 22 (I 67 2 - 1) = B0
    have b0x : ∀ x, x ≠ 427 → B0 x = J x := fun x hx => by rw [← hB0, up2_oth hx, up2_oth hx]
    have b0k : ∀ k, k ≠ 0 → k ≠ 22 → B0 427 k = I 427 k := fun k k0 k1 => by rw [← hB0, up2_miss (by omega), up2_miss (by omega), jx 427 (by decide) (by omega)]
    have b022 : B0 427 22 = I 67 2 - 1 := by rw [← hB0, up2_hit rfl rfl]
    have mu := m_undo1 (d := d + 100) (S := S) hM 844 0 B0 (by decide) (by decide) (by rw [b022]; omega) (by rw [b022]; omega) (by decide)
    rw [b022, b0x 440 (by decide), jx 440 (by decide) (by omega), b0x 438 (by decide), jx 438 (by decide) (by omega)] at mu
    generalize hU : (fun j => if 0 ≤ j ∧ j < 844 then I 440 (844 * (I 67 2 - 1) + j) else I 438 j) = U at mu
    have eU : U = getU (I 438) (I 440) (I 67 2 - 1) := hU.symm
    have ux : ∀ x, x ≠ 427 → x ≠ 438 → setR B0 438 U x = J x := fun x x0 x1 => by rw [setR_oth x1, b0x x x0]
    have uk : ∀ k, k ≠ 0 → k ≠ 22 → setR B0 438 U 427 k = I 427 k := fun k k0 k1 => by rw [setR_oth (by decide), b0k k k0 k1]
    have ui : ∀ x, x ≠ 427 → x ≠ 438 → x ≠ 67 → ¬ (5 ≤ x ∧ x < 36) → setR B0 438 U x = I x := fun x x0 x1 x2 x3 => by rw [ux x x0 x1, jx x x2 x3]
    have hi : ∀ x, 427 < x → x ≠ 438 → setR B0 438 U x = I x := fun x x0 x1 => ui x (by omega) x1 (by omega) (by omega)
    have hc : cfM (setR B0 438 U) = cfM I := cfM_mem (uk 14 (by decide) (by decide)) (hi 434 (by decide) (by decide)) (hi 435 (by decide) (by decide)) (hi 436 (by decide) (by decide)) (hi 437 (by decide) (by decide))
    have tB2 := cB_le tB (show N ≤ N + 100000 by omega)
    refine ⟨_, _, _, e1, ?_, cT_mem tT (ui 1 (by decide) (by decide) (by decide) (by omega)) (ui 2 (by decide) (by decide) (by decide) (by omega)) (hi 429 (by decide) (by decide)) (uk 4 (by decide) (by decide)), cR_mem tR (ui 3 (by decide) (by decide) (by decide) (by omega)) (ui 4 (by decide) (by decide) (by decide) (by omega)) (hi 428 (by decide) (by decide)) (uk 1 (by decide) (by decide)), cH_mem tH (ui 424 (by decide) (by decide) (by decide) (by omega)) (ui 425 (by decide) (by decide) (by decide) (by omega)) (ui 426 (by decide) (by decide) (by decide) (by omega)) (hi 448 (by decide) (by decide)) (hi 449 (by decide) (by decide)) (uk 36 (by decide) (by decide)), ?_, cU_mem tU (ui 412 (by decide) (by decide) (by decide) (by omega)) (ui 413 (by decide) (by decide) (by decide) (by omega)) (hi 430 (by decide) (by decide)) (uk 10 (by decide) (by decide)), ?_, cK_mem tK (uk 14 (by decide) (by decide)) (uk 15 (by decide) (by decide)) (hi 434 (by decide) (by decide)) (hi 435 (by decide) (by decide)) (hi 436 (by decide) (by decide)) (hi 437 (by decide) (by decide)) (hi 452 (by decide) (by decide)) (ui 70 (by decide) (by decide) (by decide) (by omega)) (hi 453 (by decide) (by decide)) (hi 454 (by decide) (by decide)) (fun x x0 x1 => ui x (by omega) (by omega) (by omega) (by omega)), ?_⟩
    · have x22 : J 427 22 = I 67 2 := by rw [jx 427 (by decide) (by omega)]; exact p4
      rw [E215_0 hM, x22, w_small (z := I 67 2) (by omega) (by omega), if_neg (by omega), hB0, mu]
    · unfold cD
      rw [hc, setR_same]
      exact ⟨tD.1, GD_row (GD_mem j2 (fun x x0 x1 => ux x (by omega) (by omega))) (fun j j0 j1 => by rw [eU]; unfold getU rowAt; rw [if_pos ⟨j0, j1⟩])⟩
    · unfold cP
      rw [ux 67 (by decide) (by decide), j67, a1, a2, setR_oth (show (427 : Int) ≠ 438 by decide), b022, hi 440 (by decide) (by decide), hc]
      refine ⟨o0, o1, by omega, by omega, rfl, fun i i0 i1 => ?_⟩
      rw [o3]
      exact GD_mem (p5 i i0 (by omega)) (fun x x0 x1 => ui x (by unfold stp at x1; omega) (by unfold stp at x1; omega) (by unfold stp at x0; omega) (by unfold stp at x0; omega))
    · unfold cB
      rw [setR_same, hi 439 (by decide) (by decide), hi 440 (by decide) (by decide), hi 454 (by decide) (by decide), eU]
      exact ⟨BdN_getU tB2.1 tB2.2.2.1, tB2.2.1, tB2.2.2.1, tB2.2.2.2⟩
theorem call_keep (hS : SH S) (h : ST N I) (hN0 : 100 ≤ N) (ha : isI a) :
    ∃ r I1 I2, ev (d + 100) 184 0 [(2, 0), (0, a)] [] S I = some ((0, r), S, I1) ∧ ev (d + 100) 307 0 [(2, 427), (0, a), uU] [] S I1 = some ((0, r), S, I2) ∧ ST (N + 100000) I2 := by
  obtain ⟨hQ, hM⟩ := hS
  have h2 := h
  obtain ⟨tT, tR, tH, tD, tU, tP, tK, tB⟩ := h2
  have e1 := E184_0 (d := d + 99) (I := I) (a1 := a) hQ
  have rf : ∀ J : II, ev (d + 100) 307 0 [(2, 427), (0, a), uU] [] S J = ev (d + 100) 307 12 [(2, 427), (0, a), uU] [(0, if 0 ≤ a ∧ a ≤ 1 then 1 else 0)] S (up2 J 427 0 0) := by
    intro J
    rw [E307_0 hM, w_small ha.1 ha.2, m_in (by omega) (by omega) (by decide) (by decide) (by decide) (by decide)]
    simp only [Option.bind_some, psh_i]
  rw [E106_0 (PA67 hQ), w_small ha.1 ha.2, E106_9] at e1
  by_cases g : 0 ≤ a ∧ a ≤ 1
  · obtain ⟨J, j1, j2, j3⟩ := c_copy (d := d + 97) (S := S) (a0 := 350 + 31 * a) (a1 := 5) (DA5 hQ) (DAkeep hQ g.1 (by omega)) (by omega) tD.2
    rw [if_neg (by omega), if_pos (by omega), gdR_pos (by omega), j1] at e1
    simp only [Option.bind_some, psh_u] at e1
    rw [E106_21 (PA67 hQ), w_small ha.1 ha.2, gdR_pos (by omega)] at e1
    simp only [Option.bind_some, psh_i, E184_12 (Or.inr rfl)] at e1
    have jx : ∀ x, ¬ (350 + 31 * a ≤ x ∧ x < 350 + 31 * a + 31) → x ≠ 70 → up2 J 70 a 1 x = I x := fun x x0 x1 => by rw [up2_oth x1]; exact j3 x (by omega)
    generalize hI1 : up2 J 70 a 1 = I1 at jx e1
    generalize hA : up2 (up2 (up2 I1 427 0 0) 452 a 1) 453 a (up2 I1 427 0 0 427 15) = A
    have a15 : up2 I1 427 0 0 427 15 = I 427 15 := by rw [up2_miss (by omega), jx 427 (by omega) (by decide)]
    rw [a15] at hA
    have mk := m_keep1 (d := d + 100) (S := S) hM g.1 (by omega) 844 0 A (by decide) (by decide) (by decide)
    have ax : ∀ x, x ≠ 427 → x ≠ 452 → x ≠ 453 → A x = I1 x := fun x x0 x1 x2 => by rw [← hA, up2_oth x2, up2_oth x1, up2_oth x0]
    have ak : ∀ k, k ≠ 0 → A 427 k = I 427 k := fun k hk => by rw [← hA, up2_oth (by decide), up2_oth (by decide), up2_miss (by omega), jx 427 (by omega) (by decide)]
    rw [ax 438 (by decide) (by decide) (by decide), jx 438 (by omega) (by decide), ax 454 (by decide) (by decide) (by decide), jx 454 (by omega) (by decide), Int.add_zero] at mk
    generalize hU : (fun j => if 844 * a ≤ j ∧ j < 844 * a + 844 then I 438 (j - 844 * a) else I 454 j) = U at mk
    have eU : U = putU (I 454) (I 438) a := hU.symm
    have ux : ∀ x, x ≠ 427 → x ≠ 452 → x ≠ 453 → x ≠ 454 → ¬ (350 + 31 * a ≤ x ∧ x < 350 + 31 * a + 31) → x ≠ 70 → setR A 454 U x = I x := fun x x0 x1 x2 x3 x4 x5 => by rw [setR_oth x3, ax x x0 x1 x2]; exact jx x x4 x5
    have uk : ∀ k, k ≠ 0 → setR A 454 U 427 k = I 427 k := fun k hk => by rw [setR_oth (by decide)]; exact ak k hk
    have u1 : ∀ x, x ≠ 427 → x ≠ 452 → x ≠ 453 → x ≠ 454 → setR A 454 U x = I1 x := fun x x0 x1 x2 x3 => by rw [setR_oth x3, ax x x0 x1 x2]
    have hi : ∀ x, 427 < x → x ≠ 452 → x ≠ 453 → x ≠ 454 → setR A 454 U x = I x := fun x x0 x1 x2 x3 => ux x (by omega) x1 x2 x3 (by omega) (by omega)
    have lo : ∀ x, x < 350 → x ≠ 70 → setR A 454 U x = I x := fun x x0 x1 => ux x (by omega) (by omega) (by omega) (by omega) (by omega) x1
    have mi : ∀ x, 412 ≤ x → x < 427 → setR A 454 U x = I x := fun x x0 x1 => ux x (by omega) (by omega) (by omega) (by omega) (by omega) (by omega)
    have hc : cfM (setR A 454 U) = cfM I := cfM_mem (uk 14 (by decide)) (hi 434 (by decide) (by decide) (by decide) (by decide)) (hi 435 (by decide) (by decide) (by decide) (by decide)) (hi 436 (by decide) (by decide) (by decide) (by decide)) (hi 437 (by decide) (by decide) (by decide) (by decide))
    have tB2 := cB_le tB (show N ≤ N + 100000 by omega)
    have c452 : ∀ i, setR A 454 U 452 i = if i = a then 1 else I 452 i := fun i => by
      rw [setR_oth (by decide), ← hA, up2_oth (by decide)]
      by_cases e : i = a
      · rw [up2_hit rfl e, if_pos e]
      · rw [up2_miss (by omega), if_neg e, up2_oth (by decide), jx 452 (by omega) (by decide)]
    have c453 : ∀ i, setR A 454 U 453 i = if i = a then I 427 15 else I 453 i := fun i => by
      rw [setR_oth (by decide), ← hA]
      by_cases e : i = a
      · rw [up2_hit rfl e, if_pos e]
      · rw [up2_miss (by omega), if_neg e, up2_oth (by decide), up2_oth (by decide), jx 453 (by omega) (by decide)]
    have c70 : ∀ i, setR A 454 U 70 i = if i = a then 1 else I 70 i := fun i => by
      rw [u1 70 (by decide) (by decide) (by decide) (by decide), ← hI1]
      by_cases e : i = a
      · rw [up2_hit rfl e, if_pos e]
      · rw [up2_miss (by omega), if_neg e, j3 70 (by omega)]
    refine ⟨1, I1, setR A 454 U, e1, ?_, cT_mem tT (lo 1 (by decide) (by decide)) (lo 2 (by decide) (by decide)) (hi 429 (by decide) (by decide) (by decide) (by decide)) (uk 4 (by decide)), cR_mem tR (lo 3 (by decide) (by decide)) (lo 4 (by decide) (by decide)) (hi 428 (by decide) (by decide) (by decide) (by decide)) (uk 1 (by decide)), cH_mem tH (mi 424 (by decide) (by decide)) (mi 425 (by decide) (by decide)) (mi 426 (by decide) (by decide)) (hi 448 (by decide) (by decide) (by decide) (by decide)) (hi 449 (by decide) (by decide) (by decide) (by decide)) (uk 36 (by decide)), cD_mem tD hc (hi 438 (by decide) (by decide) (by decide) (by decide)) (fun x x0 x1 => lo x (by omega) (by omega)), cU_mem tU (mi 412 (by decide) (by decide)) (mi 413 (by decide) (by decide)) (hi 430 (by decide) (by decide) (by decide) (by decide)) (uk 10 (by decide)), cP_mem tP hc (fun k => by rw [lo 67 (by decide) (by decide)]) (uk 22 (by decide)) (hi 440 (by decide) (by decide) (by decide) (by decide)) (fun x x0 x1 => lo x (by omega) (by omega)), ?_, ?_⟩
    · rw [rf, E307_12 hM, if_pos g, if_neg (by decide), w_small ha.1 ha.2, gdR_pos (by omega), gdR_pos (by omega), a15, hA, mk]
    · unfold cK
      rw [uk 14 (by decide), uk 15 (by decide), setR_same, eU]
      refine ⟨tK.1, fun i i0 i1 => ?_⟩
      have ca : ∀ n, cfA (setR A 454 (putU (I 454) (I 438) a)) n = cfA I n := fun n => by
        rw [← eU]
        exact cfA_mem (hi 434 (by decide) (by decide) (by decide) (by decide)) (hi 435 (by decide) (by decide) (by decide) (by decide)) (hi 436 (by decide) (by decide) (by decide) (by decide)) (hi 437 (by decide) (by decide) (by decide) (by decide))
      rw [ca, ← eU, c452, c453, c70]
      by_cases e : i = a
      · rw [if_pos e, if_pos e, if_pos e]
        refine ⟨rfl, Or.inr rfl, fun _ => ⟨by rw [tK.1]; exact tD.1.1, by rw [tK.1]; exact Int.le_refl _, ?_⟩⟩
        rw [tK.1, e]
        refine GD_row (GD_mem (j2) (fun x x0 x1 => ?_)) (fun j j0 j1 => by rw [eU, rowAt_putU j0 j1, if_pos rfl])
        rw [u1 x (by omega) (by omega) (by omega) (by omega), ← hI1, up2_oth (by omega)]
      · rw [if_neg e, if_neg e, if_neg e]
        obtain ⟨k1, k2, k3⟩ := tK.2 i i0 i1
        refine ⟨k1, k2, fun e7 => ?_⟩
        obtain ⟨k4, k5, k6⟩ := k3 e7
        exact ⟨k4, k5, GD_row (GD_mem k6 (fun x x0 x1 => ux x (by omega) (by omega) (by omega) (by omega) (by omega) (by omega))) (fun j j0 j1 => by rw [eU, rowAt_putU j0 j1, if_neg e])⟩
    · unfold cB
      rw [setR_same, hi 438 (by decide) (by decide) (by decide) (by decide), hi 439 (by decide) (by decide) (by decide) (by decide), hi 440 (by decide) (by decide) (by decide) (by decide), eU]
      exact ⟨tB2.1, tB2.2.1, tB2.2.2.1, BdN_putU tB2.2.2.2 tB2.1⟩
  · have e2 : ev (d + 100) 184 0 [(2, 0), (0, a)] [] S I = some ((0, 0), S, I) := by
      rw [e1]
      by_cases g1 : a < 0
      · rw [if_pos g1]; simp only [Option.bind_some, psh_i, E184_12 (Or.inl rfl)]
      · rw [if_neg g1, if_neg (by omega)]; simp only [Option.bind_some, psh_i, E184_12 (Or.inl rfl)]
    refine ⟨0, I, _, e2, ?_, ST_le (ST_0 (v := 0) h) (by omega)⟩
    rw [rf, E307_12 hM, if_neg g, if_pos (by decide)]
theorem call_again (hS : SH S) (h : ST N I) (hN0 : 100 ≤ N) (ha : isI a) :
    ∃ r I1 I2, ev (d + 100) 185 0 [(2, 0), (0, a)] [] S I = some ((0, r), S, I1) ∧ ev (d + 100) 308 0 [(2, 427), (0, a), uU] [] S I1 = some ((0, r), S, I2) ∧ ST (N + 100000) I2 := by
  obtain ⟨hQ, hM⟩ := hS
  have h2 := h
  obtain ⟨tT, tR, tH, tD, tU, tP, tK, tB⟩ := h2
  have n5 : I 427 14 ≤ 5 := tD.1.2.1
  have n0 : 0 ≤ I 427 14 := tD.1.1
  have d5 : I 5 0 = I 427 14 := tD.2.1.1.1
  have e1 := E185_0 (d := d + 99) (I := I) (a1 := a) hQ
  have rf : ∀ J : II, ev (d + 100) 308 0 [(2, 427), (0, a), uU] [] S J = ev (d + 100) 308 12 [(2, 427), (0, a), uU] [(0, if 0 ≤ a ∧ a ≤ 1 then 1 else 0)] S (up2 J 427 0 0) := by
    intro J
    rw [E308_0 hM, w_small ha.1 ha.2, m_in (by omega) (by omega) (by decide) (by decide) (by decide) (by decide)]
    simp only [Option.bind_some, psh_i]
  have no : (ev (d + 99) 107 0 [(2, 67), (0, a), (2, 5)] [] S I = some ((0, 0), S, I)) → ev (d + 100) 308 12 [(2, 427), (0, a), uU] [(0, if 0 ≤ a ∧ a ≤ 1 then 1 else 0)] S (up2 I 427 0 0) = some ((0, 0), S, up2 I 427 0 0) → ∃ r I1 I2, ev (d + 100) 185 0 [(2, 0), (0, a)] [] S I = some ((0, r), S, I1) ∧ ev (d + 100) 308 0 [(2, 427), (0, a), uU] [] S I1 = some ((0, r), S, I2) ∧ ST (N + 100000) I2 := by
    intro x1 x2
    rw [x1] at e1
    simp only [Option.bind_some, psh_i, E185_12 (Or.inl rfl)] at e1
    exact ⟨0, I, _, e1, by rw [rf]; exact x2, ST_le (ST_0 (v := 0) h) (by omega)⟩
  have z34 : ev (d + 99) 107 34 [(2, 67), (0, a), (2, 5)] [] S I = some ((0, 0), S, I) := E107_34
  have z37 : ∀ J : II, ev (d + 100) 308 37 [(2, 427), (0, a), uU] [] S J = some ((0, 0), S, J) := fun J => E308_37
  by_cases g : 0 ≤ a ∧ a ≤ 1
  · obtain ⟨k1, k2, k3⟩ := tK.2 a g.1 (by omega)
    have b52 : up2 I 427 0 0 452 a = I 70 a := by rw [up2_oth (by decide)]; exact k1
    by_cases g2 : I 70 a = 0
    · refine no ?_ ?_
      · rw [E107_0 (PA67 hQ) (DA5 hQ), w_small ha.1 ha.2, if_neg (by omega), if_pos (by omega), gdR_pos (by omega), w_small (z := I 70 a) (by omega) (by omega), if_pos g2, z34]
      · rw [E308_12 hM, if_pos g, if_neg (by decide), w_small ha.1 ha.2, gdR_pos (by omega), b52, w_small (z := I 70 a) (by omega) (by omega), if_pos g2, z37]
    · obtain ⟨k4, k5, k6⟩ := k3 (by omega)
      have kd : I (350 + 31 * a) 0 = I 453 a := k6.1.1.1
      have b53 : up2 I 427 0 0 453 a = I 453 a := by rw [up2_oth (by decide)]
      have b15 : up2 I 427 0 0 427 15 = I 427 14 := by rw [up2_miss (by omega)]; exact tK.1
      by_cases g3 : I 453 a = I 427 14
      · have hcA : cfA I (I 453 a) = cfM I := by unfold cfA cfM; rw [g3]
        rw [hcA] at k6
        obtain ⟨J, j1, j2, j3⟩ := c_copy (d := d + 97) (S := S) (a0 := 5) (a1 := 350 + 31 * a) (DAkeep hQ g.1 (by omega)) (DA5 hQ) (by omega) k6
        rw [E107_0 (PA67 hQ) (DA5 hQ), w_small ha.1 ha.2, if_neg (by omega), if_pos (by omega), gdR_pos (by omega), w_small (z := I 70 a) (by omega) (by omega), if_neg g2, gdR_pos (by omega), kd, d5, w_small (z := I 453 a) (by omega) (by omega), w_small (z := I 427 14) (by omega) (by omega), if_pos g3, gdR_pos (by omega), j1] at e1
        simp only [Option.bind_some, psh_u] at e1
        rw [E107_46 (PA67 hQ), E102_0 (PA67 hQ)] at e1
        simp only [Option.bind_some, psh_u] at e1
        rw [E107_50] at e1
        simp only [Option.bind_some, psh_i, E185_12 (Or.inr rfl)] at e1
        generalize hI1 : up2 J 67 2 0 = I1 at e1
        have ix : ∀ x, x ≠ 67 → I1 x = J x := fun x hx => by rw [← hI1, up2_oth hx]
        have iI : ∀ x, x ≠ 67 → ¬ (5 ≤ x ∧ x < 36) → I1 x = I x := fun x x0 x1 => by rw [ix x x0]; exact j3 x (by omega)
        have i671 : I1 67 1 = I 67 1 := by rw [← hI1, up2_miss (by omega), j3 67 (by omega)]
        have i672 : I1 67 2 = 0 := by rw [← hI1, up2_hit rfl rfl]
        have i27 : I1 427 = I 427 := iI 427 (by decide) (by omega)
        have mg := m_again1 (d := d + 100) (S := S) hM g.1 (by omega) 844 0 (up2 I1 427 0 0) (by decide) (by decide) (by decide)
        rw [up2_oth (show (454 : Int) ≠ 427 by decide), up2_oth (show (438 : Int) ≠ 427 by decide), iI 454 (by decide) (by omega), iI 438 (by decide) (by omega)] at mg
        generalize hU : (fun j => if 0 ≤ j ∧ j < 844 then I 454 (844 * a + j) else I 438 j) = U at mg
        have eU : U = getU (I 438) (I 454) a := hU.symm
        generalize hI2 : up2 (setR (up2 I1 427 0 0) 438 U) 427 22 0 = I2 at mg
        have ux : ∀ x, x ≠ 427 → x ≠ 438 → I2 x = I1 x := fun x x0 x1 => by rw [← hI2, up2_oth x0, setR_oth x1, up2_oth x0]
        have ui : ∀ x, x ≠ 427 → x ≠ 438 → x ≠ 67 → ¬ (5 ≤ x ∧ x < 36) → I2 x = I x := fun x x0 x1 x2 x3 => (ux x x0 x1).trans (iI x x2 x3)
        have uk : ∀ k, k ≠ 0 → k ≠ 22 → I2 427 k = I 427 k := fun k k0 k1 => by rw [← hI2, up2_miss (by omega), setR_oth (by decide), up2_miss (by omega), i27]
        have hi : ∀ x, 427 < x → x ≠ 438 → I2 x = I x := fun x x0 x1 => ui x (by omega) x1 (by omega) (by omega)
        have u38 : I2 438 = U := by rw [← hI2, up2_oth (by decide), setR_same]
        have hc : cfM I2 = cfM I := cfM_mem (uk 14 (by decide) (by decide)) (hi 434 (by decide) (by decide)) (hi 435 (by decide) (by decide)) (hi 436 (by decide) (by decide)) (hi 437 (by decide) (by decide))
        have tB2 := cB_le tB (show N ≤ N + 100000 by omega)
        refine ⟨1, I1, I2, e1, ?_, cT_mem tT (ui 1 (by decide) (by decide) (by decide) (by omega)) (ui 2 (by decide) (by decide) (by decide) (by omega)) (hi 429 (by decide) (by decide)) (uk 4 (by decide) (by decide)), cR_mem tR (ui 3 (by decide) (by decide) (by decide) (by omega)) (ui 4 (by decide) (by decide) (by decide) (by omega)) (hi 428 (by decide) (by decide)) (uk 1 (by decide) (by decide)), cH_mem tH (ui 424 (by decide) (by decide) (by decide) (by omega)) (ui 425 (by decide) (by decide) (by decide) (by omega)) (ui 426 (by decide) (by decide) (by decide) (by omega)) (hi 448 (by decide) (by decide)) (hi 449 (by decide) (by decide)) (uk 36 (by decide) (by decide)), ?_, cU_mem tU (ui 412 (by decide) (by decide) (by decide) (by omega)) (ui 413 (by decide) (by decide) (by decide) (by omega)) (hi 430 (by decide) (by decide)) (uk 10 (by decide) (by decide)), ?_, cK_mem tK (uk 14 (by decide) (by decide)) (uk 15 (by decide) (by decide)) (hi 434 (by decide) (by decide)) (hi 435 (by decide) (by decide)) (hi 436 (by decide) (by decide)) (hi 437 (by decide) (by decide)) (hi 452 (by decide) (by decide)) (ui 70 (by decide) (by decide) (by decide) (by omega)) (hi 453 (by decide) (by decide)) (hi 454 (by decide) (by decide)) (fun x x0 x1 => ui x (by omega) (by omega) (by omega) (by omega)), ?_⟩
        · have c52 : up2 I1 427 0 0 452 a = I 70 a := by rw [up2_oth (by decide), iI 452 (by decide) (by omega)]; exact k1
          have c53 : up2 I1 427 0 0 453 a = I 453 a := by rw [up2_oth (by decide), iI 453 (by decide) (by omega)]
          have c15 : up2 I1 427 0 0 427 15 = I 427 14 := by rw [up2_miss (by omega), i27]; exact tK.1
          rw [rf, E308_12 hM, if_pos g, if_neg (by decide), w_small ha.1 ha.2, gdR_pos (by omega), c52, w_small (z := I 70 a) (by omega) (by omega), if_neg g2, gdR_pos (by omega), c53, c15, w_small (z := I 453 a) (by omega) (by omega), w_small (z := I 427 14) (by omega) (by omega), if_pos g3, mg]
        · unfold cD
          rw [hc, u38, eU]
          exact ⟨tD.1, GD_row (GD_mem j2 (fun x x0 x1 => by rw [ux x (by omega) (by omega), ix x (by omega)])) (fun j j0 j1 => by unfold getU rowAt; rw [if_pos ⟨j0, j1⟩])⟩
        · unfold cP
          rw [ux 67 (by decide) (by decide), i671, i672, ← hI2, up2_hit rfl rfl]
          exact ⟨tP.1, tP.2.1, by decide, by decide, rfl, fun i i0 i1 => by omega⟩
        · unfold cB
          rw [u38, hi 439 (by decide) (by decide), hi 440 (by decide) (by decide), hi 454 (by decide) (by decide), eU]
          exact ⟨BdN_getU tB2.1 tB2.2.2.2, tB2.2.1, tB2.2.2.1, tB2.2.2.2⟩
      · refine no ?_ ?_
        · rw [E107_0 (PA67 hQ) (DA5 hQ), w_small ha.1 ha.2, if_neg (by omega), if_pos (by omega), gdR_pos (by omega), w_small (z := I 70 a) (by omega) (by omega), if_neg g2, gdR_pos (by omega), kd, d5, w_small (z := I 453 a) (by omega) (by omega), w_small (z := I 427 14) (by omega) (by omega), if_neg g3, z34]
        · rw [E308_12 hM, if_pos g, if_neg (by decide), w_small ha.1 ha.2, gdR_pos (by omega), b52, w_small (z := I 70 a) (by omega) (by omega), if_neg g2, gdR_pos (by omega), b53, b15, w_small (z := I 453 a) (by omega) (by omega), w_small (z := I 427 14) (by omega) (by omega), if_neg g3, z37]
  · refine no ?_ ?_
    · rw [E107_0 (PA67 hQ) (DA5 hQ), w_small ha.1 ha.2, z34]
      by_cases g1 : a < 0
      · rw [if_pos g1]
      · rw [if_neg g1, if_neg (by omega)]
    · rw [E308_12 hM, if_neg g, if_pos (by decide), z37]
end r76
