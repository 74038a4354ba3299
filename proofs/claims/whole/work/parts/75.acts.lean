/-! acts that tell: the frame of them; takes */ -/
section r75
variable {d : Nat} {S : SS} {I J G G' : II} {C : CF} {ρ σ τ : RW} {b a q id op bl v k c N M : Int}
theorem ST_le (h : ST N I) (hN : N ≤ M) : ST M I := ⟨h.1, h.2.1, h.2.2.1, h.2.2.2.1, h.2.2.2.2.1, h.2.2.2.2.2.1, h.2.2.2.2.2.2.1, cB_le h.2.2.2.2.2.2.2 hN⟩
theorem TM_of (h : cR I) : ∃ n f, 0 ≤ n ∧ n ≤ 12 ∧ TD I n f ∧ MD I n f := by
  obtain ⟨r0, r1, r2, r3⟩ := h
  exact ⟨I 3 1, I 4, r0, r1, ⟨rfl, fun _ _ _ => rfl⟩, ⟨r2, r3⟩⟩
theorem act_mid (hM : MA S 427) (h : ST N I) (hσ : WF (cfM I) σ) (hl : lftOK 1 σ) (hB : BdN (N + 100000) σ)
    (g1 : GD (cfM I) G' (71 + 31 * I 67 1) (I 438)) (g3 : RelD (cfM I) G' 5 σ)
    (gx : ∀ x, ¬ (5 ≤ x ∧ x < 36) → ¬ (71 + 31 * I 67 1 ≤ x ∧ x < 71 + 31 * I 67 1 + 31) → x ≠ 3 → x ≠ 4 → x ≠ 416 → x ≠ 417 → G' x = I x) :
    ∃ B, (∀ d, ev d 217 0 [(2, 427), uU] [] S (up2 (if a < 0 then G' else up2 (up2 G' 67 1 ((I 67 1 + 1) % 9)) 67 2 (addZ (I 67 2))) 427 0 0) = some (uU, S, B)) ∧ cfM B = cfM I ∧ kfM B = kfM I ∧ B 438 = I 438 ∧ (∀ k, k ≠ 0 → B 427 k = I 427 k) ∧ B 428 = I 428 ∧
      ∀ E : II, (∀ x, x ≠ 427 → x ≠ 428 → x ≠ 432 → x ≠ 433 → E x = setR B 438 σ x) → (∀ k, (k = 4 ∨ k = 36 ∨ k = 10 ∨ k = 14 ∨ k = 15 ∨ k = 22) → E 427 k = I 427 k) → (∃ n f, 0 ≤ n ∧ n ≤ 12 ∧ TD G' n f ∧ MD E n f) →
        (a < 0 → ST (N + 100000) E) ∧ (0 ≤ a → ∃ I2, (∀ d, ev d 232 0 [(2, 427), (0, a), uU] [] S E = some ((0, a), S, I2)) ∧ ST (N + 100000) I2) := by
  have hh := h
  obtain ⟨tT, tR, tH, tD, tU, ⟨p0, p1, p2, p3, p4, p5⟩, tK, tB⟩ := hh
  generalize hI1 : (if a < 0 then G' else up2 (up2 G' 67 1 ((I 67 1 + 1) % 9)) 67 2 (addZ (I 67 2))) = I1
  have ix : ∀ x, x ≠ 67 → I1 x = G' x := fun x hx => by
    rw [← hI1]; split
    · rfl
    · rw [up2_oth hx, up2_oth hx]
  have i1x : ∀ x, x ≠ 67 → ¬ (5 ≤ x ∧ x < 36) → ¬ (71 + 31 * I 67 1 ≤ x ∧ x < 71 + 31 * I 67 1 + 31) → x ≠ 3 → x ≠ 4 → x ≠ 416 → x ≠ 417 → I1 x = I x := fun x x0 x1 x2 x3 x4 x5 x6 => (ix x x0).trans (gx x x1 x2 x3 x4 x5 x6)
  have hi : ∀ x, 427 ≤ x → I1 x = I x := fun x hx => i1x x (by omega) (by omega) (by omega) (by omega) (by omega) (by omega) (by omega)
  have i27 := hi 427 (by decide)
  have i38 := hi 438 (by decide)
  have i40 := hi 440 (by decide)
  have u22 : up2 I1 427 0 0 427 22 = I 67 2 := by rw [up2_miss (by omega), i27]; exact p4
  have pb := fun d => m_putsBy (d := d) (S := S) (I := up2 I1 427 0 0) hM (by rw [u22]; exact p2) (by rw [u22]; exact p3)
  rw [u22, up2_oth (show (440 : Int) ≠ 427 by decide), up2_oth (show (438 : Int) ≠ 427 by decide), i38, i40] at pb
  generalize hBB : setR (up2 I1 427 0 0) 440 (putU (I 440) (I 438) (I 67 2)) = B at pb
  have bx : ∀ x, x ≠ 427 → x ≠ 440 → B x = I1 x := fun x x0 x1 => by rw [← hBB, setR_oth x1, up2_oth x0]
  have bhi : ∀ x, 427 < x → x ≠ 440 → B x = I x := fun x x0 x1 => (bx x (by omega) x1).trans (hi x (by omega))
  have b27 : ∀ k, k ≠ 0 → B 427 k = I 427 k := fun k hk => by rw [← hBB, setR_oth (by decide), up2_miss (by omega), i27]
  have b40 : B 440 = putU (I 440) (I 438) (I 67 2) := by rw [← hBB, setR_same]
  refine ⟨B, pb, cfM_mem (b27 14 (by decide)) (bhi 434 (by decide) (by decide)) (bhi 435 (by decide) (by decide)) (bhi 436 (by decide) (by decide)) (bhi 437 (by decide) (by decide)), by unfold kfM; rw [bhi 430 (by decide) (by decide), b27 10 (by decide)], bhi 438 (by decide) (by decide), b27, bhi 428 (by decide) (by decide), fun E hE hE27 hTM => ?_⟩
  have g67 : G' 67 = I 67 := gx 67 (by omega) (by omega) (by decide) (by decide) (by decide) (by decide)
  have ex0 : ∀ x, x ≠ 427 → x ≠ 428 → x ≠ 432 → x ≠ 433 → x ≠ 438 → x ≠ 440 → E x = I1 x := fun x x0 x1 x2 x3 x4 x5 => by rw [hE x x0 x1 x2 x3, setR_oth x4, bx x x0 x5]
  have e38 : E 438 = σ := by rw [hE 438 (by decide) (by decide) (by decide) (by decide), setR_same]
  have e40 : E 440 = putU (I 440) (I 438) (I 67 2) := by rw [hE 440 (by decide) (by decide) (by decide) (by decide), setR_oth (by decide), b40]
  have e22 : E 427 22 = I 67 2 := (hE27 22 (by omega)).trans p4
  obtain ⟨n, f, n0, n1, td, md⟩ := hTM
  have fin1 : ∀ (ok : Prop) [Decidable ok] (I2 : II), (¬ a < 0 ↔ ok) → (∀ x, x ≠ 427 → x ≠ 440 → I2 x = E x) → (∀ k, k ≠ 22 → I2 427 k = E 427 k) → I2 427 22 = (if ok then addZ (I 67 2) else I 67 2) → I2 440 = (if ok then addU (putU (I 440) (I 438) (I 67 2)) (I 67 2) else putU (I 440) (I 438) (I 67 2)) → ST (N + 100000) I2 := by
    intro ok _ I2 hok y1 y2 y3 y4
    have yx : ∀ x, x ≠ 427 → x ≠ 428 → x ≠ 432 → x ≠ 433 → x ≠ 438 → x ≠ 440 → I2 x = I1 x := fun x x0 x1 x2 x3 x4 x5 => by rw [y1 x x0 x5]; exact ex0 x x0 x1 x2 x3 x4 x5
    have ylo : ∀ x, x < 427 → I2 x = I1 x := fun x hx => yx x (by omega) (by omega) (by omega) (by omega) (by omega) (by omega)
    have y67 : I2 67 = I1 67 := ylo 67 (by decide)
    have q1 : I2 67 1 = if ok then (I 67 1 + 1) % 9 else I 67 1 := by
      rw [y67, ← hI1]
      by_cases g : a < 0
      · rw [if_pos g, if_neg (fun e => hok.mpr e g), g67]
      · rw [if_neg g, if_pos (hok.mp g), up2_miss (by omega), up2_hit rfl rfl]
    have q2 : I2 67 2 = if ok then addZ (I 67 2) else I 67 2 := by
      rw [y67, ← hI1]
      by_cases g : a < 0
      · rw [if_pos g, if_neg (fun e => hok.mpr e g), g67]
      · rw [if_neg g, if_pos (hok.mp g), up2_hit rfl rfl]
    refine act_ST (ok := ok) h hσ hl hB (RelD_mem g3 hσ.1 (fun x x0 x1 => by rw [ylo x (by omega), ix x (by omega)])) (GD_mem g1 (fun x x0 x1 => by rw [ylo x (by omega), ix x (by omega)])) (fun x x0 x1 x2 x3 x4 x5 x6 x7 _ _ => by rw [ylo x x0]; exact i1x x x3 x1 x2 x4 x5 x6 x7) q1 q2 (fun x x0 x1 x2 x3 x4 x5 => by rw [yx x (by omega) x1 x4 x5 x2 x3]; exact hi x (by omega)) (by rw [y1 438 (by decide) (by decide)]; exact e38) y4 (fun k hk => by rw [y2 k (by omega)]; exact hE27 k (by omega)) (by rw [y3, q2]) ?_
    exact cR_of (TD_congr td (by rw [ylo 3 (by decide), ix 3 (by decide)]) (by rw [ylo 4 (by decide), ix 4 (by decide)])) (MD_congr md (y2 1 (by decide)) (y1 428 (by decide) (by decide))) n0 n1
  constructor
  · intro g
    exact fin1 False E ⟨fun e => e g, fun e => e.elim⟩ (fun _ _ _ => rfl) (fun _ _ => rfl) (by rw [if_neg id]; exact e22) (by rw [if_neg id]; exact e40)
  · intro g
    refine ⟨_, fun d => m_adds (a := a) hM (by rw [e22]; exact p2) (by rw [e22]; exact p3), ?_⟩
    rw [e22, e40]
    exact fin1 True _ ⟨fun _ => trivial, fun _ => by omega⟩ (fun x x0 x1 => by rw [up2_oth x0, setR_oth x1]) (fun k hk => by rw [up2_miss (by omega), setR_oth (by decide)]) (by rw [if_pos trivial, up2_hit rfl rfl]) (by rw [if_pos trivial, up2_oth (by decide), setR_same])
/-- a refusal: what was noted does not count */ -/
theorem note_ST (h : ST N I) (g2 : OUTB (71 + 31 * I 67 1) I G) : ST N (up2 G 427 0 0) := by
  obtain ⟨tT, tR, tH, tD, tU, ⟨p0, p1, p2, p3, p4, p5⟩, tK, tB⟩ := h
  have gx : ∀ x, ¬ (71 + 31 * I 67 1 ≤ x ∧ x < 71 + 31 * I 67 1 + 31) → x ≠ 427 → up2 G 427 0 0 x = I x := fun x hx h2 => by rw [up2_oth h2]; exact g2 x (by omega)
  have g27 : ∀ k, k ≠ 0 → up2 G 427 0 0 427 k = I 427 k := fun k hk => by rw [up2_miss (by omega), g2 427 (by omega)]
  have hi : ∀ x, 427 < x → up2 G 427 0 0 x = I x := fun x hx => gx x (by omega) (by omega)
  have lo : ∀ x, x < 71 → up2 G 427 0 0 x = I x := fun x hx => gx x (by omega) (by omega)
  have mi : ∀ x, 350 ≤ x → x < 427 → up2 G 427 0 0 x = I x := fun x hx h2 => gx x (by omega) (by omega)
  have hc : cfM (up2 G 427 0 0) = cfM I := cfM_mem (g27 14 (by decide)) (hi 434 (by decide)) (hi 435 (by decide)) (hi 436 (by decide)) (hi 437 (by decide))
  refine ⟨cT_mem tT (lo 1 (by decide)) (lo 2 (by decide)) (hi 429 (by decide)) (g27 4 (by decide)), cR_mem tR (lo 3 (by decide)) (lo 4 (by decide)) (hi 428 (by decide)) (g27 1 (by decide)), cH_mem tH (mi 424 (by decide) (by decide)) (mi 425 (by decide) (by decide)) (mi 426 (by decide) (by decide)) (hi 448 (by decide)) (hi 449 (by decide)) (g27 36 (by decide)), cD_mem tD hc (hi 438 (by decide)) (fun x x0 x1 => lo x (by omega)), cU_mem tU (mi 412 (by decide) (by decide)) (mi 413 (by decide) (by decide)) (hi 430 (by decide)) (g27 10 (by decide)), ?_, cK_mem tK (g27 14 (by decide)) (g27 15 (by decide)) (hi 434 (by decide)) (hi 435 (by decide)) (hi 436 (by decide)) (hi 437 (by decide)) (hi 452 (by decide)) (lo 70 (by decide)) (hi 453 (by decide)) (hi 454 (by decide)) (fun x x0 x1 => mi x x0 (by omega)), cB_mem tB (hi 438 (by decide)) (hi 439 (by decide)) (hi 440 (by decide)) (hi 454 (by decide))⟩
  unfold cP
  rw [lo 67 (by decide), g27 22 (by decide), hi 440 (by decide), hc]
  exact ⟨p0, p1, p2, p3, p4, fun i i0 i1 => GD_mem (p5 i i0 i1) (fun x x0 x1 => gx x (by unfold stp at x0 x1; omega) (by unfold stp at x1; omega))⟩
theorem call_takes (hS : SH S) (h : ST N I) (hN0 : 100 ≤ N) (hN : N < 70000000) (hq : isI q) :
    ∃ r I1 I2, ev (d + 100) 150 0 [(2, 0), (0, q)] [] S I = some ((0, r), S, I1) ∧ ev (d + 100) 256 0 [(2, 427), (0, q), uU] [] S I1 = some ((0, r), S, I2) ∧ ST (N + 100000) I2 := by
  obtain ⟨hQ, hM⟩ := hS
  obtain ⟨G, g1, g2, g3, g4, g5⟩ := act_beg (S := S) (d + 97) hQ h
  have h2 := h
  obtain ⟨_, tR, _, ⟨hk, hD⟩, _, ⟨p0, p1, p2, p3, _⟩, _, hB⟩ := h2
  obtain ⟨G', k1, k2, k3, k4, k5⟩ := c_take (d := d + 94) (S := S) (b := 5) (by decide) (DA5 hQ) (RA3 hQ) g4 hD.2.1 hk hB.1 (by omega) hq
  obtain ⟨w1, w2, w3⟩ := takesS_WF (q := q) hD.2.1 hk hB.1
  have e67 : G' 67 = I 67 := by rw [k5 67 (by omega) (by decide) (by decide), g5]
  have Cn1 := WF_Cn hD.2.1.1 hB.1 (by omega)
  have hn := hk.2.1
  -- the answer
  have av : (takesS (cfM I) (I 438) q).1 < 0 ∧ -2 ≤ (takesS (cfM I) (I 438) q).1 ∨ 0 ≤ (takesS (cfM I) (I 438) q).1 ∧ ∃ k, (0 ≤ q ∧ q < (cfM I).1) ∧ (takesS (cfM I) (I 438) q).1 = pAt q k ∧ I 438 (89 * q + 6) ≤ k ∧ k < I 438 (89 * q + 5) := by
    rw [takesS_eq]
    split
    · rename_i g
      split
      · exact Or.inl (by simp)
      · rename_i g1
        have c1 := (hD.2.1.1.1 q g.1 (by omega)).1
        unfold cntsOK at c1
        have pb := pAt_b (q := q) (k := I 438 (89 * q + 6)) g.1 (by omega)
        exact Or.inr ⟨by show 0 ≤ pAt q _; omega, _, g, rfl, Int.le_refl _, by omega⟩
    · exact Or.inl (by simp)
  generalize hat : (takesS (cfM I) (I 438) q).1 = at_ at *
  have aI : isI (if at_ < 0 then at_ else 10 * I 438 at_ + I 438 (at_ + 1)) := by
    split
    · rcases av with e | e <;> exact ⟨by omega, by omega⟩
    · have b0 := hB.1 at_
      have b1 := hB.1 (at_ + 1)
      exact ⟨by omega, by omega⟩
  generalize han : (if at_ < 0 then at_ else 10 * I 438 at_ + I 438 (at_ + 1)) = an at *
  have oB : ∀ x, ¬ (5 ≤ x ∧ x < 36) → ¬ (71 + 31 * I 67 1 ≤ x ∧ x < 71 + 31 * I 67 1 + 31) → x ≠ 3 → x ≠ 4 → x ≠ 416 → x ≠ 417 → G' x = I x := fun x x0 x1 x2 x3 _ _ => by rw [k5 x (by omega) x2 x3, g3 x (by omega)]
  obtain ⟨B, b1, b2, _, b3, b4, b5, b6⟩ := act_mid (a := an) hM h w1 (w3 1 hD.2.2) (BdN_le w2 (by omega)) (GD_mem g2 (fun x x0 x1 => k5 x (by omega) (by omega) (by omega))) k2 oB
  have r1 := E150_0 (d := d + 99) (I := I) (a1 := q) hQ
  rw [g1] at r1
  simp only [Option.bind_some, psh_u] at r1
  rw [E150_11 hQ, k1] at r1
  simp only [Option.bind_some, psh_i] at r1
  rw [E150_27 (PA67 hQ), c_seal hQ (by rw [e67]; exact p0) (by rw [e67]; exact p1) (by rw [e67]; exact p2) (by rw [e67]; exact p3) aI, e67] at r1
  simp only [Option.bind_some, psh_i, E150_30] at r1
  have mt := m_takes (d := d + 97) (S := S) (I := B) (q := q) hM (Or.inl rfl) (by rw [b2]; exact hk) (by rw [b3]; exact Cn1) hq
  rw [b2, b3, hat] at mt
  have r2 := E256_0 (d := d + 99) (a1 := q) (I := if an < 0 then G' else up2 (up2 G' 67 1 ((I 67 1 + 1) % 9)) 67 2 (addZ (I 67 2))) hM
  rw [b1] at r2
  simp only [Option.bind_some, psh_u] at r2
  rw [E256_9 hM, mt] at r2
  generalize hI1 : (if an < 0 then G' else up2 (up2 G' 67 1 ((I 67 1 + 1) % 9)) 67 2 (addZ (I 67 2))) = I1 at r1 r2
  simp only [Option.bind_some, psh_i] at r2
  have bE := b6
  have s27 : setR B 438 (takesS (cfM I) (I 438) q).2 427 = B 427 := setR_oth (by decide)
  rcases av with ⟨e, e2⟩ | ⟨e, kk, hq2, e3, e4, e5⟩
  · rw [E256_18 hM, w_small (z := at_) (by omega) (by omega), if_pos e] at r2
    obtain ⟨n, f, n0, n1, td, md⟩ := TM_of tR
    refine ⟨_, _, _, r1, ?_, (b6 (setR B 438 (takesS (cfM I) (I 438) q).2) (fun x _ _ _ _ => rfl) (fun k hk => by rw [s27]; exact b4 k (by omega)) ⟨n, f, n0, n1, TD_congr td (by rw [k3 e, g3 3 (by omega)]) (by rw [k3 e, g3 4 (by omega)]), MD_congr md (by rw [s27]; exact b4 1 (by decide)) (by rw [setR_oth (by decide)]; exact b5)⟩).1 (by rw [← han, if_pos e]; exact e)⟩
    rw [r2, ← han, if_pos e]
  · have pb := pAt_b (q := q) (k := kk) hq2.1 (by omega)
    have c1 := (hD.2.1.1.1 q hq2.1 (by omega)).1
    unfold cntsOK at c1
    have cp := (hD.2.1.1.1 q hq2.1 (by omega)).2.2 kk e4 e5
    rw [← e3] at cp
    have sv : ∀ j, at_ ≤ j → j < at_ + 5 → setR B 438 (takesS (cfM I) (I 438) q).2 438 j = I 438 j := fun j j0 j1 => by
      rw [setR_same, takesS_eq, if_pos hq2, if_neg (by omega)]
      show takR (I 438) q j = I 438 j
      unfold takR; rw [updR_miss (by omega), updR_miss (by omega)]
    have b2' := hB.1 (at_ + 2)
    have b3' := hB.1 (at_ + 3)
    have b4' := hB.1 (at_ + 4)
    rw [E256_18 hM, w_small (z := at_) (by omega) (by omega), if_neg (by omega), w_small (z := at_ + 2) (by omega) (by omega), gdR_pos (by omega), sv _ (by omega) (by omega), w_small (z := I 438 (at_ + 2)) (by omega) (by omega)] at r2
    generalize hE0 : up2 (setR B 438 (takesS (cfM I) (I 438) q).2) 427 1 0 = E0 at r2
    have x0 : MD E0 0 (fun _ => 0) := by rw [← hE0]; exact ⟨up2_hit rfl rfl, fun j j0 j1 => by omega⟩
    have y0 : ∀ x, x ≠ 427 → E0 x = setR B 438 (takesS (cfM I) (I 438) q).2 x := fun x hx => by rw [← hE0, up2_oth hx]
    have z0 : ∀ k, k ≠ 1 → E0 427 k = B 427 k := fun k hk => by rw [← hE0, up2_miss (by omega), s27]
    obtain ⟨E1, m1, x1, z1, y1⟩ := m_ent (d := d + 99) (S := S) (x := I 438 (at_ + 2)) hM x0 (by decide) (by decide)
    rw [m1] at r2
    simp only [Option.bind_some, psh_u] at r2
    have q1 : E1 438 = setR B 438 (takesS (cfM I) (I 438) q).2 438 := by rw [y1 438 (by decide) (by decide), y0 438 (by decide)]
    rw [E256_43 hM, w_small (z := at_ + 3) (by omega) (by omega), gdR_pos (by omega), q1, sv _ (by omega) (by omega), w_small (z := I 438 (at_ + 3)) (by omega) (by omega)] at r2
    obtain ⟨E2, m2, x2, z2, y2⟩ := m_ent (d := d + 99) (S := S) (x := I 438 (at_ + 3)) hM x1 (by decide) (by decide)
    rw [m2] at r2
    simp only [Option.bind_some, psh_u] at r2
    have q2 : E2 438 = setR B 438 (takesS (cfM I) (I 438) q).2 438 := by rw [y2 438 (by decide) (by decide), q1]
    rw [E256_56 hM, w_small (z := at_ + 4) (by omega) (by omega), gdR_pos (by omega), q2, sv _ (by omega) (by omega), w_small (z := I 438 (at_ + 4)) (by omega) (by omega)] at r2
    obtain ⟨E3, m3, x3, z3, y3⟩ := m_ent (d := d + 99) (S := S) (x := I 438 (at_ + 4)) hM x2 (by decide) (by decide)
    rw [m3] at r2
    simp only [Option.bind_some, psh_u] at r2
    have q3 : E3 438 = setR B 438 (takesS (cfM I) (I 438) q).2 438 := by rw [y3 438 (by decide) (by decide), q2]
    rw [E256_69 hM, Int.add_zero, w_small (z := at_) (by omega) (by omega), w_small (z := at_ + 1) (by omega) (by omega), gdR_pos (by omega), gdR_pos (by omega), q3, sv at_ (by omega) (by omega), sv (at_ + 1) (by omega) (by omega)] at r2
    have ex : ∀ x, x ≠ 427 → x ≠ 428 → x ≠ 432 → x ≠ 433 → E3 x = setR B 438 (takesS (cfM I) (I 438) q).2 x := fun x a0 a1 _ _ => by rw [y3 x a0 a1, y2 x a0 a1, y1 x a0 a1, y0 x a0]
    have ek : ∀ k, (k = 4 ∨ k = 36 ∨ k = 10 ∨ k = 14 ∨ k = 15 ∨ k = 22) → E3 427 k = I 427 k := fun k hk => by rw [z3 k (by omega), z2 k (by omega), z1 k (by omega), z0 k (by omega)]; exact b4 k (by omega)
    have nn : 0 ≤ 10 * I 438 at_ + I 438 (at_ + 1) := by omega
    obtain ⟨I2, l1, l2⟩ := (b6 E3 ex ek ⟨3, _, by decide, by decide, k4 e, x3⟩).2 (by rw [← han, if_neg (by omega)]; exact nn)
    have ie : 10 * I 438 at_ + I 438 (at_ + 1) = an := by rw [← han, if_neg (by omega)]
    rw [ie, l1] at r2
    simp only [Option.bind_some, psh_i] at r2
    rw [E256_93] at r2
    exact ⟨_, _, I2, r1, r2, l2⟩
end r75
