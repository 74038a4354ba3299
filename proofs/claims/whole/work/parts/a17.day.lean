/-! day -/
section ra17
variable {d : Nat} {S : SS} {I J K G I2 : II} {t u : Int → Int} {L p q r b s c ok v n a k N lo hi x : Int} {C : CF} {Q : KF} {ρ σ : RW}
theorem ST_tx (h : ST N J) (hx : ∀ x, x ≠ 1 → x ≠ 427 → ¬ (441 ≤ x ∧ x ≤ 445) → K x = J x) (hk : ∀ k, k ≠ 4 → K 427 k = J 427 k) (h1 : K 1 1 = 0) (h4 : K 427 4 = 0) : ST N K := by
  obtain ⟨tT, tR, tH, tD, tU, tP, tK, tB⟩ := h
  have hc : cfM K = cfM J := cfM_mem (hk 14 (by decide)) (hx 434 (by decide) (by decide) (by decide)) (hx 435 (by decide) (by decide) (by decide)) (hx 436 (by decide) (by decide) (by decide)) (hx 437 (by decide) (by decide) (by decide))
  have lo : ∀ x, 5 ≤ x → x < 427 → K x = J x := fun x x0 x1 => hx x (by omega) (by omega) (by omega)
  exact ⟨cT_0 h1 h4, cR_mem tR (hx 3 (by decide) (by decide) (by decide)) (hx 4 (by decide) (by decide) (by decide)) (hx 428 (by decide) (by decide) (by decide)) (hk 1 (by decide)), cH_mem tH (lo 424 (by decide) (by decide)) (lo 425 (by decide) (by decide)) (lo 426 (by decide) (by decide)) (hx 448 (by decide) (by decide) (by decide)) (hx 449 (by decide) (by decide) (by decide)) (hk 36 (by decide)), cD_mem tD hc (hx 438 (by decide) (by decide) (by decide)) (fun x x0 x1 => lo x x0 (by omega)), cU_mem tU (lo 412 (by decide) (by decide)) (lo 413 (by decide) (by decide)) (hx 430 (by decide) (by decide) (by decide)) (hk 10 (by decide)), cP_mem tP hc (fun k => by rw [lo 67 (by decide) (by decide)]) (hk 22 (by decide)) (hx 440 (by decide) (by decide) (by decide)) (fun x x0 x1 => lo x (by omega) (by omega)), cK_mem tK (hk 14 (by decide)) (hk 15 (by decide)) (hx 434 (by decide) (by decide) (by decide)) (hx 435 (by decide) (by decide) (by decide)) (hx 436 (by decide) (by decide) (by decide)) (hx 437 (by decide) (by decide) (by decide)) (hx 452 (by decide) (by decide) (by decide)) (lo 70 (by decide) (by decide)) (hx 453 (by decide) (by decide) (by decide)) (hx 454 (by decide) (by decide) (by decide)) (fun x x0 x1 => lo x (by omega) (by omega)), cB_mem tB (hx 438 (by decide) (by decide) (by decide)) (hx 439 (by decide) (by decide) (by decide)) (hx 440 (by decide) (by decide) (by decide)) (hx 454 (by decide) (by decide) (by decide))⟩
theorem call_day (hS : SH S) (h : ST N I) (hN0 : 100 ≤ N) (hN : N < 66000000) : ∃ r I1 I2, ev (d + 100) 155 0 [(2, 0), uU, uU, uU, uU, uU] [] S I = some ((0, r), S, I1) ∧ ev (d + 100) 267 0 [(2, 427), uU] [] S I1 = some ((0, r), S, I2) ∧ ST (N + 120000) I2 := by
  obtain ⟨hQ, hM⟩ := hS
  have h2 := h
  obtain ⟨⟨t0, t1, t2, t3⟩, tR, _, ⟨hk, hD⟩, ⟨hKF, hRu⟩, ⟨p0, p1, p2, p3, p4, _⟩, _, hB⟩ := h2
  have ht : ∀ j, 0 ≤ j → j < I 1 1 → 0 ≤ I 429 j ∧ I 429 j < 256 := fun j j0 j1 => by rw [(t3 j j0 j1).1]; exact (t3 j j0 j1).2
  obtain ⟨f, m, b1, b2, b3, b4, b5⟩ := both_day (d := d + 95) (e := d + 91) (S := S) (I := I) (t := I 429) (n := I 1 1) hQ hM rfl (fun j j0 j1 => (t3 j j0 j1).1.symm) t0 t1 ht (I 1 1).toNat 0 0 uU uU (Int.le_refl _) t0 (Int.le_refl _) (Int.le_refl _) (by omega)
  -- the reference's beginning, from any memory with this text
  have ref : ∀ A : II, A 429 = I 429 → A 427 4 = I 427 4 → ∃ K, (∀ x, x ≠ 427 → ¬ (441 ≤ x ∧ x ≤ 445) → K x = A x) ∧ (∀ i, i ≠ 0 → i ≠ 4 → i ≠ 5 → i ≠ 6 → i ≠ 7 → i ≠ 32 → K 427 i = A 427 i) ∧ K 427 4 = 0 ∧ (0 ≤ f → ev (d + 100) 267 0 [(2, 427), uU] [] S A = some ((0, -1 - f), S, K)) ∧ (f = -1 → ev (d + 100) 267 0 [(2, 427), uU] [] S A = (ev (d + 99) 217 0 [(2, 427), uU] [] S K).bind (fun q => ev (d + 100) 267 46 [(2, 427), uU] (psh q.1 []) q.2.1 q.2.2) ∧ K 427 32 = 0 + m ∧ RECS K (I 429) m 0 0) := by
    intro A a1 a2
    generalize hJ : up2 (up2 (up2 (up2 (up2 (up2 A 427 0 0) 427 4 0) 427 5 0) 427 7 0) 427 6 (I 1 1)) 427 32 0 = J
    have e0 : ev (d + 100) 267 0 [(2, 427), uU] [] S A = ev (d + 100) 267 17 [(2, 427), uU] [] S J := by
      have x4 : up2 A 427 0 0 427 4 = I 1 1 := by rw [up2_miss (by decide), a2]; exact t2
      rw [E267_0 hM, E195_0 hM, x4, w_small (z := I 1 1) (by omega) (by omega), show w 80 = 80 by decide]
      simp only [Option.bind_some, psh_i]
      rw [E267_11 hM, if_neg (by omega), hJ]
    have jo : ∀ x, x ≠ 427 → J x = A x := fun x hx => by rw [← hJ, up2_oth hx, up2_oth hx, up2_oth hx, up2_oth hx, up2_oth hx, up2_oth hx]
    have jk : ∀ i, i ≠ 0 → i ≠ 4 → i ≠ 5 → i ≠ 6 → i ≠ 7 → i ≠ 32 → J 427 i = A 427 i := fun i i0 i1 i2 i3 i4 i5 => by rw [← hJ]; simp (disch := omega) only [up2_miss]
    have j4 : J 427 4 = 0 := by rw [← hJ]; simp (disch := omega) only [up2_miss, up2_hit]
    have j5 : J 427 5 = 0 := by rw [← hJ]; simp (disch := omega) only [up2_miss, up2_hit]
    have j6 : J 427 6 = I 1 1 := by rw [← hJ]; simp (disch := omega) only [up2_miss, up2_hit]
    have j32 : J 427 32 = 0 := by rw [← hJ]; simp (disch := omega) only [up2_miss, up2_hit]
    obtain ⟨K, k1, k2, k3, k4, k5⟩ := b5 J j5 j6 j32 (by rw [jo 429 (by decide)]; exact a1)
    refine ⟨K, fun x x0 x1 => by rw [k1 x x0 x1, jo x x0], fun i i0 i1 i2 i3 i4 i5 => by rw [k2 i i2 i5, jk i i0 i1 i2 i3 i4 i5], by rw [k2 4 (by decide) (by decide)]; exact j4, fun x => by rw [e0]; exact k4 x, fun x => ?_⟩
    obtain ⟨y1, y2, y3, y4⟩ := k5 x
    refine ⟨?_, y3, y4⟩
    have y1' : ev (d + 100) 267 17 [(2, 427), uU] [] S J = ev (d + 100) 267 17 [(2, 427), uU] [] S K := y1
    rw [e0, y1', E267_17 hM, y2, k2 6 (by decide) (by decide), j6, if_neg (Int.lt_irrefl _)]
  have e1 := E155_0 (d := d + 99) (S := S) (I := I) hQ
  have b1' : ev (d + 99) 156 2 [(2, 0), (0, 0), uU, uU] [] S I = some ((0, f), S, I) := b1
  rw [E156_0, b1'] at e1
  simp only [Option.bind_some, psh_i] at e1
  rw [E155_4 hQ, w_small (z := f) (by omega) (by omega)] at e1
  by_cases gf : 0 ≤ f
  · rw [if_neg (by omega), E137_0 (TA1 hQ)] at e1
    simp only [Option.bind_some, psh_u] at e1
    rw [E155_16] at e1
    obtain ⟨K, k1, k2, k3, k4, _⟩ := ref (up2 I 1 1 0) (up2_oth (by decide)) (by rw [up2_oth (by decide)])
    have zo : ∀ x, x ≠ 427 → ¬ (441 ≤ x ∧ x ≤ 445) → x ≠ 1 → K x = I x := fun x h1 h2 h3 => by rw [k1 x h1 h2, up2_oth h3]
    have zk : ∀ i, i ≠ 0 → i ≠ 4 → i ≠ 5 → i ≠ 6 → i ≠ 7 → i ≠ 32 → K 427 i = I 427 i := fun i i0 i1 i2 i3 i4 i5 => by rw [k2 i i0 i1 i2 i3 i4 i5, up2_oth (by decide)]
    refine ⟨-1 - f, _, K, e1, k4 gf, ST_le (M := N + 120000) (ST_mk h (cT_0 ?_ k3) (cR_mem tR (zo 3 (by decide) (by decide) (by decide)) (zo 4 (by decide) (by decide) (by decide)) (zo 428 (by decide) (by decide) (by decide)) (zk 1 (by decide) (by decide) (by decide) (by decide) (by decide) (by decide))) (cU_mem h.2.2.2.2.1 (zo 412 (by decide) (by decide) (by decide)) (zo 413 (by decide) (by decide) (by decide)) (zo 430 (by decide) (by decide) (by decide)) (zk 10 (by decide) (by decide) (by decide) (by decide) (by decide) (by decide))) (fun x h1 h2 h3 h4 h5 h6 => zo x (by omega) (by omega) h2) (fun k hk => zk k (by omega) (by omega) (by omega) (by omega) (by omega) (by omega)) (fun x hx => zo x (by omega) (by omega) (by omega)) ?_) (by omega)⟩
    · rw [k1 1 (by decide) (by decide)]; exact up2_hit rfl rfl
    · rw [zo 439 (by decide) (by decide) (by decide)]; exact BdN_le hB.2.1 (by omega)
  have fm : f = -1 := by omega
  obtain ⟨hV, hm⟩ := b4 fm
  obtain ⟨G, g1, g2, g3, g4, g5⟩ := act_beg (S := S) (d + 97) hQ h
  rw [if_pos (by omega), g1] at e1
  simp only [Option.bind_some, psh_u] at e1
  rw [E155_31] at e1
  have G1 : G 1 = I 1 := g3 1 (by omega)
  have G2 : G 2 = I 2 := g3 2 (by omega)
  have rG : RuleR G 412 (kfM I) := by unfold RuleR at *; rw [g3 412 (by omega), g3 (412 + 1) (by omega)]; exact hRu
  obtain ⟨H, p', i', c1, c2, c3⟩ := c_dy (d := d + 79) (S := S) (a1 := f) (n := I 1 1) (t := I 429) hQ t0 t1 ht hk hKF m 0 0 0 N (I 438) G hV (by rw [G1]) (fun j j0 j1 => by rw [G2]; exact (t3 j j0 j1).1.symm) rG g4 hD.2.1 hD.2.2 hN0 hB.1 (by omega) (Int.le_refl _) (Int.le_refl _) t0 (Int.le_refl _) (Int.le_refl _)
  obtain ⟨w1, w2, w3⟩ := dyS_WF (Q := kfM I) (n := I 1 1) (t := I 429) hk m 0 N (I 438) hV hD.2.1 hD.2.2 hN0 hB.1 (by omega) t0
  obtain ⟨db0, db1, db2⟩ := dyS_b (Q := kfM I) (C := cfM I) (t := I 429) m 0 (I 438)
  have md := fun (P : II) (h1 : RECS P (I 429) m 0 0) (h2 : P 427 32 = 0 + m) (h3 : cfM P = cfM I) (h4 : kfM P = kfM I) (h5 : P 438 = I 438) => m_dy (d := d + 79) (S := S) (n := I 1 1) (t := I 429) hM t0 t1 hk hKF m 0 0 N (I 438) P hV h1 h2 h3 h4 h5 hD.2.1 hD.2.2 hN0 hB.1 (by omega) t0 (Int.le_refl _) (by omega)
  generalize hdn : (dyS (kfM I) (cfM I) (I 429) m 0 (I 438)).1 = dn at *
  generalize hrf : (dyS (kfM I) (cfM I) (I 429) m 0 (I 438)).2.1 = rfb at *
  generalize hσ : (dyS (kfM I) (cfM I) (I 429) m 0 (I 438)).2.2 = σ at *
  rw [Int.zero_add] at c1
  have c1' : ev (d + 100) 155 41 [(2, 0), (0, f), (0, 0), (0, 0), (0, 0), (0, 0)] [] S G = ev (d + 100) 155 108 [(2, 0), (0, f), (0, dn), (0, if rfb = true then 1 else 0), (0, p'), (0, i')] [] S H := c1
  rw [c1'] at e1
  have rfv : (if rfb = true then (1 : Int) else 0) = if dn < m then 1 else 0 := by
    by_cases g : rfb = true
    · rw [if_pos g, if_pos (db2.mp g)]
    · rw [if_neg g, if_neg (fun x => g (db2.mpr x))]
  have rfc : (if rfb = true then (1 : Int) else 0) = 0 ∨ (if rfb = true then (1 : Int) else 0) = 1 := by split <;> omega
  generalize hrv : (if rfb = true then (1 : Int) else 0) = rv at *
  have H67 : H 67 = I 67 := by rw [c3 67 (by omega) (by decide) (by decide) (by decide) (by decide), g5]
  obtain ⟨av, hav⟩ : ∃ av : Int, av = if 0 < dn then dn else -1 := ⟨_, rfl⟩
  have avb : isI av ∧ (av < 0 ↔ ¬ 0 < dn) := by
    rw [hav]
    by_cases g : 0 < dn
    · rw [if_pos g]; exact ⟨⟨by omega, by omega⟩, by omega⟩
    · rw [if_neg g]; exact ⟨⟨by decide, by decide⟩, by omega⟩
  have e108 : ev (d + 100) 155 108 [(2, 0), (0, f), (0, dn), (0, rv), (0, p'), (0, i')] [] S H = ev (d + 100) 155 121 [(2, 0), (0, f), (0, dn), (0, rv), (0, p'), (0, i')] [(0, av), (2, 67)] S H := by
    rw [E155_108 hQ, w_small (z := dn) (by omega) (by omega), hav]
    by_cases g : 0 < dn
    · rw [if_pos g, if_pos g]
    · rw [if_neg g, if_neg g]
  rw [e108, E155_121 (PA67 hQ), c_seal hQ (by rw [H67]; exact p0) (by rw [H67]; exact p1) (by rw [H67]; exact p2) (by rw [H67]; exact p3) avb.1, H67] at e1
  simp only [Option.bind_some, psh_i] at e1
  generalize hH1 : (if av < 0 then H else up2 (up2 H 67 1 ((I 67 1 + 1) % 9)) 67 2 (addZ (I 67 2))) = H1 at e1
  have h1o : ∀ x, x ≠ 67 → H1 x = H x := fun x hx => by
    rw [← hH1]; split
    · rfl
    · rw [up2_oth hx, up2_oth hx]
  have h67 : (H1 67 1 = if 0 < dn then (I 67 1 + 1) % 9 else I 67 1) ∧ (H1 67 2 = if 0 < dn then addZ (I 67 2) else I 67 2) := by
    rw [← hH1]
    by_cases g : 0 < dn
    · rw [if_neg (fun x => avb.2.mp x g), if_pos g, if_pos g]
      exact ⟨by rw [up2_miss (by decide)]; exact up2_hit rfl rfl, up2_hit rfl rfl⟩
    · rw [if_pos (avb.2.mpr g), if_neg g, if_neg g, H67]
      exact ⟨rfl, rfl⟩
  have e124 : ev (d + 100) 155 124 [(2, 0), (0, f), (0, dn), (0, rv), (0, p'), (0, i')] [(0, av)] S H1 = ev (d + 100) 155 138 [(2, 0), (0, f), (0, dn), (0, rv), (0, p'), (0, i')] [(1, rv), (2, 3)] S H1 := by
    rw [E155_124 hQ, w_small (z := rv) (by omega) (by omega)]
    rcases rfc with g | g
    · rw [g, if_pos rfl]
    · rw [g, if_neg (by decide)]
  have tick : H1 5 7 = σ 827 := by rw [h1o 5 (by decide)]; exact c2.1.2.2.1
  obtain ⟨A, a1, a2, a3⟩ := c_tell2 (d := d + 97) (S := S) (I := H1) (x := rv) (y := w (σ 827)) (RA3 hQ)
  have e124' : ev (d + 99 + 1) 155 124 [(2, 0), (0, f), (0, dn), (0, rv), (0, p'), (0, i')] [(0, av)] S H1 = ev (d + 99 + 1) 155 138 [(2, 0), (0, f), (0, dn), (0, rv), (0, p'), (0, i')] [(1, rv), (2, 3)] S H1 := e124
  rw [e124', E155_138 hQ (RA3 hQ), tick, a1] at e1
  simp only [Option.bind_some, psh_u] at e1
  rw [E155_149 hQ, E137_0 (TA1 hQ)] at e1
  simp only [Option.bind_some, psh_u] at e1
  rw [E155_156] at e1
  generalize hA1 : up2 A 1 1 0 = A1 at e1
  have ao : ∀ x, x ≠ 1 → x ≠ 3 → x ≠ 4 → x ≠ 67 → A1 x = H x := fun x x1 x3 x4 x67 => by rw [← hA1, up2_oth x1, a3 x x3 x4, h1o x x67]
  have aI : ∀ x, x ≠ 1 → x ≠ 3 → x ≠ 4 → x ≠ 67 → ¬ (5 ≤ x ∧ x < 36) → x ≠ 416 → x ≠ 417 → ¬ (71 + 31 * I 67 1 ≤ x ∧ x < 71 + 31 * I 67 1 + 31) → A1 x = I x := fun x x1 x3 x4 x67 x5 x6 x7 x8 => by rw [ao x x1 x3 x4 x67, c3 x x5 x3 x4 x6 x7, g3 x (by omega)]
  have aHi : ∀ x, 424 ≤ x → A1 x = I x := fun x hx => aI x (by omega) (by omega) (by omega) (by omega) (by omega) (by omega) (by omega) (by omega)
  -- the reference
  obtain ⟨K, k1, k2, k3, _, k5⟩ := ref A1 (aHi 429 (by decide)) (by rw [aHi 427 (by decide)])
  obtain ⟨k6, k7, k8⟩ := k5 fm
  have kI : ∀ x, 424 ≤ x → x ≠ 427 → ¬ (441 ≤ x ∧ x ≤ 445) → K x = I x := fun x h0 h1 h2 => by rw [k1 x h1 h2, aHi x h0]
  have kk : ∀ i, i ≠ 0 → i ≠ 4 → i ≠ 5 → i ≠ 6 → i ≠ 7 → i ≠ 32 → K 427 i = I 427 i := fun i i0 i1 i2 i3 i4 i5 => by rw [k2 i i0 i1 i2 i3 i4 i5, aHi 427 (by decide)]
  have k22 : K 427 22 = I 67 2 := by rw [kk 22 (by decide) (by decide) (by decide) (by decide) (by decide) (by decide)]; exact p4
  rw [m_putsBy hM (by rw [k22]; exact p2) (by rw [k22]; exact p3), k22, kI 440 (by decide) (by decide) (by decide), kI 438 (by decide) (by decide) (by decide)] at k6
  simp only [Option.bind_some, psh_u] at k6
  generalize hP : setR K 440 (putU (I 440) (I 438) (I 67 2)) = P at k6
  have po : ∀ x, x ≠ 440 → P x = K x := fun x hx => by rw [← hP, setR_oth hx]
  have p40 : P 440 = putU (I 440) (I 438) (I 67 2) := by rw [← hP]; exact setR_same
  obtain ⟨X, x1, x2, x3, x4⟩ := md P (RECS_congr m 0 0 k8 (fun x y0 y1 j _ => by rw [po x (by omega)])) (by rw [po 427 (by decide)]; exact k7) (cfM_mem (by rw [po 427 (by decide)]; exact kk 14 (by decide) (by decide) (by decide) (by decide) (by decide) (by decide)) (by rw [po 434 (by decide)]; exact kI 434 (by decide) (by decide) (by decide)) (by rw [po 435 (by decide)]; exact kI 435 (by decide) (by decide) (by decide)) (by rw [po 436 (by decide)]; exact kI 436 (by decide) (by decide) (by decide)) (by rw [po 437 (by decide)]; exact kI 437 (by decide) (by decide) (by decide))) (by unfold kfM; rw [po 430 (by decide), po 427 (by decide), kI 430 (by decide) (by decide) (by decide), kk 10 (by decide) (by decide) (by decide) (by decide) (by decide) (by decide)]) (by rw [po 438 (by decide)]; exact kI 438 (by decide) (by decide) (by decide))
  have x1' : ev (d + 100) 267 48 [(2, 427), (0, 0)] [] S P = ev (d + 100) 267 70 [(2, 427), (0, dn)] [] S X := by
    have x1b := x1
    rw [Int.zero_add] at x1b
    exact x1b
  have x32 : X 427 32 = m := by rw [x3 32 (by decide) (by decide) (by decide), po 427 (by decide), k7]; omega
  have e70 : ev (d + 100) 267 70 [(2, 427), (0, dn)] [] S X = ev (d + 100) 267 89 [(2, 427), (0, dn)] [(0, rv), (2, 427)] S (up2 X 427 1 0) := by
    rw [E267_70 hM, x32, w_small (z := dn) (by omega) (by omega), w_small (z := (m : Int)) (by omega) (by omega), rfv]
    by_cases g : dn < m
    · rw [if_pos g, if_pos g]
    · rw [if_neg g, if_neg g]
  generalize hgg : updR (updR (fun _ => 0) 0 rv) 1 (w (σ 827)) = gg at a2
  have gg0 : gg 0 = rv := by rw [← hgg]; rfl
  have gg1 : gg (0 + 1) = w (σ 827) := by rw [← hgg]; rfl
  obtain ⟨P1, q1, q2, q3⟩ := m_next (d := d + 99) (S := S) (I := up2 X 427 1 0) (g := gg) (n := 0) (x := rv) hM MD_0 (by decide) (by decide) gg0.symm
  obtain ⟨P2, r1, r2, r3⟩ := m_next (d := d + 99) (S := S) (I := P1) (g := gg) (n := 0 + 1) (x := w (σ 827)) hM q2 (by decide) (by decide) gg1.symm
  have p1s : P1 438 = σ := by rw [q3.2 438 (by decide) (by decide), up2_oth (by decide)]; exact x2
  have po2 : ∀ x, x ≠ 427 → x ≠ 428 → P2 x = X x := fun x h1 h2 => by rw [r3.2 x h1 h2, q3.2 x h1 h2, up2_oth h1]
  have pk2 : ∀ i, i ≠ 1 → P2 427 i = X 427 i := fun i h1 => by rw [r3.1 i h1, q3.1 i h1, up2_miss (by omega)]
  have P22 : P2 427 22 = I 67 2 := by rw [pk2 22 (by decide), x3 22 (by decide) (by decide) (by decide), po 427 (by decide)]; exact k22
  have P40 : P2 440 = putU (I 440) (I 438) (I 67 2) := by rw [po2 440 (by decide) (by decide), x4 440 (by decide) (by decide) (by decide) (by decide)]; exact p40
  obtain ⟨Y, hY⟩ : ∃ Y : II, Y = if 0 < dn then up2 (setR P2 440 (addU (putU (I 440) (I 438) (I 67 2)) (I 67 2))) 427 22 (addZ (I 67 2)) else P2 := ⟨_, rfl⟩
  have eR : ev (d + 100) 267 0 [(2, 427), uU] [] S A1 = some ((0, dn), S, Y) := by
    rw [k6, E267_46, x1', e70, E267_89, m_flag rfc]
    simp only [Option.bind_some, psh_i]
    rw [E267_92 hM, w_small (z := rv) (by omega) (by omega), q1]
    simp only [Option.bind_some, psh_u]
    rw [E267_96 hM, p1s, r1]
    simp only [Option.bind_some, psh_u]
    rw [E267_109 hM, w_small (z := dn) (by omega) (by omega)]
    by_cases g : 0 < dn
    · rw [if_pos g, m_adds hM (by rw [P22]; exact p2) (by rw [P22]; exact p3), P22, P40]
      simp only [Option.bind_some, psh_i]
      rw [E267_118, E267_122, hY, if_pos g]
    · rw [if_neg g, E267_122, hY, if_neg g, show dn = 0 by omega]
  have yo : ∀ x, x ≠ 427 → x ≠ 440 → Y x = P2 x := fun x h1 h2 => by
    rw [hY]; split
    · rw [up2_oth h1, setR_oth h2]
    · rfl
  have yk : ∀ i, i ≠ 22 → Y 427 i = P2 427 i := fun i h1 => by
    rw [hY]; split
    · rw [up2_miss (by omega), setR_oth (by decide)]
    · rfl
  have y40 : Y 440 = if 0 < dn then addU (putU (I 440) (I 438) (I 67 2)) (I 67 2) else putU (I 440) (I 438) (I 67 2) := by
    rw [hY]
    by_cases g : 0 < dn
    · rw [if_pos g, if_pos g, up2_oth (by decide), setR_same]
    · rw [if_neg g, if_neg g]; exact P40
  have y22 : Y 427 22 = if 0 < dn then addZ (I 67 2) else I 67 2 := by
    rw [hY]
    by_cases g : 0 < dn
    · rw [if_pos g, if_pos g, up2_hit rfl rfl]
    · rw [if_neg g, if_neg g]; exact P22
  have ya : ∀ x, x ≠ 427 → x ≠ 428 → x ≠ 432 → x ≠ 433 → x ≠ 438 → x ≠ 440 → ¬ (441 ≤ x ∧ x ≤ 445) → Y x = A1 x := fun x h1 h2 h3 h4 h5 h6 h7 => by rw [yo x h1 h6, po2 x h1 h2, x4 x h5 h1 h3 h4, po x h6, k1 x h1 h7]
  have yki : ∀ i, i ≠ 0 → i ≠ 1 → i ≠ 4 → i ≠ 5 → i ≠ 6 → i ≠ 7 → i ≠ 22 → i ≠ 24 → i ≠ 25 → i ≠ 26 → i ≠ 32 → Y 427 i = I 427 i := fun i i0 i1 i4 i5 i6 i7 i22 i24 i25 i26 i32 => by rw [yk i i22, pk2 i i1, x3 i i24 i25 i26, po 427 (by decide), kk i i0 i4 i5 i6 i7 i32]
  have y4 : Y 427 4 = 0 := by rw [yk 4 (by decide), pk2 4 (by decide), x3 4 (by decide) (by decide) (by decide), po 427 (by decide)]; exact k3
  have y1 : Y 1 1 = 0 := by rw [ya 1 (by decide) (by decide) (by decide) (by decide) (by decide) (by decide) (by decide), ← hA1]; exact up2_hit rfl rfl
  -- at rest: first with THE TEXT and the acts as they were
  obtain ⟨Z, hZ⟩ : ∃ Z : II, Z = fun x => if x = 1 then I 1 else if 441 ≤ x ∧ x ≤ 445 then I x else if x = 427 then (fun k => if k = 4 then I 427 4 else Y 427 k) else Y x := ⟨_, rfl⟩
  have zY : ∀ x, x ≠ 1 → x ≠ 427 → ¬ (441 ≤ x ∧ x ≤ 445) → Z x = Y x := fun x h1 h2 h3 => by rw [hZ]; show (if x = 1 then I 1 else if 441 ≤ x ∧ x ≤ 445 then I x else if x = 427 then (fun k => if k = 4 then I 427 4 else Y 427 k) else Y x) = Y x; rw [if_neg h1, if_neg h3, if_neg h2]
  have zk : ∀ k, Z 427 k = if k = 4 then I 427 4 else Y 427 k := fun k => by rw [hZ]; rfl
  have z1 : Z 1 = I 1 := by rw [hZ]; rfl
  have zA : ∀ x, 441 ≤ x → x ≤ 445 → Z x = I x := fun x h1 h2 => by rw [hZ]; show (if x = 1 then I 1 else if 441 ≤ x ∧ x ≤ 445 then I x else if x = 427 then (fun k => if k = 4 then I 427 4 else Y 427 k) else Y x) = I x; rw [if_neg (by omega), if_pos ⟨h1, h2⟩]
  have st := act_ST (N := N + 20000) (I := I) (I2 := Z) (σ := σ) (ok := 0 < dn) (ST_le h (by omega)) w1 w2 (BdN_le w3 (by omega))
    (RelD_mem c2 w1.1 (fun x h0 h1 => by rw [zY x (by omega) (by omega) (by omega), ya x (by omega) (by omega) (by omega) (by omega) (by omega) (by omega) (by omega), ao x (by omega) (by omega) (by omega) (by omega)]))
    (GD_mem g2 (fun x h0 h1 => by rw [zY x (by omega) (by omega) (by omega), ya x (by omega) (by omega) (by omega) (by omega) (by omega) (by omega) (by omega), ao x (by omega) (by omega) (by omega) (by omega), c3 x (by omega) (by omega) (by omega) (by omega) (by omega)]))
    (fun x h0 h1 h2 h3 h4 h5 h6 h7 _ _ => by
      by_cases e : x = 1
      · subst e; exact z1
      · rw [zY x e (by omega) (by omega), ya x (by omega) (by omega) (by omega) (by omega) (by omega) (by omega) (by omega), aI x e h4 h5 h3 h1 h6 h7 h2])
    (by rw [zY 67 (by decide) (by decide) (by decide), ya 67 (by decide) (by decide) (by decide) (by decide) (by decide) (by decide) (by decide), ← hA1, up2_oth (by decide), a3 67 (by decide) (by decide)]; exact h67.1)
    (by rw [zY 67 (by decide) (by decide) (by decide), ya 67 (by decide) (by decide) (by decide) (by decide) (by decide) (by decide) (by decide), ← hA1, up2_oth (by decide), a3 67 (by decide) (by decide)]; exact h67.2)
    (fun x h0 h1 h2 h3 h4 h5 => by
      by_cases e : 441 ≤ x ∧ x ≤ 445
      · exact zA x e.1 e.2
      · rw [zY x (by omega) (by omega) e, ya x (by omega) h1 h4 h5 h2 h3 e, aHi x (by omega)])
    (by rw [zY 438 (by decide) (by decide) (by decide), yo 438 (by decide) (by decide), po2 438 (by decide) (by decide)]; exact x2)
    (by rw [zY 440 (by decide) (by decide) (by decide)]; exact y40)
    (fun k hk => by
      rw [zk k]
      by_cases e : k = 4
      · rw [if_pos e, e]
      · rw [if_neg e, yki k (by omega) (by omega) (by omega) (by omega) (by omega) (by omega) (by omega) (by omega) (by omega) (by omega) (by omega)])
    (by rw [zk 22, if_neg (by decide), y22, zY 67 (by decide) (by decide) (by decide), ya 67 (by decide) (by decide) (by decide) (by decide) (by decide) (by decide) (by decide), ← hA1, up2_oth (by decide), a3 67 (by decide) (by decide), h67.2])
    (cR_of (f := gg) (n := 2) (TD_congr a2 (by rw [zY 3 (by decide) (by decide) (by decide), ya 3 (by decide) (by decide) (by decide) (by decide) (by decide) (by decide) (by decide), ← hA1, up2_oth (by decide)]) (by rw [zY 4 (by decide) (by decide) (by decide), ya 4 (by decide) (by decide) (by decide) (by decide) (by decide) (by decide) (by decide), ← hA1, up2_oth (by decide)]))
      (MD_congr r2 (by rw [zk 1, if_neg (by decide), yk 1 (by decide)]) (by rw [zY 428 (by decide) (by decide) (by decide), yo 428 (by decide) (by decide)])) (by decide) (by decide))
  refine ⟨dn, A1, Y, e1, eR, ST_tx (J := Z) (by rw [show N + 120000 = N + 20000 + 100000 by omega]; exact st) (fun x h1 h2 h3 => (zY x h1 h2 h3).symm) (fun k hk => by rw [zk k, if_neg hk]) y1 y4⟩
end ra17
