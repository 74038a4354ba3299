/-! calls that only look: bells, recall, served, running, outbox, waiting; the texts' and what was heard */ -/
section r77
variable {d : Nat} {S : SS} {I J G I2 : II} {C : CF} {ρ σ τ : RW} {b a q id k c v x n N M : Int}
theorem rd_ST (h : ST N I) (hx : ∀ x, x < 427 → x ≠ 3 → x ≠ 4 → ¬ (36 ≤ x ∧ x < 67) → x ≠ 416 → x ≠ 417 → ¬ (418 ≤ x ∧ x < 424) → I2 x = I x) (hk : ∀ k, (k = 4 ∨ k = 36 ∨ k = 10 ∨ k = 14 ∨ k = 15 ∨ k = 22) → I2 427 k = I 427 k) (hy : ∀ x, (x = 429 ∨ x = 430 ∨ 434 ≤ x ∧ x ≤ 438 ∨ x = 440 ∨ x = 448 ∨ x = 449 ∨ 452 ≤ x ∧ x ≤ 454) → I2 x = I x) (hR : cR I2) (hB : BdN (N + 100000) (I2 439)) : ST (N + 100000) I2 := by
  obtain ⟨tT, tR, tH, tD, tU, tP, tK, tB⟩ := h
  have lo : ∀ x, x < 36 → x ≠ 3 → x ≠ 4 → I2 x = I x := fun x x0 x1 x2 => hx x (by omega) x1 x2 (by omega) (by omega) (by omega) (by omega)
  have mi : ∀ x, 67 ≤ x → x < 416 → I2 x = I x := fun x x0 x1 => hx x (by omega) (by omega) (by omega) (by omega) (by omega) (by omega) (by omega)
  have up : ∀ x, 424 ≤ x → x < 427 → I2 x = I x := fun x x0 x1 => hx x x1 (by omega) (by omega) (by omega) (by omega) (by omega) (by omega)
  have hc : cfM I2 = cfM I := cfM_mem (hk 14 (by omega)) (hy 434 (by omega)) (hy 435 (by omega)) (hy 436 (by omega)) (hy 437 (by omega))
  have tB2 := cB_le tB (show N ≤ N + 100000 by omega)
  refine ⟨cT_mem tT (lo 1 (by decide) (by decide) (by decide)) (lo 2 (by decide) (by decide) (by decide)) (hy 429 (by omega)) (hk 4 (by omega)), hR, cH_mem tH (up 424 (by decide) (by decide)) (up 425 (by decide) (by decide)) (up 426 (by decide) (by decide)) (hy 448 (by omega)) (hy 449 (by omega)) (hk 36 (by omega)), cD_mem tD hc (hy 438 (by omega)) (fun x x0 x1 => lo x x1 (by omega) (by omega)), cU_mem tU (mi 412 (by decide) (by decide)) (mi 413 (by decide) (by decide)) (hy 430 (by omega)) (hk 10 (by omega)), cP_mem tP hc (fun k => by rw [mi 67 (by decide) (by decide)]) (hk 22 (by omega)) (hy 440 (by omega)) (fun x x0 x1 => mi x (by omega) (by omega)), cK_mem tK (hk 14 (by omega)) (hk 15 (by omega)) (hy 434 (by omega)) (hy 435 (by omega)) (hy 436 (by omega)) (hy 437 (by omega)) (hy 452 (by omega)) (mi 70 (by decide) (by decide)) (hy 453 (by omega)) (hy 454 (by omega)) (fun x x0 x1 => mi x (by omega) (by omega)), ?_⟩
  unfold cB
  rw [hy 438 (by omega), hy 440 (by omega), hy 454 (by omega)]
  exact ⟨tB2.1, hB, tB2.2.2.1, tB2.2.2.2⟩
/-- only what is told is another */ -/
theorem tl_ST {f : RW} (h : ST N I) (t1 : TF I J) (t2 : TD J n f) (r1 : ∀ x, x ≠ 427 → x ≠ 428 → I2 x = J x) (r2 : ∀ k, k ≠ 0 → k ≠ 1 → I2 427 k = J 427 k) (r3 : MD I2 n f) (n0 : 0 ≤ n) (n1 : n ≤ 12) : ST (N + 100000) I2 := by
  have e : ∀ x, x ≠ 3 → x ≠ 4 → x ≠ 427 → x ≠ 428 → I2 x = I x := fun x x0 x1 x2 x3 => (r1 x x2 x3).trans (t1 x x0 x1)
  have hB := (cB_le h.2.2.2.2.2.2.2 (show N ≤ N + 100000 by omega)).2.1
  refine rd_ST h (fun x x0 x1 x2 _ _ _ _ => e x x1 x2 (by omega) (by omega)) (fun k hk => by rw [r2 k (by omega) (by omega), t1 427 (by decide) (by decide)]) (fun x hx => e x (by omega) (by omega) (by omega) (by omega)) (cR_of (TD_congr t2 (r1 3 (by decide) (by decide)) (r1 4 (by decide) (by decide))) r3 n0 n1) (by rw [e 439 (by decide) (by decide) (by decide) (by decide)]; exact hB)
theorem TF_refl : TF I I := fun _ _ _ => rfl
theorem TF_trans (h : TF I J) (g : TF J G) : TF I G := fun c h3 h4 => (g c h3 h4).trans (h c h3 h4)
theorem TD_ext {f g : RW} (h : TD I n f) (he : ∀ j, 0 ≤ j → j < n → f j = g j) : TD I n g := ⟨h.1, fun j j0 j1 => by rw [h.2 j j0 j1, he j j0 j1]⟩
theorem MD_ext {f g : RW} (h : MD I n f) (he : ∀ j, 0 ≤ j → j < n → f j = g j) : MD I n g := ⟨h.1, fun j j0 j1 => by rw [h.2 j j0 j1, he j j0 j1]⟩
/-- one more of a listing */ -/
theorem c_tnext {g : RW} (hR : RA S 3) (h : TD I n g) (h0 : 0 ≤ n) (h1 : n < 12) (hx : x = g n) : ∃ J, ev d 112 0 [(2, 3), (1, x), uU] [] S I = some (uU, S, J) ∧ TD J (n + 1) g ∧ TF I J := by
  obtain ⟨J, j1, j2, j3⟩ := c_tadd (d := d) (S := S) (x := x) hR h h0 h1
  refine ⟨J, j1, TD_ext j2 (fun j j0 j1 => ?_), j3⟩
  by_cases e : j = n
  · rw [updR_hit e, hx, e]
  · rw [updR_miss e]
def MF (I J : II) : Prop := (∀ k, k ≠ 1 → J 427 k = I 427 k) ∧ ∀ c, c ≠ 427 → c ≠ 428 → J c = I c
theorem MF_refl : MF I I := ⟨fun _ _ => rfl, fun _ _ _ => rfl⟩
theorem MF_trans (h : MF I J) (g : MF J G) : MF I G := ⟨fun k hk => (g.1 k hk).trans (h.1 k hk), fun c h3 h4 => (g.2 c h3 h4).trans (h.2 c h3 h4)⟩
theorem m_next {g : RW} (hM : MA S 427) (h : MD I n g) (h0 : 0 ≤ n) (h1 : n < 24) (hx : x = g n) : ∃ J, ev d 255 0 [(2, 427), (1, x), uU] [] S I = some (uU, S, J) ∧ MD J (n + 1) g ∧ MF I J := by
  obtain ⟨J, j1, j2, j3, j4⟩ := m_ent (d := d) (S := S) (x := x) hM h h0 h1
  refine ⟨J, j1, MD_ext j2 (fun j j0 j1 => ?_), j3, j4⟩
  by_cases e : j = n
  · rw [updR_hit e, hx, e]
  · rw [updR_miss e]
theorem MD_0 {g : RW} : MD (up2 I 427 1 0) 0 g := ⟨up2_hit rfl rfl, fun j j0 j1 => by omega⟩
theorem MF_0 {v : Int} : MF I (up2 I 427 1 v) := ⟨fun k hk => up2_miss (by omega), fun c h3 _ => up2_oth h3⟩
/-- the texts' calls */ -/
theorem tx_ST (h : ST N I) (hx : ∀ x, x ≠ 1 → x ≠ 2 → x ≠ 429 → x ≠ 427 → I2 x = I x) (hk : ∀ k, k ≠ 0 → k ≠ 4 → I2 427 k = I 427 k) (hT : cT I2) : ST N I2 := by
  obtain ⟨tT, tR, tH, tD, tU, tP, tK, tB⟩ := h
  have g : ∀ x, x ≠ 1 → x ≠ 2 → x ≠ 429 → x ≠ 427 → I2 x = I x := hx
  have hc : cfM I2 = cfM I := cfM_mem (hk 14 (by decide) (by decide)) (g 434 (by decide) (by decide) (by decide) (by decide)) (g 435 (by decide) (by decide) (by decide) (by decide)) (g 436 (by decide) (by decide) (by decide) (by decide)) (g 437 (by decide) (by decide) (by decide) (by decide))
  exact ⟨hT, cR_mem tR (g 3 (by decide) (by decide) (by decide) (by decide)) (g 4 (by decide) (by decide) (by decide) (by decide)) (g 428 (by decide) (by decide) (by decide) (by decide)) (hk 1 (by decide) (by decide)), cH_mem tH (g 424 (by decide) (by decide) (by decide) (by decide)) (g 425 (by decide) (by decide) (by decide) (by decide)) (g 426 (by decide) (by decide) (by decide) (by decide)) (g 448 (by decide) (by decide) (by decide) (by decide)) (g 449 (by decide) (by decide) (by decide) (by decide)) (hk 36 (by decide) (by decide)), cD_mem tD hc (g 438 (by decide) (by decide) (by decide) (by decide)) (fun x x0 x1 => g x (by omega) (by omega) (by omega) (by omega)), cU_mem tU (g 412 (by decide) (by decide) (by decide) (by decide)) (g 413 (by decide) (by decide) (by decide) (by decide)) (g 430 (by decide) (by decide) (by decide) (by decide)) (hk 10 (by decide) (by decide)), cP_mem tP hc (fun k => by rw [g 67 (by decide) (by decide) (by decide) (by decide)]) (hk 22 (by decide) (by decide)) (g 440 (by decide) (by decide) (by decide) (by decide)) (fun x x0 x1 => g x (by omega) (by omega) (by omega) (by omega)), cK_mem tK (hk 14 (by decide) (by decide)) (hk 15 (by decide) (by decide)) (g 434 (by decide) (by decide) (by decide) (by decide)) (g 435 (by decide) (by decide) (by decide) (by decide)) (g 436 (by decide) (by decide) (by decide) (by decide)) (g 437 (by decide) (by decide) (by decide) (by decide)) (g 452 (by decide) (by decide) (by decide) (by decide)) (g 70 (by decide) (by decide) (by decide) (by decide)) (g 453 (by decide) (by decide) (by decide) (by decide)) (g 454 (by decide) (by decide) (by decide) (by decide)) (fun x x0 x1 => g x (by omega) (by omega) (by omega) (by omega)), cB_mem tB (g 438 (by decide) (by decide) (by decide) (by decide)) (g 439 (by decide) (by decide) (by decide) (by decide)) (g 440 (by decide) (by decide) (by decide) (by decide)) (g 454 (by decide) (by decide) (by decide) (by decide))⟩
theorem he_ST (h : ST N I) (hx : ∀ x, x ≠ 424 → x ≠ 425 → x ≠ 426 → x ≠ 448 → x ≠ 449 → x ≠ 427 → I2 x = I x) (hk : ∀ k, k ≠ 0 → k ≠ 36 → I2 427 k = I 427 k) (hH : cH I2) : ST N I2 := by
  obtain ⟨tT, tR, tH, tD, tU, tP, tK, tB⟩ := h
  have g : ∀ x, (x < 424 ∨ 427 < x ∧ x < 448 ∨ 449 < x) → I2 x = I x := fun x h => hx x (by omega) (by omega) (by omega) (by omega) (by omega) (by omega)
  have hc : cfM I2 = cfM I := cfM_mem (hk 14 (by decide) (by decide)) (g 434 (by omega)) (g 435 (by omega)) (g 436 (by omega)) (g 437 (by omega))
  exact ⟨cT_mem tT (g 1 (by omega)) (g 2 (by omega)) (g 429 (by omega)) (hk 4 (by decide) (by decide)), cR_mem tR (g 3 (by omega)) (g 4 (by omega)) (g 428 (by omega)) (hk 1 (by decide) (by decide)), hH, cD_mem tD hc (g 438 (by omega)) (fun x x0 x1 => g x (by omega)), cU_mem tU (g 412 (by omega)) (g 413 (by omega)) (g 430 (by omega)) (hk 10 (by decide) (by decide)), cP_mem tP hc (fun k => by rw [g 67 (by omega)]) (hk 22 (by decide) (by decide)) (g 440 (by omega)) (fun x x0 x1 => g x (by omega)), cK_mem tK (hk 14 (by decide) (by decide)) (hk 15 (by decide) (by decide)) (g 434 (by omega)) (g 435 (by omega)) (g 436 (by omega)) (g 437 (by omega)) (g 452 (by omega)) (g 70 (by omega)) (g 453 (by omega)) (g 454 (by omega)) (fun x x0 x1 => g x (by omega)), cB_mem tB (g 438 (by omega)) (g 439 (by omega)) (g 440 (by omega)) (g 454 (by omega))⟩
theorem st_sign (hS : SH S) (h : ST N I) : ∃ r I1 I2, ev (d + 100) 140 0 [(2, 0), (0, v)] [] S I = some ((0, r), S, I1) ∧ ev (d + 100) 190 0 [(2, 427), (0, v), uU] [] S I1 = some ((0, r), S, I2) ∧ ST (N + 100000) I2 := by
  obtain ⟨r, I1, I2, h1, h2, h3, h4⟩ := call_sign (d := d) (v := v) hS h.1
  exact ⟨r, I1, I2, h1, h2, ST_le (tx_ST h (fun x a1 a2 a3 a4 => h3.1 x a4 (by omega)) (fun k k0 k1 => h3.2 k (by omega)) h4) (by omega)⟩
theorem st_end (hS : SH S) (h : ST N I) (hv : isI v) : ∃ r I1 I2, ev (d + 100) 141 0 [(2, 0), (0, v)] [] S I = some ((0, r), S, I1) ∧ ev (d + 100) 191 0 [(2, 427), (0, v)] [] S I1 = some ((0, r), S, I2) ∧ ST (N + 100000) I2 := by
  obtain ⟨r, I1, I2, h1, h2, h3, h4⟩ := call_end (d := d) (v := v) hv hS h.1
  exact ⟨r, I1, I2, h1, h2, ST_le (tx_ST h (fun x a1 a2 a3 a4 => h3.1 x a4 (by omega)) (fun k k0 k1 => h3.2 k (by omega)) h4) (by omega)⟩
theorem st_denies (hS : SH S) (h : ST N I) : ∃ r I1 I2, ev (d + 100) 177 0 [(2, 0)] [] S I = some ((0, r), S, I1) ∧ ev (d + 100) 294 0 [(2, 427), uU] [] S I1 = some ((0, r), S, I2) ∧ ST (N + 100000) I2 := by
  obtain ⟨r, I1, I2, h1, h2, h3, h4⟩ := call_denies (d := d) hS h.2.2.1
  exact ⟨r, I1, I2, h1, h2, ST_le (he_ST h (fun x a1 a2 a3 a4 a5 a6 => h3.1 x a6 (by omega)) (fun k k0 k1 => h3.2 k (by omega)) h4) (by omega)⟩
theorem st_heard (hS : SH S) (h : ST N I) (hk : isI k) (hv : isI v) : ∃ r I1 I2, ev (d + 100) 176 0 [(2, 0), (0, k), (0, v)] [] S I = some ((0, r), S, I1) ∧ ev (d + 100) 292 0 [(2, 427), (0, k), (0, v)] [] S I1 = some ((0, r), S, I2) ∧ ST (N + 100000) I2 := by
  obtain ⟨r, I1, I2, h1, h2, h3, h4⟩ := call_heard (d := d) (k := k) (v := v) hk hv hS h.2.2.1
  exact ⟨r, I1, I2, h1, h2, ST_le (he_ST h (fun x a1 a2 a3 a4 a5 a6 => h3.1 x a6 (by omega)) (fun k k0 k1 => h3.2 k (by omega)) h4) (by omega)⟩
theorem call_bells (hS : SH S) (h : ST N I) (hN : N < 70000000) : ∃ r I1 I2, ev (d + 100) 173 0 [(2, 0)] [] S I = some ((0, r), S, I1) ∧ ev (d + 100) 289 0 [(2, 427)] [] S I1 = some ((0, r), S, I2) ∧ ST (N + 100000) I2 := by
  obtain ⟨hQ, hM⟩ := hS
  have hD := h.2.2.2.1.2.1
  have hB := h.2.2.2.2.2.2.2.1
  have b9 := hB 839
  have e9 : I 5 9 = I 438 839 := hD.1.2.2.2.2.1
  have e8 : I 5 8 = I 438 838 := hD.1.2.2.2.1
  obtain ⟨A, a1, a2, a3⟩ := c_tell1 (d := d + 98) (S := S) (I := I) (x := I 438 839) (RA3 hQ)
  obtain ⟨B, b1, b2, b3⟩ := m_next (d := d + 99) (S := S) (g := updR (fun _ => 0) 0 (I 438 839)) (n := 0) (x := I 438 839) (I := up2 (up2 A 427 0 0) 427 1 0) hM MD_0 (by decide) (by decide) (by rw [updR_hit rfl])
  refine ⟨I 438 838, A, B, ?_, ?_, tl_ST h a3 a2 (fun x x0 x1 => by rw [b3.2 x x0 x1, up2_oth x0, up2_oth x0]) (fun k k0 k1 => by rw [b3.1 k k1, up2_miss (by omega), up2_miss (by omega)]) b2 (by decide) (by decide)⟩
  · rw [E173_0 hQ, e9, w_small (z := I 438 839) (by omega) (by omega), a1]
    simp only [Option.bind_some, psh_u]
    rw [E173_15 hQ, a3 5 (by decide) (by decide), e8]
  · rw [E289_0 hM, a3 438 (by decide) (by decide), w_small (z := I 438 839) (by omega) (by omega), b1]
    simp only [Option.bind_some, psh_u]
    rw [E289_23 hM, b3.2 438 (by decide) (by decide), up2_oth (by decide), up2_oth (by decide), a3 438 (by decide) (by decide)]
theorem c_run1 {g : RW} (hQ : QA S 0) (hW : W0 C ρ) (hB : BdN N ρ) (hN : N < 70000000) (hg : ∀ k, g k = w (1000 * ρ (445 + 12 * k) + 10 * ρ (446 + 12 * k) + ρ (456 + 12 * k))) : ∀ (n : Nat) (k : Int) (I : II), RelD C I 5 ρ → TD I k g → 0 ≤ k → k ≤ ρ 493 → n = (ρ 493 - k).toNat →
    ∃ J, ev (d + 1) 49 6 [(2, 5), (2, 3), (0, k)] [] S I = some ((0, ρ 493), S, J) ∧ TD J (ρ 493) g ∧ TF I J := by
  have r4 := hW.2.1.2.1
  intro n
  induction n with
  | zero =>
    intro k I h t k0 k1 hn
    have e10 : I 5 10 = ρ 493 := h.1.2.2.2.2.2.1
    have : k = ρ 493 := by omega
    subst this
    refine ⟨I, ?_, t, TF_refl⟩
    rw [E49_6 (DA5 hQ), e10, w_small (z := ρ 493) (by omega) (by omega), if_neg (by omega), E49_60 (DA5 hQ), e10]
  | succ n ih =>
    intro k I h t k0 k1 hn
    have e10 : I 5 10 = ρ 493 := h.1.2.2.2.2.2.1
    obtain ⟨⟨e7, e8, e9⟩, e6⟩ := h.2.2.1 k k0 (by omega)
    have r := hW.2.1.2.2 k k0 (by omega)
    unfold run1OK at r
    have bq := hB (445 + 12 * k)
    have bi := hB (446 + 12 * k)
    have bl := hB (456 + 12 * k)
    rw [E49_6 (DA5 hQ), e10, w_small (z := k) (by omega) (by omega), w_small (z := ρ 493) (by omega) (by omega), if_pos (by omega), if_pos (by omega), gdR_pos (by omega), gdR_pos (by omega)]
    rw [show (5 : Int) + 8 = 5 + 8 from rfl, e8, c_id r.2.2.1, e7]
    simp only [Option.bind_some, psh_i]
    have c1 := r.2.2.1
    unfold cmdOK at c1
    have wv := (hg k).symm
    obtain ⟨A, a1, a2, a3⟩ := c_tnext (d := d) (S := S) (I := I) (g := g) (n := k) (x := g k) (RA3 hQ) t k0 (by omega) rfl
    rw [E49_41 (DA5 hQ) (RA3 hQ), w_small (z := k) (by omega) (by omega), gdR_pos (by omega), e6, wv, a1]
    simp only [Option.bind_some, psh_u]
    obtain ⟨J, j1, j2, j3⟩ := ih (k + 1) A (RelD_mem h hW (fun x x0 x1 => a3 x (by omega) (by omega))) a2 (by omega) (by omega) (by omega)
    rw [E49_54]
    exact ⟨J, j1, j2, TF_trans a3 j3⟩
theorem m_run1 {g : RW} (hM : MA S 427) (r4 : ρ 493 ≤ 4) (hB : BdN N ρ) (hN : N < 70000000) (hg : ∀ k, g k = w (1000 * ρ (445 + 12 * k) + 10 * ρ (446 + 12 * k) + ρ (456 + 12 * k))) : ∀ (n : Nat) (k : Int) (I : II) (y : AV), I 438 = ρ → MD I k g → 0 ≤ k → k ≤ ρ 493 → n = (ρ 493 - k).toNat →
    ∃ J, ev (d + 1) 272 12 [(2, 427), (0, k), y] [] S I = some ((0, ρ 493), S, J) ∧ MD J (ρ 493) g ∧ MF I J := by
  intro n
  induction n with
  | zero =>
    intro k I y h t k0 k1 hn
    have : k = ρ 493 := by omega
    subst this
    refine ⟨I, ?_, t, MF_refl⟩
    rw [E272_12 hM, h, w_small (z := ρ 493) (by omega) (by omega), if_neg (by omega), t.1]
  | succ n ih =>
    intro k I y h t k0 k1 hn
    obtain ⟨A, a1, a2, a3⟩ := m_next (d := d) (S := S) (I := I) (g := g) (n := k) (x := g k) hM t k0 (by omega) rfl
    have e0 : 445 + 12 * k + 1 + 0 = 446 + 12 * k := by omega
    have e1 : 445 + 12 * k + 11 = 456 + 12 * k := by omega
    rw [E272_12 hM, h, w_small (z := k) (by omega) (by omega), w_small (z := ρ 493) (by omega) (by omega), if_pos (by omega), E224_0]
    simp only [Option.bind_some, psh_i]
    rw [E272_28 hM, e0, e1, Int.add_zero, w_small (z := 445 + 12 * k) (by omega) (by omega), w_small (z := 446 + 12 * k) (by omega) (by omega), w_small (z := 456 + 12 * k) (by omega) (by omega), gdR_pos (by omega), gdR_pos (by omega), gdR_pos (by omega), h, ← hg k, a1]
    simp only [Option.bind_some, psh_u]
    obtain ⟨J, j1, j2, j3⟩ := ih (k + 1) A (0, 445 + 12 * k) (by rw [a3.2 438 (by decide) (by decide)]; exact h) a2 (by omega) (by omega) (by omega)
    rw [E272_70]
    exact ⟨J, j1, j2, MF_trans a3 j3⟩
theorem call_running (hS : SH S) (h : ST N I) (hN : N < 70000000) : ∃ r I1 I2, ev (d + 100) 162 0 [(2, 0)] [] S I = some ((0, r), S, I1) ∧ ev (d + 100) 272 0 [(2, 427), uU, uU] [] S I1 = some ((0, r), S, I2) ∧ ST (N + 100000) I2 := by
  obtain ⟨hQ, hM⟩ := hS
  have hD := h.2.2.2.1.2
  have hB := h.2.2.2.2.2.2.2.1
  have r0 := hD.2.1.1.2.1.1
  have r4 := hD.2.1.1.2.1.2.1
  obtain ⟨A, a1, a2, a3⟩ := c_tclr (d := d + 98) (S := S) (I := I) (RA3 hQ)
  obtain ⟨J, j1, j2, j3⟩ := c_run1 (d := d + 98) (S := S) (g := fun k => w (1000 * I 438 (445 + 12 * k) + 10 * I 438 (446 + 12 * k) + I 438 (456 + 12 * k))) hQ hD.2.1.1 hB hN (fun _ => rfl) (I 438 493).toNat 0 A (RelD_mem hD.1 hD.2.1.1 (fun x x0 x1 => a3 x (by omega) (by omega))) ⟨a2.1, fun j j0 j1 => by omega⟩ (by decide) r0 (by rw [Int.sub_zero])
  have tf := TF_trans a3 j3
  obtain ⟨K, k1, k2, k3⟩ := m_run1 (d := d + 99) (S := S) (g := fun k => w (1000 * I 438 (445 + 12 * k) + 10 * I 438 (446 + 12 * k) + I 438 (456 + 12 * k))) hM r4 hB hN (fun _ => rfl) (I 438 493).toNat 0 (up2 (up2 J 427 0 0) 427 1 0) uU (by rw [up2_oth (by decide), up2_oth (by decide), tf 438 (by decide) (by decide)]) MD_0 (by decide) r0 (by rw [Int.sub_zero])
  refine ⟨I 438 493, J, K, ?_, ?_, tl_ST h tf j2 (fun x x0 x1 => by rw [k3.2 x x0 x1, up2_oth x0, up2_oth x0]) (fun k k0 k1 => by rw [k3.1 k k1, up2_miss (by omega), up2_miss (by omega)]) k2 r0 (by omega)⟩
  · rw [E162_0 hQ, E49_0 (RA3 hQ), a1]
    simp only [Option.bind_some, psh_u]
    rw [E49_4, j1]
    simp only [Option.bind_some, psh_i]
    rw [E162_11]
  · rw [E272_0 hM, k1]
theorem c_out1 {g : RW} (hQ : QA S 0) (hW : W0 C ρ) (hn5 : C.1 ≤ 5) (hg : ∀ k, g k = w (1000 * ρ (494 + 4 * k) + 10 * ρ (495 + 4 * k) + ρ (496 + 4 * k))) : ∀ (n : Nat) (k m : Int) (I : II) (y : AV), RelD C I 5 ρ → TD I k g → 0 ≤ k → k ≤ m → m ≤ 12 → m ≤ ρ 814 → (m = ρ 814 ∨ m = 12) → n = (m - k).toNat →
    ∃ J, ev (d + 1) 50 6 [(2, 5), (2, 3), (0, k), y] [] S I = some ((0, ρ 814), S, J) ∧ TD J m g ∧ TF I J := by
  have o8 := hW.2.2.1.2.1
  intro n
  induction n with
  | zero =>
    intro k m I y h t k0 k1 m12 mo me hn
    have e15 : I 5 15 = ρ 814 := h.1.2.2.2.2.2.2
    have : k = m := by omega
    subst this
    have z : ev (d + 1) 50 59 [(2, 5), (2, 3), (0, k), y] [] S I = some ((0, ρ 814), S, I) := by rw [E50_59 (DA5 hQ), e15]
    refine ⟨I, ?_, t, TF_refl⟩
    rw [E50_6 (DA5 hQ), e15, w_small (z := k) (by omega) (by omega), w_small (z := ρ 814) (by omega) (by omega), z]
    by_cases g1 : k < ρ 814
    · rw [if_pos g1, if_neg (by omega)]
    · rw [if_neg g1]
  | succ n ih =>
    intro k m I y h t k0 k1 m12 mo me hn
    have e15 : I 5 15 = ρ 814 := h.1.2.2.2.2.2.2
    have ek := h.2.2.2.1 k k0 (by omega)
    have o := hW.2.2.1.2.2 k k0 (by omega)
    unfold out1OK at o
    have bd : bdD (ρ (494 + 4 * k)) (ρ (495 + 4 * k)) (ρ (496 + 4 * k)) (ρ (497 + 4 * k)) := by unfold bdD; omega
    obtain ⟨A, a1, a2, a3⟩ := c_tnext (d := d) (S := S) (I := I) (g := g) (n := k) (x := g k) (RA3 hQ) t k0 (by omega) rfl
    rw [E50_6 (DA5 hQ), e15, w_small (z := k) (by omega) (by omega), w_small (z := ρ 814) (by omega) (by omega), if_pos (by omega), if_pos (by omega), gdR_pos (by omega), ek]
    unfold pkO
    rw [c_dq bd]
    simp only [Option.bind_some, psh_i]
    rw [E50_35, c_did bd]
    simp only [Option.bind_some, psh_i]
    rw [E50_42, c_dst bd]
    simp only [Option.bind_some, psh_i]
    rw [E50_48 (RA3 hQ), ← hg k, a1]
    simp only [Option.bind_some, psh_u]
    obtain ⟨J, j1, j2, j3⟩ := ih (k + 1) m A (0, pkD (ρ (494 + 4 * k)) (ρ (495 + 4 * k)) (ρ (496 + 4 * k)) (ρ (497 + 4 * k))) (RelD_mem h hW (fun x x0 x1 => a3 x (by omega) (by omega))) a2 (by omega) (by omega) m12 mo me (by omega)
    rw [E50_53]
    exact ⟨J, j1, j2, TF_trans a3 j3⟩
theorem m_out1 {g : RW} (hM : MA S 427) (o8 : ρ 814 ≤ 80) (hg : ∀ k, g k = w (1000 * ρ (494 + 4 * k) + 10 * ρ (495 + 4 * k) + ρ (496 + 4 * k))) : ∀ (n : Nat) (k m : Int) (I : II) (y : AV), I 438 = ρ → MD I k g → 0 ≤ k → k ≤ m → m ≤ 12 → m ≤ ρ 814 → (m = ρ 814 ∨ m = 12) → n = (m - k).toNat →
    ∃ J, ev (d + 1) 273 12 [(2, 427), (0, k), y] [] S I = some ((0, ρ 814), S, J) ∧ MD J m g ∧ MF I J := by
  intro n
  induction n with
  | zero =>
    intro k m I y h t k0 k1 m12 mo me hn
    have : k = m := by omega
    subst this
    have z : ev (d + 1) 273 79 [(2, 427), (0, k), y] [] S I = some ((0, ρ 814), S, I) := by rw [E273_79 hM, h]
    refine ⟨I, ?_, t, MF_refl⟩
    rw [E273_12 hM, h, w_small (z := k) (by omega) (by omega), w_small (z := ρ 814) (by omega) (by omega), z]
    by_cases g1 : k < ρ 814
    · rw [if_pos g1, if_neg (by omega)]
    · rw [if_neg g1]
  | succ n ih =>
    intro k m I y h t k0 k1 m12 mo me hn
    obtain ⟨A, a1, a2, a3⟩ := m_next (d := d) (S := S) (I := I) (g := g) (n := k) (x := g k) hM t k0 (by omega) rfl
    have e1 : 494 + 4 * k + 1 = 495 + 4 * k := by omega
    have e2 : 494 + 4 * k + 2 = 496 + 4 * k := by omega
    rw [E273_12 hM, h, w_small (z := k) (by omega) (by omega), w_small (z := ρ 814) (by omega) (by omega), if_pos (by omega), if_pos (by omega), E227_0]
    simp only [Option.bind_some, psh_i]
    rw [E273_34 hM, Int.add_zero, e1, e2, w_small (z := 494 + 4 * k) (by omega) (by omega), w_small (z := 495 + 4 * k) (by omega) (by omega), w_small (z := 496 + 4 * k) (by omega) (by omega), gdR_pos (by omega), gdR_pos (by omega), gdR_pos (by omega), h, ← hg k, a1]
    simp only [Option.bind_some, psh_u]
    obtain ⟨J, j1, j2, j3⟩ := ih (k + 1) m A (0, 494 + 4 * k) (by rw [a3.2 438 (by decide) (by decide)]; exact h) a2 (by omega) (by omega) m12 mo me (by omega)
    rw [E273_73]
    exact ⟨J, j1, j2, MF_trans a3 j3⟩
theorem call_outbox (hS : SH S) (h : ST N I) (hN : N < 70000000) : ∃ r I1 I2, ev (d + 100) 163 0 [(2, 0)] [] S I = some ((0, r), S, I1) ∧ ev (d + 100) 273 0 [(2, 427), uU, uU] [] S I1 = some ((0, r), S, I2) ∧ ST (N + 100000) I2 := by
  obtain ⟨hQ, hM⟩ := hS
  have hk := h.2.2.2.1.1
  have hD := h.2.2.2.1.2
  have o0 := hD.2.1.1.2.2.1.1
  have o8 := hD.2.1.1.2.2.1.2.1
  obtain ⟨m, m0, m1, m2, m3⟩ : ∃ m : Int, 0 ≤ m ∧ m ≤ 12 ∧ m ≤ I 438 814 ∧ (m = I 438 814 ∨ m = 12) := by
    by_cases g : I 438 814 ≤ 12
    · exact ⟨I 438 814, o0, g, Int.le_refl _, Or.inl rfl⟩
    · exact ⟨12, by decide, Int.le_refl _, by omega, Or.inr rfl⟩
  obtain ⟨A, a1, a2, a3⟩ := c_tclr (d := d + 98) (S := S) (I := I) (RA3 hQ)
  obtain ⟨J, j1, j2, j3⟩ := c_out1 (d := d + 98) (S := S) (g := fun k => w (1000 * I 438 (494 + 4 * k) + 10 * I 438 (495 + 4 * k) + I 438 (496 + 4 * k))) hQ hD.2.1.1 hk.2.1 (fun _ => rfl) m.toNat 0 m A uU (RelD_mem hD.1 hD.2.1.1 (fun x x0 x1 => a3 x (by omega) (by omega))) ⟨a2.1, fun j j0 j1 => by omega⟩ (by decide) m0 m1 m2 m3 (by rw [Int.sub_zero])
  have tf := TF_trans a3 j3
  obtain ⟨K, k1, k2, k3⟩ := m_out1 (d := d + 99) (S := S) (g := fun k => w (1000 * I 438 (494 + 4 * k) + 10 * I 438 (495 + 4 * k) + I 438 (496 + 4 * k))) hM o8 (fun _ => rfl) m.toNat 0 m (up2 (up2 J 427 0 0) 427 1 0) uU (by rw [up2_oth (by decide), up2_oth (by decide), tf 438 (by decide) (by decide)]) MD_0 (by decide) m0 m1 m2 m3 (by rw [Int.sub_zero])
  refine ⟨I 438 814, J, K, ?_, ?_, tl_ST h tf j2 (fun x x0 x1 => by rw [k3.2 x x0 x1, up2_oth x0, up2_oth x0]) (fun k k0 k1 => by rw [k3.1 k k1, up2_miss (by omega), up2_miss (by omega)]) k2 m0 m1⟩
  · rw [E163_0 hQ, E50_0 (RA3 hQ), a1]
    simp only [Option.bind_some, psh_u]
    rw [E50_4, j1]
    simp only [Option.bind_some, psh_i]
    rw [E163_11]
  · rw [E273_0 hM, k1]
end r77
