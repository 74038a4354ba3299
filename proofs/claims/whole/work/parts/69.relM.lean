/-! calling back, weights, depth, by the class */ -/
section r69
variable {d : Nat} {S : SS} {I J : II} {C : CF} {ρ σ τ : RW} {b q id op bl v k a i m : Int}
def slR (I : II) (b : Int) (τ : RW) (j k : Int) : Prop := run1R I b τ j k ∧ I (b + 6) j = τ (456 + 12 * k)
theorem slR_congr {j k j' k' : Int} (hI : ∀ a, b + 6 ≤ a → a ≤ b + 9 → J a j' = I a j) (hρ : ∀ x, 0 ≤ x → x < 12 → σ (445 + 12 * k' + x) = τ (445 + 12 * k + x)) (h : slR I b τ j k) : slR J b σ j' k' := by
  obtain ⟨h1, h2⟩ := h
  refine ⟨run1R_congr (fun a a0 a1 => hI a (by omega) a1) (fun x x0 x1 => hρ x x0 (by omega)) h1, ?_⟩
  have := hρ 11 (by decide) (by decide)
  rw [show 445 + 12 * k' + 11 = 456 + 12 * k' by omega, show 445 + 12 * k + 11 = 456 + 12 * k by omega] at this
  rw [hI _ (by omega) (by omega), this]; exact h2
theorem c_br1 (hD : DA S b) (hk0 : 0 ≤ k) (hm4 : m ≤ 4) : ∀ (n : Nat) (i : Int) (I : II), k ≤ i → i ≤ m - 1 → I b 10 = m - 1 → (∀ j, 0 ≤ j → j < k → slR I b τ j j) → (∀ j, k ≤ j → j < i → slR I b τ j (j + 1)) → (∀ j, i ≤ j → j < m → slR I b τ j j) → n = (m - 1 - i).toNat →
    ∃ J, ev (d + 1) 43 76 [(2, b), (0, k), (0, i)] [] S I = some (uU, S, J) ∧ (∀ j, 0 ≤ j → j < k → slR J b τ j j) ∧ (∀ j, k ≤ j → j < m - 1 → slR J b τ j (j + 1)) ∧ (∀ x, (x < b + 6 ∨ b + 9 < x) → J x = I x) := by
  intro n
  induction n with
  | zero =>
    intro i I h0 h1 h10 ha hb hc hn
    refine ⟨I, ?_, ha, fun j j0 j1 => hb j j0 (by omega), fun _ _ => rfl⟩
    rw [E43_76 hD, h10, w_small (z := i) (by omega) (by omega), w_small (z := m - 1) (by omega) (by omega), if_neg (by omega), E43_103]
  | succ n ih =>
    intro i I h0 h1 h10 ha hb hc hn
    rw [E43_76 hD, h10, w_small (z := i) (by omega) (by omega), w_small (z := m - 1) (by omega) (by omega), if_pos (by omega), if_pos (by omega), E27_0 hD, w_small (z := i + 1) (by omega) (by omega), w_small (z := i) (by omega) (by omega), if_neg (by omega), if_pos (by omega), if_neg (by omega), if_pos (by omega), gdR_pos (by omega), gdR_pos (by omega), gdR_pos (by omega), gdR_pos (by omega), gdR_pos (by omega), gdR_pos (by omega), gdR_pos (by omega), gdR_pos (by omega)]
    simp only [Option.bind_some, psh_u]
    rw [E43_97]
    generalize hG : up2 (up2 (up2 (up2 I (b + 6) i (I (b + 6) (i + 1))) (b + 7) i (I (b + 7) (i + 1))) (b + 8) i (I (b + 8) (i + 1))) (b + 9) i (I (b + 9) (i + 1)) = G
    have gx : ∀ x, (x < b + 6 ∨ b + 9 < x) → G x = I x := fun x hx => by rw [← hG, up2_oth (by omega), up2_oth (by omega), up2_oth (by omega), up2_oth (by omega)]
    have gj : ∀ x j, b + 6 ≤ x → x ≤ b + 9 → j ≠ i → G x j = I x j := fun x j x0 x1 hj => by rw [← hG, up2_miss (by omega), up2_miss (by omega), up2_miss (by omega), up2_miss (by omega)]
    have gi : ∀ x, b + 6 ≤ x → x ≤ b + 9 → G x i = I x (i + 1) := fun x x0 x1 => by
      rw [← hG]
      rcases (by omega : x = b + 6 ∨ x = b + 7 ∨ x = b + 8 ∨ x = b + 9) with rfl | rfl | rfl | rfl
      · rw [up2_oth (by omega), up2_oth (by omega), up2_oth (by omega), up2_hit rfl rfl]
      · rw [up2_oth (by omega), up2_oth (by omega), up2_hit rfl rfl]
      · rw [up2_oth (by omega), up2_hit rfl rfl]
      · rw [up2_hit rfl rfl]
    obtain ⟨J, j1, j2, j3, j4⟩ := ih (i + 1) G (by omega) (by omega) (by rw [gx b (by omega)]; exact h10) (fun j j0 j1 => slR_congr (fun x x0 x1 => gj x j x0 x1 (by omega)) (fun _ _ _ => rfl) (ha j j0 j1)) (fun j j0 j1 => by
      by_cases e : j = i
      · subst e; exact slR_congr gi (fun _ _ _ => rfl) (hc (j + 1) (by omega) (by omega))
      · exact slR_congr (fun x x0 x1 => gj x j x0 x1 e) (fun _ _ _ => rfl) (hb j j0 (by omega))) (fun j j0 j1 => slR_congr (fun x x0 x1 => gj x j x0 x1 (by omega)) (fun _ _ _ => rfl) (hc j (by omega) j1)) (by omega)
    exact ⟨J, j1, j2, j3, fun x hx => (j4 x hx).trans (gx x hx)⟩
/-- what runs is broken off */ -/
theorem c_break (hb0 : 0 ≤ b) (hD : DA S b) (h : RelD C I b ρ) (hw : WF C ρ) (hn : C.1 ≤ 5) (h0 : 0 ≤ k) (h1 : k < ρ 493) (hq : ρ (445 + 12 * k) = q) :
    ∃ J, ev (d + 2) 43 0 [(2, b), (0, k), uU] [] S I = some (uU, S, J) ∧ RelD C J b (breakS ρ q k) ∧ OUTB b I J := by
  have r4 := hw.1.2.1.2.1
  have o0 := hw.1.2.2.1.1
  have m1 := runm_ge h0 h1
  have m2 := out_room hw hn
  have i1 := @ite01 (0 ≤ ρ (452 + 12 * k)) _
  have r := hw.1.2.1.2.2 k h0 h1
  unfold run1OK at r
  obtain ⟨q0, q1, c1, n3, ca, hs⟩ := r
  have cb := c1
  unfold cmdOK at cb
  obtain ⟨b1, b2, b3⟩ := brk_WF hw hn h0 h1 hq
  obtain ⟨⟨d0, d6, d7, d8, d9, d10, d15⟩, h2, h3, h4, h5, h6⟩ := id h
  obtain ⟨⟨e7, e8, e9⟩, e6⟩ := h3 k h0 h1
  rw [hq] at e7
  have dv : DV I b ρ := ⟨d15, h2, h4⟩
  have x8 : outS ρ q (ρ (446 + 12 * k)) 1 0 814 = ρ 814 + 1 := outS_814
  have xo : ∀ j, (j < 494 ∨ 814 < j) → outS ρ q (ρ (446 + 12 * k)) 1 0 j = ρ j := fun j g => outS_oth o0 (by omega) g
  obtain ⟨A, a1, a2, a3⟩ := c_deliver (d := d) (S := S) (q := q) (st := 1) (res := 0) hD dv o0 (by omega) (pkA_bd c1) (by unfold bdD; omega)
  rw [show pkC (ρ (446 + 12 * k)) (ρ (446 + 12 * k + 1)) (ρ (446 + 12 * k + 2)) (ρ (446 + 12 * k + 3)) (ρ (446 + 12 * k + 4)) = pkA ρ (446 + 12 * k) from rfl] at a1
  rw [E43_0 hD, w_small (z := k) (by omega) (by omega), if_neg (by omega), d10, w_small (z := ρ 493) (by omega) (by omega), if_pos h1, if_pos (by omega), gdR_pos (by omega), gdR_pos (by omega), e7, e8, a1]
  simp only [Option.bind_some, psh_u]
  have A9 : A (b + 9) = I (b + 9) := a3.2 _ (by omega) (by omega) (by omega)
  have A7 : A (b + 7) = I (b + 7) := a3.2 _ (by omega) (by omega) (by omega)
  -- from the end of the completions on
  have fin1 : ∀ (τ : RW) (G : II), DV G b τ → CK b I G → τ 814 ≤ 80 → (∀ j, (j < 494 ∨ 814 < j) → τ j = ρ j) → (∀ z, cnt (runGoS τ k) z = cnt ρ z) → ∃ J, ev (d + 2) 43 64 [(2, b), (0, k), uU] [] S G = some (uU, S, J) ∧ RelD C J b (runGoS τ k) ∧ OUTB b I J := by
    intro τ G gd gc g8 go gcc
    have t93 : τ 493 = ρ 493 := go 493 (by decide)
    have gx : ∀ x, x ≠ b → x ≠ b + 2 → x ≠ b + 10 → up2 G b 10 (ρ 493 - 1) x = I x := fun x x0 x1 x2 => by rw [up2_oth x0]; exact gc.2 x x0 x1 x2
    have sl : ∀ j, 0 ≤ j → j < ρ 493 → slR (up2 G b 10 (ρ 493 - 1)) b τ j j := fun j j0 j1 =>
      slR_congr (I := I) (τ := ρ) (fun a a0 a1 => by rw [gx a (by omega) (by omega) (by omega)]) (fun x x0 x1 => go _ (by omega)) (h3 j j0 j1)
    rw [E43_64 hD, gc.1 10 (by decide), d10]
    obtain ⟨J, j1, j2, j3, j4⟩ := c_br1 (d := d + 1) (S := S) (τ := τ) (k := k) (m := ρ 493) hD h0 r4 (ρ 493 - 1 - k).toNat k (up2 G b 10 (ρ 493 - 1)) (Int.le_refl _) (by omega) (up2_hit rfl rfl) (fun j j0 j1 => sl j j0 (by omega)) (fun j j0 j1 => by omega) (fun j j0 j1 => sl j (by omega) j1) rfl
    have rh : ∀ j, 494 ≤ j → runGoS τ k j = τ j := fun j hj => runGo_oth (by omega) (by omega)
    have rl : ∀ j, j < 445 → runGoS τ k j = ρ j := fun j hj => by rw [runGo_lo (by omega) (by omega)]; exact go j (by omega)
    have r93 : runGoS τ k 493 = ρ 493 - 1 := by rw [runGo_493 (by omega), t93]
    have jb : ∀ f, f ≠ 10 → f ≠ 15 → J b f = I b f := fun f f0 f1 => by rw [j4 b (by omega), up2_miss (by omega)]; exact gc.1 f f1
    refine ⟨J, j1, ⟨⟨?_, ?_, ?_, ?_, ?_, ?_, ?_⟩, arR_congr (fun a a0 a1 => by rw [j4 a (by omega), up2_oth (by omega)]) (fun j x0 x1 => rh j (by omega)) gd.2.1, fun j x0 x1 => ?_, boxR_congr g8 (by rw [j4 _ (by omega), up2_oth (by omega)]) (fun j x0 x1 => rh j x0) gd.2.2, fun q' y0 y1 => laneR_congr y0 y1 (fun x x0 x1 => by rw [j4 x (by omega)]; exact gx x (by omega) (by omega) (by omega)) (fun j x0 x1 => rl j (by omega)) (h5 q' y0 y1), bitsR_congr (fun q' y0 y1 => by rw [j4 _ (by omega), gx _ (by omega) (by omega) (by omega)]) gcc h6⟩, fun x hx => by rw [j4 x (by omega)]; exact gx x (by omega) (by omega) (by omega)⟩
    · rw [jb 0 (by decide) (by decide)]; exact d0
    · rw [jb 6 (by decide) (by decide), rh 826 (by decide), go 826 (by decide)]; exact d6
    · rw [jb 7 (by decide) (by decide), rh 827 (by decide), go 827 (by decide)]; exact d7
    · rw [jb 8 (by decide) (by decide), rh 838 (by decide), go 838 (by decide)]; exact d8
    · rw [jb 9 (by decide) (by decide), rh 839 (by decide), go 839 (by decide)]; exact d9
    · rw [r93, j4 b (by omega), up2_hit rfl rfl]
    · rw [rh 814 (by decide), j4 b (by omega), up2_miss (by omega)]; exact gd.1
    · rw [r93] at x1
      by_cases e : j < k
      · exact slR_congr (fun _ _ _ => rfl) (fun x y0 y1 => runGo_lo (by omega) (by omega)) (j2 j x0 e)
      · refine slR_congr (fun _ _ _ => rfl) (fun x y0 y1 => ?_) (j3 j (by omega) x1)
        rw [runGo_hi (by omega) (by omega) (by omega)]
        congr 1; omega
  have hse : hasSecS (outS ρ q (ρ (446 + 12 * k)) 1 0) k = true ↔ 0 ≤ ρ (452 + 12 * k) := by unfold hasSecS; rw [xo _ (by omega)]; exact ⟨of_decide_eq_true, decide_eq_true⟩
  rw [E43_36 hD, w_small (z := k) (by omega) (by omega), gdR_pos (by omega), A9]
  unfold breakS at b2 ⊢
  by_cases hsec : 0 ≤ ρ (452 + 12 * k)
  · rw [if_pos (hse.mpr hsec)] at b2 ⊢
    rw [if_pos hsec] at m1
    rcases hs with hs | ⟨_, cs, _⟩
    · omega
    have pb := pkA_b cs
    have e9' : I (b + 9) k = pkA ρ (451 + 12 * k) := by rw [e9, if_neg (by omega)]
    have csb := cs
    unfold cmdOK at csb
    rw [xo (451 + 12 * k) (by omega)] at b2 ⊢
    obtain ⟨B, c1', c2', c3'⟩ := c_deliver (d := d) (S := S) (q := q) (st := 1) (res := 0) hD a2 (by omega) (by omega) (pkA_bd cs) (by unfold bdD; omega)
    rw [show pkC (ρ (451 + 12 * k)) (ρ (451 + 12 * k + 1)) (ρ (451 + 12 * k + 2)) (ρ (451 + 12 * k + 3)) (ρ (451 + 12 * k + 4)) = pkA ρ (451 + 12 * k) from rfl] at c1'
    rw [e9', w_small (z := pkA ρ (451 + 12 * k)) (by omega) (by omega), if_neg (by omega), gdR_pos (by omega), gdR_pos (by omega), A7, e7, c1']
    simp only [Option.bind_some, psh_u]
    exact fin1 _ B c2' (CK_trans a3 c3') (by rw [outS_814]; omega) (fun j g => by rw [outS_oth (by omega) (by omega) g]; exact xo j g) b2
  · rw [if_neg (fun g => hsec (hse.mp g))] at b2 ⊢
    have e9' : I (b + 9) k = -1 := by rw [e9, if_pos (by omega)]
    rw [e9', if_pos (show w (-1) = -1 by decide)]
    exact fin1 _ A a2 a3 (by omega) xo b2
theorem runOfS_q (h : 0 ≤ runOfS ρ q id) : ρ (445 + 12 * runOfS ρ q id) = q := by
  unfold runOfS at *
  rcases fnd_lo (runIs ρ q id) (ρ 493).toNat 0 with e | ⟨_, _, e⟩
  · omega
  · simp only [runIs, Bool.and_eq_true, decide_eq_true_eq] at e; exact e.1
theorem callsAns_spec (hk : okC C) : (callsAnsS C ρ q id = 0 → (0 ≤ q ∧ q < C.1 ∧ 0 ≤ id ∧ id ≤ 15) ∧ 0 ≤ ringOfS ρ q id ∧ ρ (rAt q (ρ (89 * q + 3) + ringOfS ρ q id) + 4) ≠ 1) ∧ (callsAnsS C ρ q id = 1 → (0 ≤ q ∧ q < C.1 ∧ 0 ≤ id ∧ id ≤ 15) ∧ ringOfS ρ q id < 0 ∧ 0 ≤ runOfS ρ q id) ∧ -4 ≤ callsAnsS C ρ q id ∧ callsAnsS C ρ q id ≤ 1 := by
  unfold callsAnsS
  by_cases g : 0 ≤ q ∧ q < C.1 ∧ 0 ≤ id ∧ id ≤ 15
  · rw [if_pos g]
    by_cases g1 : 0 ≤ ringOfS ρ q id
    · rw [if_pos g1]
      by_cases g2 : ρ (rAt q (ρ (89 * q + 3) + ringOfS ρ q id) + 4) = 1
      · rw [if_pos g2]; exact ⟨fun e => absurd e (by decide), fun e => absurd e (by decide), by decide, by decide⟩
      · rw [if_neg g2]; exact ⟨fun _ => ⟨g, g1, g2⟩, fun e => absurd e (by decide), by decide, by decide⟩
    · rw [if_neg g1]
      by_cases g2 : runOfS ρ q id < 0
      · rw [if_pos g2]; exact ⟨fun e => absurd e (by decide), fun e => absurd e (by decide), by decide, by decide⟩
      · rw [if_neg g2]
        by_cases g3 : ρ (456 + 12 * runOfS ρ q id) < 2
        · rw [if_pos g3]; exact ⟨fun e => absurd e (by decide), fun e => absurd e (by decide), by decide, by decide⟩
        · rw [if_neg g3]; exact ⟨fun e => absurd e (by decide), fun _ => ⟨g, by omega, by omega⟩, by decide, by decide⟩
  · rw [if_neg g]; exact ⟨fun e => absurd e (by decide), fun e => absurd e (by decide), by decide, by decide⟩
theorem callsS_WF {N : Int} (h : WF C ρ) (hk : okC C) (hB : BdN N ρ) (hN : 100 ≤ N) : WF C (callsS C ρ q id).2 ∧ BdN (N + 1) (callsS C ρ q id).2 ∧ (∀ lo, lftOK lo ρ → lftOK lo (callsS C ρ q id).2) ∧ (callsAnsS C ρ q id = 1 → ρ 814 < 80 ∧ (hasSecS ρ (runOfS ρ q id) = true → ρ 814 < 79)) := by
  have hn := hk.2.1
  have hB' := BdN_le hB (show N ≤ N + 1 by omega)
  obtain ⟨s0, s1, _, _⟩ := callsAns_spec (ρ := ρ) (q := q) (id := id) hk
  have o0 := h.1.2.2.1.1
  have room : callsAnsS C ρ q id = 1 → ρ 814 < 80 ∧ (hasSecS ρ (runOfS ρ q id) = true → ρ 814 < 79) := by
    intro e
    have r := runOfS_b (ρ := ρ) (q := q) (id := id) h.1.2.1.1
    have m1 := runm_ge (ρ := ρ) (k := runOfS ρ q id) (s1 e).2.2 (by have := (s1 e).2.2; omega)
    have m2 := out_room h hn
    have i1 := @ite01 (0 ≤ ρ (452 + 12 * runOfS ρ q id)) _
    refine ⟨by omega, fun g => ?_⟩
    have : 0 ≤ ρ (452 + 12 * runOfS ρ q id) := of_decide_eq_true g
    rw [if_pos this] at m1; omega
  unfold callsS
  by_cases g : callsAnsS C ρ q id = 0
  · rw [if_pos g]
    obtain ⟨a0, a1, a2⟩ := s0 g
    have qo := h.1.1 q a0.1 (by omega)
    have rb := ringOfS_b (id := id) qo
    obtain ⟨m1, m2⟩ := mrk_W0 h.1 a0.1 (show q < 5 by omega) (k := ρ (89 * q + 3) + ringOfS ρ q id) (by omega) (by omega)
    have ra := rAt_b (q := q) (k := ρ (89 * q + 3) + ringOfS ρ q id) a0.1 (by omega)
    exact ⟨⟨m1, fun z => by rw [m2]; exact h.2 z⟩, BdN_upd hB' (by decide) (by omega), fun lo hl => lftOK_congr (fun j j0 j1 => updR_miss (by omega)) h.1.2.1.2.1 hl, room⟩
  · rw [if_neg g]
    by_cases g1 : callsAnsS C ρ q id = 1
    · rw [if_pos g1]
      have a0 := s1 g1
      have r := runOfS_b (ρ := ρ) (q := q) (id := id) h.1.2.1.1
      have rq := runOfS_q a0.2.2
      obtain ⟨w1, w2, w3⟩ := brk_WF h hn a0.2.2 (by omega) rq
      have rr := room g1
      have hsx : hasSecS (outS ρ q (ρ (446 + 12 * runOfS ρ q id)) 1 0) (runOfS ρ q id) = hasSecS ρ (runOfS ρ q id) := by
        have r4 := h.1.2.1.2.1
        unfold hasSecS; rw [outS_oth o0 rr.1 (Or.inl (by omega))]
      refine ⟨w1, ?_, w3, room⟩
      have r4 := h.1.2.1.2.1
      have bq : -1 ≤ q ∧ q ≤ N := ⟨by omega, by omega⟩
      have x1 : BdN N (outS ρ q (ρ (446 + 12 * runOfS ρ q id)) 1 0) := BdN_outS hB hN rr.1 bq (hB _) ⟨by decide, by omega⟩ ⟨by decide, by omega⟩
      have e93 : outS ρ q (ρ (446 + 12 * runOfS ρ q id)) 1 0 493 = ρ 493 := outS_oth o0 rr.1 (Or.inl (by decide))
      have r0 := h.1.2.1.1
      unfold breakS
      split
      · rename_i gs
        have r9 := rr.2 (by rw [← hsx]; exact gs)
        refine BdN_le (BdN_runGo (BdN_outS x1 hN (by rw [outS_814]; omega) bq (x1 _) ⟨by decide, by omega⟩ ⟨by decide, by omega⟩) (by omega) ?_ ?_) (by omega)
        · rw [outS_oth (by rw [outS_814]; omega) (by rw [outS_814]; omega) (Or.inl (by decide)), e93]; exact r0
        · rw [outS_oth (by rw [outS_814]; omega) (by rw [outS_814]; omega) (Or.inl (by decide)), e93]; exact r4
      · exact BdN_le (BdN_runGo x1 (by omega) (by rw [e93]; exact r0) (by rw [e93]; exact r4)) (by omega)
    · rw [if_neg g1]; exact ⟨h, hB', fun _ hl => hl, room⟩
/-- a COMMAND is called back */ -/
theorem c_callBack {N : Int} (hb : 0 ≤ b) (hD : DA S b) (h : RelD C I b ρ) (hw : WF C ρ) (hk : okC C) (hB : BdN N ρ) (hN : N < 1073741824) (hq : isI q) (hid : isI id) :
    ∃ J, ev (d + 4) 40 0 [(2, b), (0, q), (0, id), uU, uU] [] S I = some ((0, (callsS C ρ q id).1), S, J) ∧ RelD C J b (callsS C ρ q id).2 ∧ OUTB b I J := by
  have hn := hk.2.1
  have hBd := BdN_Bd hB hN
  obtain ⟨s0, s1, s2, s3⟩ := callsAns_spec (ρ := ρ) (q := q) (id := id) hk
  rw [E40_0 hD, c_judge hb hD h hw.1 hk hBd hq hid]
  simp only [Option.bind_some, psh_i]
  rw [E40_6 hD, c_lane hD h.1 hk hq]
  simp only [Option.bind_some, psh_r]
  have hLo : (if 0 ≤ q ∧ q < C.1 then b + 11 + 4 * q else -1) = -1 ∨ LA S (if 0 ≤ q ∧ q < C.1 then b + 11 + 4 * q else -1) := by
    by_cases g : 0 ≤ q ∧ q < C.1
    · rw [if_pos g]; exact Or.inr (DA_lane hD g.1 (by omega))
    · rw [if_neg g]; exact Or.inl rfl
  rw [E40_12 hLo, w_small (z := callsAnsS C ρ q id) (by omega) (by omega)]
  unfold callsS
  by_cases g : callsAnsS C ρ q id = 0
  · obtain ⟨a0, a1, a2⟩ := s0 g
    have hL := DA_lane hD a0.1 (show q < 5 by omega)
    have qo := hw.1.1 q a0.1 (by omega)
    have hl := h.2.2.2.2.1 q a0.1 (by omega)
    have rb := ringOfS_b (id := id) qo
    have c1 := qo.1
    unfold cntsOK at c1
    have cm := qo.2.1 (ρ (89 * q + 3) + ringOfS ρ q id) (by omega) (by omega)
    have cmb := cm
    unfold cmdOK at cmb
    have hl2 := hl
    obtain ⟨⟨l0, l3, f4, f5, f6, f7, f8, f9, f10, f11, f12⟩, lr, lp, l13⟩ := hl2
    obtain ⟨m1, m2⟩ := mrk_W0 hw.1 a0.1 (show q < 5 by omega) (k := ρ (89 * q + 3) + ringOfS ρ q id) (by omega) (by omega)
    rw [if_pos g, if_pos g, if_pos (⟨a0.1, a0.2.1⟩ : 0 ≤ q ∧ q < C.1), if_neg (by omega), c_turnOf hL hl qo hBd hid]
    simp only [Option.bind_some, psh_i, psh_r]
    generalize hκ : ρ (89 * q + 3) + ringOfS ρ q id = κ at *
    have ra := rAt_b (q := q) (k := κ) a0.1 (by omega)
    have bc : bdC (ρ (rAt q κ)) (ρ (rAt q κ + 1)) (ρ (rAt q κ + 2)) (ρ (rAt q κ + 3)) 0 := by unfold bdC; omega
    have p0 : pkA ρ (rAt q κ) = pkC (ρ (rAt q κ)) (ρ (rAt q κ + 1)) (ρ (rAt q κ + 2)) (ρ (rAt q κ + 3)) 0 := by
      unfold pkA; rw [show ρ (rAt q κ + 4) = 0 by omega]
    rw [E40_31 hL, E94_0 hL, f7, hκ, lr.1 κ (by omega) (by omega), p0, or_called bc]
    simp only [Option.bind_some, psh_u]
    rw [E40_34 hD, g, if_neg (by decide), E40_49]
    have oth : ∀ j, j ≠ rAt q κ + 4 → updR ρ (rAt q κ + 4) 1 j = ρ j := fun j hj => updR_miss hj
    have gx : ∀ x, x ≠ b + 11 + 4 * q + 1 → up2 I (b + 11 + 4 * q + 1) (κ % 8) (pkC (ρ (rAt q κ)) (ρ (rAt q κ + 1)) (ρ (rAt q κ + 2)) (ρ (rAt q κ + 3)) 1) x = I x := fun x hx => up2_oth hx
    have bc1 : bdC (ρ (rAt q κ)) (ρ (rAt q κ + 1)) (ρ (rAt q κ + 2)) (ρ (rAt q κ + 3)) 1 := by unfold bdC; omega
    refine ⟨_, rfl, RelD_q h hw.1 a0.1 (by omega) (fun x x0 x1 x2 => gx x (by omega)) (fun j hj => oth j (by omega)) ⟨?_, ⟨fun k k0 k1 => ?_, fun j j0 j1 => ?_⟩, fun k k0 k1 => ?_, by rw [gx _ (by omega)]; exact l13⟩ (bitsR_q (q := q) h.2.2.2.2.2 (fun x x0 x1 x2 => gx x (by omega)) (by rw [gx _ (by omega)]) m2), fun x hx => gx x (by omega)⟩
    · unfold lanfR
      rw [gx _ (by omega), oth _ (by omega), oth _ (by omega), oth _ (by omega), oth _ (by omega), oth _ (by omega), oth _ (by omega), oth _ (by omega), oth _ (by omega), oth _ (by omega)]
      exact ⟨l0, l3, f4, f5, f6, f7, f8, f9, f10, f11, f12⟩
    · rw [oth _ (by omega)] at k0 k1
      by_cases e : k = κ
      · subst e
        rw [up2_hit rfl rfl]
        unfold pkA
        rw [updR_hit rfl, oth _ (by omega), oth _ (by omega), oth _ (by omega), oth _ (by omega)]
      · have ne := rAt_ne (q := q) (k := k) (k' := κ) e (by omega) (by omega)
        rw [up2_miss (by omega), lr.1 k k0 k1, pkA_congr (fun j j0 j1 => oth _ (by omega))]
    · by_cases e : j = κ % 8
      · rw [up2_hit rfl e]; exact pkC_b bc1
      · rw [up2_miss (by omega)]; exact lr.2 j j0 j1
    · rw [oth _ (by omega)] at k0 k1
      have pb := pAt_b (q := q) (k := k) a0.1 (by omega)
      have := lp k k0 k1
      unfold pkP at *
      rw [gx _ (by omega), gx _ (by omega), oth _ (by omega), oth _ (by omega), oth _ (by omega), oth _ (by omega)]
      exact this
  · rw [if_neg g, if_neg g, E40_34 hD, w_small (z := callsAnsS C ρ q id) (by omega) (by omega)]
    by_cases g1 : callsAnsS C ρ q id = 1
    · have a0 := s1 g1
      have r := runOfS_b (ρ := ρ) (q := q) (id := id) hw.1.2.1.1
      rw [if_pos g1, if_pos g1, c_runOf hD h.1 h.2.2.1 hw.1.2.1 hBd hq hid]
      simp only [Option.bind_some, psh_i, psh_r]
      obtain ⟨J, j1, j2, j3⟩ := c_break (d := d + 1) (S := S) hb hD h hw hn a0.2.2 (by omega) (runOfS_q a0.2.2)
      rw [E40_46 hD, j1]
      simp only [Option.bind_some, psh_u]
      rw [E40_49, g1]
      exact ⟨J, rfl, j2, j3⟩
    · rw [if_neg g1, if_neg g1, E40_49]
      exact ⟨I, rfl, h, OUTB_refl b I⟩
end r69
