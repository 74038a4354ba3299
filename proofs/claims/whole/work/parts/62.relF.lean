/-! what there is room for is posted, shadows are looked at: by the class */ -/
section r62
variable {d : Nat} {S : SS} {I J : II} {C : CF} {ρ σ τ : RW} {b q id st res k a s i m : Int}
/-- one QUEUE alone is another */ -/
theorem RelD_q (h : RelD C I b ρ) (hW : W0 C ρ) (h0 : 0 ≤ q) (h1 : q < 5) (hI : ∀ x, b ≤ x → x < b + 31 → (x < b + 11 + 4 * q ∨ b + 15 + 4 * q ≤ x) → J x = I x) (hρ : ∀ j, (0 ≤ j ∧ j < 89 * q) ∨ (89 * q + 89 ≤ j ∧ j < 844) → σ j = ρ j) (hl : laneR C J (b + 11 + 4 * q) σ q) (hb : bitsR J b σ) : RelD C J b σ := by
  obtain ⟨g1, g2, g3, g4, g5, g6⟩ := h
  refine ⟨hdR_congr (fun k _ => by rw [hI b (by omega) (by omega) (by omega)]) (fun j hj => hρ j (by omega)) g1, arR_congr (fun a a0 a1 => hI a (by omega) (by omega) (by omega)) (fun j j0 j1 => hρ j (by omega)) g2, runsR_congr hW.2.1.2.1 (fun a a0 a1 => hI a (by omega) (by omega) (by omega)) (fun j j0 j1 => hρ j (by omega)) g3, boxR_congr hW.2.2.1.2.1 (hI _ (by omega) (by omega) (by omega)) (fun j j0 j1 => hρ j (by omega)) g4, fun q' q0 q1 => ?_, hb⟩
  by_cases e : q' = q
  · subst e; exact hl
  · exact laneR_congr q0 q1 (fun x x0 x1 => hI x (by omega) (by omega) (by omega)) (fun j j0 j1 => hρ j (by omega)) (g5 q' q0 q1)
/-- bits of IDS when only one QUEUE's cells changed, but not them */ -/
theorem bitsR_q (h : bitsR I b ρ) (hI : ∀ x, b ≤ x → x < b + 31 → (x < b + 11 + 4 * q ∨ b + 15 + 4 * q ≤ x) → J x = I x) (h13 : J (b + 11 + 4 * q) 13 = I (b + 11 + 4 * q) 13) (hc : ∀ z, cnt σ z = cnt ρ z) : bitsR J b σ :=
  bitsR_congr (fun q' q0 q1 => by
    by_cases e : q' = q
    · subst e; exact h13
    · rw [hI _ (by omega) (by omega) (by omega)]) hc h
theorem c_shad (hb : 0 ≤ b) (hD : DA S b) (h : RelD C I b ρ) (hW : W0 C ρ) (hk : okC C) (hB : Bd ρ) (h0 : 0 ≤ q) (h1 : q < C.1) :
    ∃ J, ev d 83 0 [(2, b + 11 + 4 * q)] [] S I = some (uU, S, J) ∧ RelD C J b (shadS C ρ q) ∧ OUTB b I J := by
  have n1 := hk.2.1
  have hL := DA_lane hD h0 (show q < 5 by omega)
  have kk := hk.2.2 q h0 h1
  have hl := h.2.2.2.2.1 q h0 (by omega)
  have b1 := hB (89 * q + 1)
  have b3 := hB (89 * q + 3)
  have b8 := hB (89 * q + 8)
  obtain ⟨s1, s2, s3⟩ := shad_W0 hW h0 (show q < 5 by omega)
  have hl2 := hl
  obtain ⟨⟨l0, l3, f4, f5, f6, f7, f8, f9, f10, f11, f12⟩, lr, lp, l13⟩ := hl2
  obtain ⟨k0, k1, k2, k3⟩ := l0 h1
  generalize ha : b + 11 + 4 * q = a at *
  have oth : ∀ j, j ≠ 89 * q + 2 → j ≠ 89 * q + 7 → j ≠ 89 * q + 8 → shadS C ρ q j = ρ j := by
    intro j g0 g1 g2; unfold shadS; split
    · split
      · simp (disch := omega) only [updR_miss]
      · exact updR_miss g0
    · rfl
  rw [E83_0 hL, k3, w_small (z := C.2.2.2.2 q) (by omega) (by omega), E83_14, E83_47, f12, w_small (z := ρ (89 * q + 8)) (by omega) (by omega), f5, f7, w_small (z := ρ (89 * q + 1)) (by omega) (by omega), w_small (z := ρ (89 * q + 3)) (by omega) (by omega), E83_47]
  have c8 := (hW.1 q h0 (by omega)).1
  unfold cntsOK at c8
  -- the same row
  have same : ¬ (C.2.2.2.2 q = 1 ∧ ρ (89 * q + 8) = 1) → RelD C I b (shadS C ρ q) ∧ OUTB b I I := by
    intro g; unfold shadS; rw [if_neg g]; exact ⟨h, OUTB_refl b I⟩
  by_cases g1 : C.2.2.2.2 q = 0
  · rw [if_pos g1]; exact ⟨I, rfl, same (by omega)⟩
  by_cases g2 : ρ (89 * q + 8) = 0
  · rw [if_neg g1, if_pos g2]; exact ⟨I, rfl, same (by omega)⟩
  have g3 : C.2.2.2.2 q = 1 ∧ ρ (89 * q + 8) = 1 := by omega
  rw [if_neg g1, if_neg g2]
  have fin1 : ∀ J : II, (∀ x, x ≠ a → J x = I x) → (∀ k, k ≠ 6 → k ≠ 11 → k ≠ 12 → J a k = I a k) → J a 6 = shadS C ρ q (89 * q + 2) → J a 11 = shadS C ρ q (89 * q + 7) → J a 12 = shadS C ρ q (89 * q + 8) → RelD C J b (shadS C ρ q) ∧ OUTB b I J := by
    intro J jx jk j6 j11 j12
    have hI : ∀ x, b ≤ x → x < b + 31 → (x < b + 11 + 4 * q ∨ b + 15 + 4 * q ≤ x) → J x = I x := fun x _ _ hx => jx x (by omega)
    refine ⟨RelD_q h hW h0 (by omega) hI (fun j hj => oth j (by omega) (by omega) (by omega)) ?_ (bitsR_q h.2.2.2.2.2 hI (by rw [ha]; exact jk 13 (by decide) (by decide) (by decide)) s2), fun x hx => jx x (by omega)⟩
    rw [ha]
    refine ⟨?_, ⟨fun k k0 k1 => ?_, by rw [jx (a + 1) (by omega)]; exact lr.2⟩, fun k k0 k1 => ?_, by rw [jk 13 (by decide) (by decide) (by decide)]; exact l13⟩
    · unfold lanfR
      rw [j6, j11, j12, jk 0 (by decide) (by decide) (by decide), jk 1 (by decide) (by decide) (by decide), jk 2 (by decide) (by decide) (by decide), jk 3 (by decide) (by decide) (by decide), jk 4 (by decide) (by decide) (by decide), jk 5 (by decide) (by decide) (by decide), jk 7 (by decide) (by decide) (by decide), jk 8 (by decide) (by decide) (by decide), jk 9 (by decide) (by decide) (by decide), jk 10 (by decide) (by decide) (by decide), oth (89 * q) (by omega) (by omega) (by omega), oth (89 * q + 1) (by omega) (by omega) (by omega), oth (89 * q + 3) (by omega) (by omega) (by omega), oth (89 * q + 4) (by omega) (by omega) (by omega), oth (89 * q + 5) (by omega) (by omega) (by omega), oth (89 * q + 6) (by omega) (by omega) (by omega)]
      exact ⟨l0, l3, f4, f5, rfl, f7, f8, f9, f10, rfl, rfl⟩
    · rw [oth _ (by omega) (by omega) (by omega)] at k0 k1
      have rb := rAt_b (q := q) (k := k) h0 (by omega)
      rw [jx (a + 1) (by omega), lr.1 k k0 k1, pkA_congr (fun j j0 j1 => oth _ (by omega) (by omega) (by omega))]
    · rw [oth _ (by omega) (by omega) (by omega)] at k0 k1
      have pb := pAt_b (q := q) (k := k) h0 (by omega)
      have := lp k k0 k1
      unfold pkP at *
      rw [jx (a + 2) (by omega), jx (a + 3) (by omega), oth _ (by omega) (by omega) (by omega), oth _ (by omega) (by omega) (by omega), oth _ (by omega) (by omega) (by omega), oth _ (by omega) (by omega) (by omega)]
      exact this
  by_cases g4 : ρ (89 * q + 1) = ρ (89 * q + 3)
  · rw [if_pos g4]
    refine ⟨_, rfl, fin1 _ (fun x hx => by rw [up2_oth hx, up2_oth hx, up2_oth hx]) (fun k x0 x1 x2 => by rw [up2_miss (by omega), up2_miss (by omega), up2_miss (by omega)]) ?_ ?_ ?_⟩
    · rw [up2_miss (by omega), up2_miss (by omega), up2_hit rfl rfl]; unfold shadS; rw [if_pos g3, if_pos g4]; simp (disch := omega) only [updR_miss, updR_hit]
    · rw [up2_miss (by omega), up2_hit rfl rfl]; unfold shadS; rw [if_pos g3, if_pos g4]; simp (disch := omega) only [updR_miss, updR_hit]
    · rw [up2_hit rfl rfl]; unfold shadS; rw [if_pos g3, if_pos g4]; simp (disch := omega) only [updR_hit]
  · rw [if_neg g4]
    refine ⟨_, rfl, fin1 _ (fun x hx => by rw [up2_oth hx]) (fun k x0 x1 x2 => by rw [up2_miss (by omega)]) ?_ ?_ ?_⟩
    · rw [up2_hit rfl rfl]; unfold shadS; rw [if_pos g3, if_neg g4, updR_hit rfl]
    · rw [up2_miss (by omega), f11]; unfold shadS; rw [if_pos g3, if_neg g4, updR_miss (by omega)]
    · rw [up2_miss (by omega), f12]; unfold shadS; rw [if_pos g3, if_neg g4, updR_miss (by omega)]
/-- what posting lays down */ -/
theorem lay_facts (hW : W0 C τ) (hk : okC C) (h0 : 0 ≤ k) (h1 : k < τ 814) (hq : τ (494 + 4 * k) = q) :
    (∀ j, j ≠ 89 * q + 5 → (j < pAt q (τ (89 * q + 5)) ∨ pAt q (τ (89 * q + 5)) + 5 ≤ j) → laidS C τ k j = τ j) ∧ laidS C τ k (89 * q + 5) = τ (89 * q + 5) + 1 ∧ laidS C τ k (pAt q (τ (89 * q + 5))) = τ (495 + 4 * k) ∧ laidS C τ k (pAt q (τ (89 * q + 5)) + 1) = τ (496 + 4 * k) ∧ laidS C τ k (pAt q (τ (89 * q + 5)) + 2) = τ (497 + 4 * k) ∧ laidS C τ k (pAt q (τ (89 * q + 5)) + 3) = τ (89 * q + 3) := by
  have o := hW.2.2.1.2.2 k h0 h1
  unfold out1OK at o
  have hn := hk.2.1
  have pb := pAt_b (q := q) (k := τ (89 * q + 5)) (by omega) (by omega)
  have oe1 : 494 + 4 * k + 1 = 495 + 4 * k := by omega
  have oe2 : 494 + 4 * k + 2 = 496 + 4 * k := by omega
  have oe3 : 494 + 4 * k + 3 = 497 + 4 * k := by omega
  unfold laidS
  simp only [hq, oe1, oe2, oe3]
  refine ⟨fun j g0 g1 => by simp (disch := omega) only [updR_miss], updR_hit rfl, ?_, ?_, ?_, ?_⟩ <;> simp (disch := omega) only [updR_miss, updR_hit]
def FinP (C : CF) (I : II) (b : Int) (τ : RW) (s i m : Int) : Prop := hq6 C I b τ ∧ I b 10 = τ 493 ∧ I b 15 = m ∧ arR I b τ ∧ runsR I b τ ∧ lansR C I b τ ∧ bitsR I b τ ∧ τ 814 = s + (m - i) ∧ (∀ j, 0 ≤ j → j < s → I (b + 10) j = pkO τ j) ∧ (∀ j, i ≤ j → j < m → I (b + 10) j = pkO τ (s + (j - i)))
theorem c_post1 (hb : 0 ≤ b) (hk : okC C) (hD : DA S b) : ∀ (n : Nat) (s i m : Int) (τ : RW) (I : II) (x : AV), 0 ≤ s → s ≤ i → i ≤ m → m ≤ 80 → FinP C I b τ s i m → WF C τ → BdN (900000000 - n) τ → n = (m - i).toNat →
    ∃ J, ev (d + 3) 33 4 [(2, b), (0, s), (0, i), x] [] S I = some (uU, S, J) ∧ RelD C J b (postlS C n s τ) ∧ OUTB b I J := by
  intro n
  have hn := hk.2.1
  induction n with
  | zero =>
    intro s i m τ I x hs0 hsi him hm8 h hw hB hnn
    obtain ⟨h1, h10, h15, h2, h3, h5, h6, h8, h9, hb10⟩ := h
    have oth : ∀ x, x ≠ b → up2 I b 15 s x = I x := fun x hx => up2_oth hx
    have otk : ∀ k, k ≠ 15 → up2 I b 15 s b k = I b k := fun k hk => up2_miss (by omega)
    rw [E33_4 hD, h15, w_small (z := i) (by omega) (by omega), w_small (z := m) (by omega) (by omega), if_neg (by omega), E33_70 hD, postlS]
    refine ⟨_, rfl, ⟨⟨?_, ?_, ?_, ?_, ?_, ?_, up2_hit rfl rfl |>.trans (by omega)⟩, arR_congr (fun a a0 a1 => oth a (by omega)) (fun _ _ _ => rfl) h2, runsR_congr hw.1.2.1.2.1 (fun a a0 a1 => oth a (by omega)) (fun _ _ _ => rfl) h3, fun k g0 g1 => ?_, fun q g0 g1 => laneR_congr g0 g1 (fun x x0 x1 => oth x (by omega)) (fun _ _ _ => rfl) (h5 q g0 g1), bitsR_congr (fun q g0 g1 => by rw [oth _ (by omega)]) (fun _ => rfl) h6⟩, fun x hx => oth x (by omega)⟩
    · rw [otk 0 (by decide)]; exact h1.1
    · rw [otk 6 (by decide)]; exact h1.2.1
    · rw [otk 7 (by decide)]; exact h1.2.2.1
    · rw [otk 8 (by decide)]; exact h1.2.2.2.1
    · rw [otk 9 (by decide)]; exact h1.2.2.2.2
    · rw [otk 10 (by decide)]; exact h10
    · rw [oth _ (by omega)]; exact h9 k g0 (by omega)
  | succ n ih =>
    intro s i m τ I x hs0 hsi him hm8 h hw hB hnn
    have him' : i < m := by omega
    obtain ⟨h1, h10, h15, h2, h3, h5, h6, h8, h9, hbx⟩ := id h
    have ei := hbx i (Int.le_refl _) him'
    rw [Int.sub_self, Int.add_zero] at ei
    have hks : s < τ 814 := by omega
    have o := hw.1.2.2.1.2.2 s hs0 hks
    unfold out1OK at o
    obtain ⟨q0, q1, i0, i1, s0, s1, r0, r1⟩ := o
    have bd : bdD (τ (494 + 4 * s)) (τ (495 + 4 * s)) (τ (496 + 4 * s)) (τ (497 + 4 * s)) := by unfold bdD; omega
    have hdr : ∀ G : II, G b 0 = C.1 → ev (d + 2) 21 0 [(2, b), (0, τ (494 + 4 * s))] [] S G = some ((2, b + 11 + 4 * τ (494 + 4 * s)), S, G) := by
      intro G e
      rw [E21_0 hD, e, w_small (z := τ (494 + 4 * s)) (by omega) (by omega), w_small (z := C.1) (by omega) (by omega), if_neg (by omega), if_pos q1, if_pos (by omega), gdR_pos (by omega), E21_27]
    rw [E33_4 hD, h15, w_small (z := i) (by omega) (by omega), w_small (z := m) (by omega) (by omega), if_pos him', if_pos (by omega), gdR_pos (by omega), ei]
    unfold pkO
    rw [c_dq bd]
    simp only [Option.bind_some, psh_i]
    rw [E33_28 hD, hdr I h1.1]
    simp only [Option.bind_some, psh_r]
    have hr' := roomS_iff (C := C) (ρ := τ) (k := s)
    have kk := hk.2.2 _ q0 q1
    have hL := DA_lane hD q0 (show τ (494 + 4 * s) < 5 by omega)
    have hl := h5 _ q0 (show τ (494 + 4 * s) < 5 by omega)
    have lf := lay_facts (τ := τ) hw.1 hk hs0 hks (q := τ (494 + 4 * s)) rfl
    generalize hq : τ (494 + 4 * s) = q at *
    have co := (hw.1.1 q q0 (by omega)).1
    unfold cntsOK at co
    have b5 := hB (89 * q + 5)
    have b6 := hB (89 * q + 6)
    obtain ⟨⟨l0, l3, f4, f5, f6, f7, f8, f9, f10, f11, f12⟩, lr, lp, l13⟩ := id hl
    obtain ⟨k0, k1, k2, k3⟩ := l0 q1
    rw [E33_31 (Or.inr hL) hD, if_neg (by omega), w_small (z := i) (by omega) (by omega), gdR_pos (by omega), ei, E82_0 hL]
    unfold pkO
    rw [hq, f9, f10, k1, w_small (z := τ (89 * q + 5) - τ (89 * q + 6)) (by omega) (by omega), w_small (z := C.2.2.1 q - 1) (by omega) (by omega), postlS]
    by_cases g : roomS C τ s = true
    · have g' := hr'.mp g
      rw [if_pos g', if_pos g]
      simp only [Option.bind_some, psh_i]
      rw [E33_46, if_neg (by decide), E33_64]
      obtain ⟨w1, w2, w3, w4⟩ := post_WF hw hk hs0 hks g
      have bP : BdN (900000000 - n) (postS C τ s) := BdN_le (BdN_outGo (BdN_lay2 hB (by omega)) (by
        have := (lay_W0 hw.1 hk hs0 hks g).2.2 814 (by decide); omega)) (by omega)
      obtain ⟨y1, y2, y3, y4, y5, y6⟩ := lf
      have l8 := (lay_W0 hw.1 hk hs0 hks g).2.2 814 (by decide)
      have pb := pAt_b (q := q) (k := τ (89 * q + 5)) q0 (by omega)
      have plo : ∀ j, j < 494 → postS C τ s j = laidS C τ s j := fun j hj => by unfold postS; exact outGo_lo (by omega) (by omega)
      have phi : ∀ j, 814 < j → postS C τ s j = τ j := fun j hj => by
        unfold postS
        rw [outGo_oth hj (by omega)]
        exact (lay_W0 hw.1 hk hs0 hks g).2.2 j (by omega)
      have pq : ∀ j, j < 494 → j ≠ 89 * q + 5 → (j < pAt q (τ (89 * q + 5)) ∨ pAt q (τ (89 * q + 5)) + 5 ≤ j) → postS C τ s j = τ j := fun j g0 g1 g2 => (plo j g0).trans (y1 j g1 g2)
      generalize hG : up2 (up2 (up2 I (b + 11 + 4 * q + 2) (τ (89 * q + 5) % 8) (pkD q (τ (495 + 4 * s)) (τ (496 + 4 * s)) (τ (497 + 4 * s)))) (b + 11 + 4 * q + 3) (τ (89 * q + 5) % 8) (I (b + 11 + 4 * q) 7)) (b + 11 + 4 * q) 9 (τ (89 * q + 5) + 1) = G
      have gx : ∀ x, (x < b + 11 + 4 * q ∨ b + 15 + 4 * q ≤ x) → G x = I x := fun x hx => by rw [← hG, up2_oth (by omega), up2_oth (by omega), up2_oth (by omega)]
      have gk : ∀ k, k ≠ 9 → G (b + 11 + 4 * q) k = I (b + 11 + 4 * q) k := fun k hk => by rw [← hG, up2_miss (by omega), up2_oth (by omega), up2_oth (by omega)]
      have g9 : G (b + 11 + 4 * q) 9 = τ (89 * q + 5) + 1 := by rw [← hG, up2_hit rfl rfl]
      have g1' : G (b + 11 + 4 * q + 1) = I (b + 11 + 4 * q + 1) := by rw [← hG, up2_oth (by omega), up2_oth (by omega), up2_oth (by omega)]
      have gd : ∀ j, j ≠ τ (89 * q + 5) % 8 → G (b + 11 + 4 * q + 2) j = I (b + 11 + 4 * q + 2) j ∧ G (b + 11 + 4 * q + 3) j = I (b + 11 + 4 * q + 3) j := fun j hj => by
        rw [← hG]
        exact ⟨by rw [up2_oth (by omega), up2_oth (by omega), up2_miss (by omega)], by rw [up2_oth (by omega), up2_miss (by omega), up2_oth (by omega)]⟩
      have gd0 : G (b + 11 + 4 * q + 2) (τ (89 * q + 5) % 8) = pkD q (τ (495 + 4 * s)) (τ (496 + 4 * s)) (τ (497 + 4 * s)) := by rw [← hG, up2_oth (by omega), up2_oth (by omega), up2_hit rfl rfl]
      have gh0 : G (b + 11 + 4 * q + 3) (τ (89 * q + 5) % 8) = τ (89 * q + 3) := by rw [← hG, up2_oth (by omega), up2_hit rfl rfl, f7]
      have F : FinP C G b (postS C τ s) s (i + 1) m := by
        refine ⟨hq6_congr (fun k _ => by rw [gx b (by omega)]) (fun j hj => phi j (by omega)) h1, by rw [gx b (by omega), w3 493 (by decide) (by decide)]; exact h10, by rw [gx b (by omega)]; exact h15, arR_congr (fun a a0 a1 => gx a (by omega)) (fun j g0 g1 => phi j (by omega)) h2, runsR_congr hw.1.2.1.2.1 (fun a a0 a1 => gx a (by omega)) w3 h3, fun q' q0' q1' => ?_, bitsR_congr (fun q' q0' q1' => ?_) w2 h6, by omega, fun j g0 g1 => ?_, fun j g0 g1 => ?_⟩
        · by_cases e : q' = q
          · subst e
            refine ⟨?_, ⟨fun k kk0 kk1 => ?_, by rw [g1']; exact lr.2⟩, fun k kk0 kk1 => ?_, by rw [gk 13 (by decide)]; exact l13⟩
            · unfold lanfR
              rw [g9, gk 0 (by decide), gk 1 (by decide), gk 2 (by decide), gk 3 (by decide), gk 4 (by decide), gk 5 (by decide), gk 6 (by decide), gk 7 (by decide), gk 8 (by decide), gk 10 (by decide), gk 11 (by decide), gk 12 (by decide), plo (89 * q' + 5) (by omega), y2, pq _ (by omega) (by omega) (by omega), pq _ (by omega) (by omega) (by omega), pq _ (by omega) (by omega) (by omega), pq _ (by omega) (by omega) (by omega), pq _ (by omega) (by omega) (by omega), pq _ (by omega) (by omega) (by omega), pq _ (by omega) (by omega) (by omega), pq _ (by omega) (by omega) (by omega)]
              exact ⟨l0, l3, f4, f5, f6, f7, f8, rfl, f10, f11, f12⟩
            · rw [pq _ (by omega) (by omega) (by omega)] at kk0 kk1
              have rb := rAt_b (q := q') (k := k) q0 (by omega)
              rw [g1', lr.1 k kk0 kk1, pkA_congr (fun j j0 j1 => pq _ (by omega) (by omega) (by omega))]
            · rw [pq _ (by omega) (by omega) (by omega)] at kk0
              rw [plo _ (by omega), y2] at kk1
              unfold pkP
              by_cases e : k = τ (89 * q' + 5)
              · subst e
                rw [gd0, gh0, plo _ (by omega), plo _ (by omega), plo _ (by omega), plo _ (by omega), y3, y4, y5, y6]
                exact ⟨rfl, rfl⟩
              · have far := pAt_ne (q := q') (k := k) (k' := τ (89 * q' + 5)) e (by omega) (by omega)
                have pb2 := pAt_b (q := q') (k := k) q0 (by omega)
                have := lp k kk0 (by omega)
                unfold pkP at this
                rw [(gd (k % 8) (by omega)).1, (gd (k % 8) (by omega)).2, pq _ (by omega) (by omega) (by omega), pq _ (by omega) (by omega) (by omega), pq _ (by omega) (by omega) (by omega), pq _ (by omega) (by omega) (by omega)]
                exact this
          · exact laneR_congr q0' q1' (fun x x0 x1 => gx x (by omega)) (fun j j0 j1 => pq j (by omega) (by omega) (by omega)) (h5 q' q0' q1')
        · by_cases e : q' = q
          · subst e; exact gk 13 (by decide)
          · rw [gx _ (by omega)]
        · rw [gx _ (by omega), h9 j g0 g1]
          have e : ∀ x, 494 + 4 * j ≤ x → x < 494 + 4 * s → postS C τ s x = τ x := fun x x0 x1 => by
            unfold postS
            rw [outGo_lo (by omega) (by omega)]
            exact (lay_W0 hw.1 hk hs0 hks g).2.2 x (by omega)
          unfold pkO
          rw [e _ (by omega) (by omega), e _ (by omega) (by omega), e _ (by omega) (by omega), e _ (by omega) (by omega)]
        · rw [gx _ (by omega), hbx j (by omega) g1]
          have e : ∀ x, 494 + 4 * s ≤ x → x < 494 + 4 * (τ 814 - 1) → postS C τ s x = τ (x + 4) := fun x x0 x1 => by
            unfold postS
            rw [outGo_hi (by omega) (by omega) (by omega)]
            exact (lay_W0 hw.1 hk hs0 hks g).2.2 _ (by omega)
          unfold pkO
          rw [e _ (by omega) (by omega), e _ (by omega) (by omega), e _ (by omega) (by omega), e _ (by omega) (by omega)]
          rw [show 494 + 4 * (s + (j - (i + 1))) + 4 = 494 + 4 * (s + (j - i)) by omega, show 495 + 4 * (s + (j - (i + 1))) + 4 = 495 + 4 * (s + (j - i)) by omega, show 496 + 4 * (s + (j - (i + 1))) + 4 = 496 + 4 * (s + (j - i)) by omega, show 497 + 4 * (s + (j - (i + 1))) + 4 = 497 + 4 * (s + (j - i)) by omega]
      obtain ⟨J, j1, j2, j3⟩ := ih s (i + 1) m (postS C τ s) G (2, b + 11 + 4 * q) hs0 (by omega) (by omega) hm8 F w1 bP (by omega)
      refine ⟨J, j1, j2, fun x hx => ?_⟩
      rw [j3 x hx, gx x (by omega)]
    · have g' : ¬ τ (89 * q + 5) - τ (89 * q + 6) < C.2.2.1 q - 1 := fun e => g (hr'.mpr e)
      rw [if_neg g', if_neg g]
      simp only [Option.bind_some, psh_i]
      rw [E33_46, if_pos (by decide), E33_49 hD, w_small (z := i) (by omega) (by omega), w_small (z := s) (by omega) (by omega), gdR_pos (by omega), gdR_pos (by omega), E33_64, ei]
      have gx : ∀ x, x ≠ b + 10 → up2 I (b + 10) s (pkO τ s) x = I x := fun x hx => up2_oth hx
      have F : FinP C (up2 I (b + 10) s (pkO τ s)) b τ (s + 1) (i + 1) m := by
        refine ⟨hq6_congr (fun k _ => by rw [gx b (by omega)]) (fun _ _ => rfl) h1, by rw [gx b (by omega)]; exact h10, by rw [gx b (by omega)]; exact h15, arR_congr (fun a a0 a1 => gx a (by omega)) (fun _ _ _ => rfl) h2, runsR_congr hw.1.2.1.2.1 (fun a a0 a1 => gx a (by omega)) (fun _ _ _ => rfl) h3, fun q' q0' q1' => laneR_congr q0' q1' (fun x x0 x1 => gx x (by omega)) (fun _ _ _ => rfl) (h5 q' q0' q1'), bitsR_congr (fun q' q0' q1' => by rw [gx _ (by omega)]) (fun _ => rfl) h6, by omega, fun j g0 g1 => ?_, fun j g0 g1 => ?_⟩
        · by_cases e : j = s
          · rw [up2_hit rfl e, e]
          · rw [up2_miss (by omega)]; exact h9 j g0 (by omega)
        · rw [up2_miss (by omega), show s + 1 + (j - (i + 1)) = s + (j - i) by omega]; exact hbx j (by omega) g1
      obtain ⟨J, j1, j2, j3⟩ := ih (s + 1) (i + 1) m τ _ (2, b + 11 + 4 * q) (by omega) (by omega) (by omega) hm8 F hw (BdN_le hB (by omega)) (by omega)
      refine ⟨J, j1, j2, fun x hx => ?_⟩
      rw [j3 x hx, gx x (by omega)]
theorem c_postAll (hb : 0 ≤ b) (hk : okC C) (hD : DA S b) (h : RelD C I b τ) (hw : WF C τ) (hB : BdN 100000000 τ) : ∃ J, ev (d + 3) 33 0 [(2, b), uU, uU, uU] [] S I = some (uU, S, J) ∧ RelD C J b (postlS C (τ 814).toNat 0 τ) ∧ OUTB b I J := by
  have o0 := hw.1.2.2.1.1
  have o8 := hw.1.2.2.1.2.1
  obtain ⟨h1, h2, h3, h4, h5, h6⟩ := h
  rw [E33_0]
  exact c_post1 hb hk hD (τ 814).toNat 0 0 (τ 814) τ I uU (by decide) (by decide) o0 o8 ⟨⟨h1.1, h1.2.1, h1.2.2.1, h1.2.2.2.1, h1.2.2.2.2.1⟩, h1.2.2.2.2.2.1, h1.2.2.2.2.2.2, h2, h3, h5, h6, by omega, fun j g0 g1 => by omega, fun j g0 g1 => by rw [show 0 + (j - 0) = j by omega]; exact h4 j g0 g1⟩ hw (BdN_le hB (by omega)) (by omega)
end r62
