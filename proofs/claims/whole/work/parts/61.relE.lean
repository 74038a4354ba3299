/-! what runs: ended or left, by the class */ -/
section r61
variable {d : Nat} {S : SS} {I : II} {C : CF} {ρ σ τ : RW} {b q id st res k a s i m : Int}
theorem done_oth (hW : W0 C τ) (hn : C.1 ≤ 5) (h0 : 0 ≤ k) (h1 : k < τ 493) (h8 : τ 814 + 1 + (if 0 ≤ τ (452 + 12 * k) then 1 else 0) ≤ 80) {j : Int} (hj : j < 494 ∨ 815 ≤ j ∧ (j < 828 ∨ 838 ≤ j)) : doneS τ k j = τ j := by
  have o0 := hW.2.2.1.1
  have r := hW.2.1.2.2 k h0 h1
  unfold run1OK at r
  obtain ⟨q0, q1, c1, n3, ca, hs⟩ := r
  unfold cmdOK at c1
  have i1 := @ite01 (0 ≤ τ (452 + 12 * k)) _
  have e1 : 445 + 12 * k + 3 = 448 + 12 * k := by omega
  have e2 : 446 + 12 * k + 2 = 448 + 12 * k := by omega
  have e3 : 445 + 12 * k + 2 = 447 + 12 * k := by omega
  have e4 : 446 + 12 * k + 1 = 447 + 12 * k := by omega
  have e5 : 445 + 12 * k + 8 = 453 + 12 * k := by omega
  rw [e2, e4] at c1
  unfold doneS
  simp only [e1, e3, e5]
  split
  · exact outS_oth o0 (by omega) (by omega)
  · split
    · rw [outS_oth (by rw [updR_miss (by omega)]; exact o0) (by rw [updR_miss (by omega)]; omega) (by omega), updR_miss (by omega)]
    · split
      · exact outS_oth o0 (by omega) (by omega)
      · rcases hs with hs | ⟨_, cs, hs3, _⟩
        · omega
        unfold cmdOK at cs
        rw [show 451 + 12 * k + 2 = 453 + 12 * k by omega] at cs
        rw [if_pos (by omega)] at h8
        split
        · rw [outS_oth (by rw [updR_miss (by omega), outS_814]; omega) (by rw [updR_miss (by omega), outS_814]; omega) (by omega), updR_miss (by omega), outS_oth o0 (by omega) (by omega)]
        · rw [outS_oth (by rw [outS_814]; omega) (by rw [outS_814]; omega) (by omega), outS_oth o0 (by omega) (by omega)]
def hq6 (C : CF) (I : II) (b : Int) (τ : RW) : Prop := I b 0 = C.1 ∧ I b 6 = τ 826 ∧ I b 7 = τ 827 ∧ I b 8 = τ 838 ∧ I b 9 = τ 839
def FinR (C : CF) (I : II) (b : Int) (τ : RW) (s i m : Int) : Prop := hq6 C I b τ ∧ I b 10 = m ∧ DV I b τ ∧ lansR C I b τ ∧ bitsR I b τ ∧ τ 493 = s + (m - i) ∧ (∀ j, 0 ≤ j → j < s → run1R I b τ j j ∧ I (b + 6) j = τ (456 + 12 * j)) ∧ (∀ j, i ≤ j → j < m → run1R I b τ j (s + (j - i)) ∧ I (b + 6) j = τ (456 + 12 * (s + (j - i))) + 1)
theorem hq6_congr {J : II} (hI : ∀ k, k = 0 ∨ 6 ≤ k ∧ k ≤ 9 → J b k = I b k) (hρ : ∀ j, (j = 826 ∨ j = 827 ∨ j = 838 ∨ j = 839) → σ j = τ j) (h : hq6 C I b τ) : hq6 C J b σ := by
  unfold hq6 at *
  rw [hI 0 (by omega), hI 6 (by omega), hI 7 (by omega), hI 8 (by omega), hI 9 (by omega), hρ 826 (by omega), hρ 827 (by omega), hρ 838 (by omega), hρ 839 (by omega)]
  exact h
/-- one that goes on */ -/
theorem fin_stay {J : II} (hs0 : 0 ≤ s) (hsi : s ≤ i) (him : i < m) (h : FinR C I b τ s i m)
    (hJ : J = up2 (up2 (up2 (up2 (up2 I (b + 6) i (τ (456 + 12 * s))) (b + 6) s (τ (456 + 12 * s))) (b + 7) s (I (b + 7) i)) (b + 8) s (I (b + 8) i)) (b + 9) s (I (b + 9) i)) : FinR C J b τ (s + 1) (i + 1) m := by
  obtain ⟨h1, h2, ⟨h3, h4, h5⟩, h6, h7, h8, h9, h10⟩ := h
  have ob : ∀ x, (x < b + 6 ∨ b + 9 < x) → J x = I x := fun x hx => by
    rw [hJ, up2_oth (by omega), up2_oth (by omega), up2_oth (by omega), up2_oth (by omega), up2_oth (by omega)]
  have oj : ∀ x j, b + 7 ≤ x → x ≤ b + 9 → j ≠ s → J x j = I x j := fun x j g0 g1 g2 => by
    rw [hJ, up2_miss (by omega), up2_miss (by omega), up2_miss (by omega), up2_oth (by omega), up2_oth (by omega)]
  have o6 : ∀ j, j ≠ s → j ≠ i → J (b + 6) j = I (b + 6) j := fun j g0 g1 => by
    rw [hJ, up2_oth (by omega), up2_oth (by omega), up2_oth (by omega), up2_miss (by omega), up2_miss (by omega)]
  have s6 : J (b + 6) s = τ (456 + 12 * s) := by rw [hJ, up2_oth (by omega), up2_oth (by omega), up2_oth (by omega), up2_hit rfl rfl]
  have s7 : J (b + 7) s = I (b + 7) i := by rw [hJ, up2_oth (by omega), up2_oth (by omega), up2_hit rfl rfl]
  have s8 : J (b + 8) s = I (b + 8) i := by rw [hJ, up2_oth (by omega), up2_hit rfl rfl]
  have s9 : J (b + 9) s = I (b + 9) i := by rw [hJ, up2_hit rfl rfl]
  refine ⟨hq6_congr (fun k _ => by rw [ob b (by omega)]) (fun _ _ => rfl) h1, by rw [ob b (by omega)]; exact h2, ⟨by rw [ob b (by omega)]; exact h3, arR_congr (fun a a0 a1 => ob a (by omega)) (fun _ _ _ => rfl) h4, fun k g0 g1 => by rw [ob _ (by omega)]; exact h5 k g0 g1⟩, fun q g0 g1 => laneR_congr g0 g1 (fun x x0 x1 => ob x (by omega)) (fun _ _ _ => rfl) (h6 q g0 g1), bitsR_congr (fun q g0 g1 => by rw [ob _ (by omega)]) (fun _ => rfl) h7, by omega, fun j g0 g1 => ?_, fun j g0 g1 => ?_⟩
  · by_cases e : j = s
    · subst e
      have r := (h10 i (Int.le_refl _) him).1
      rw [Int.sub_self, Int.add_zero] at r
      unfold run1R at *
      rw [s6, s7, s8, s9]
      exact ⟨r, rfl⟩
    · obtain ⟨r1, r2⟩ := h9 j g0 (by omega)
      refine ⟨run1R_congr (fun x x0 x1 => oj x j x0 x1 e) (fun _ _ _ => rfl) r1, ?_⟩
      rw [o6 j e (by omega)]; exact r2
  · obtain ⟨r1, r2⟩ := h10 j (by omega) g1
    rw [show s + 1 + (j - (i + 1)) = s + (j - i) by omega]
    refine ⟨run1R_congr (fun x x0 x1 => oj x j x0 x1 (by omega)) (fun _ _ _ => rfl) r1, ?_⟩
    rw [o6 j (by omega) (by omega)]; exact r2
/-- one that ends */ -/
theorem fin_end {J : II} {v : Int} (hw : WF C τ) (hn : C.1 ≤ 5) (hs0 : 0 ≤ s) (hsi : s ≤ i) (him : i < m) (h : FinR C I b τ s i m) (hd : DV J b (doneS τ s)) (hc : CK b (up2 I (b + 6) i v) J) : FinR C J b (endsS τ s) s (i + 1) m := by
  obtain ⟨h1, h2, h3, h6, h7, h8, h9, h10⟩ := h
  have r4 := hw.1.2.1.2.1
  have hk : s < τ 493 := by omega
  have m1 := runm_ge hs0 hk
  have m2 := out_room hw hn
  obtain ⟨e1, e2, e3, _⟩ := ends_WF hw hn hs0 hk
  have dw := (done_W0 hw.1 hn hs0 hk (by omega)).1
  have dd : ∀ j, (j < 494 ∨ 815 ≤ j ∧ (j < 828 ∨ 838 ≤ j)) → doneS τ s j = τ j := fun j hj => done_oth hw.1 hn hs0 hk (by omega) hj
  have d93 := dd 493 (by omega)
  have jb : ∀ k, k ≠ 15 → J b k = I b k := fun k hk => by rw [hc.1 k hk, up2_oth (by omega)]
  have jx : ∀ x, x ≠ b → x ≠ b + 2 → x ≠ b + 10 → x ≠ b + 6 → J x = I x := fun x g0 g1 g2 g3 => by rw [hc.2 x g0 g1 g2, up2_oth g3]
  have j6 : ∀ j, j ≠ i → J (b + 6) j = I (b + 6) j := fun j g => by rw [hc.2 (b + 6) (by omega) (by omega) (by omega), up2_miss (by omega)]
  have eo : ∀ j, (j < 445 ∨ 815 ≤ j ∧ (j < 828 ∨ 838 ≤ j)) → endsS τ s j = τ j := fun j hj => by
    unfold endsS
    rcases (by omega : j < 445 ∨ 815 ≤ j) with g | g
    · rw [runGo_lo (by omega) (by omega)]; exact dd j (by omega)
    · rw [runGo_oth (by omega) (by omega)]; exact dd j (by omega)
  have eh : ∀ j, 494 ≤ j → endsS τ s j = doneS τ s j := fun j hj => by unfold endsS; exact runGo_oth (by omega) (by omega)
  refine ⟨hq6_congr (fun k _ => jb k (by omega)) (fun j _ => eo j (by omega)) h1, by rw [jb 10 (by decide)]; exact h2, ⟨?_, ?_, ?_⟩, fun q g0 g1 => laneR_congr g0 g1 (fun x x0 x1 => jx x (by omega) (by omega) (by omega) (by omega)) (fun j j0 j1 => eo j (by omega)) (h6 q g0 g1), bitsR_congr (fun q g0 g1 => by rw [jx _ (by omega) (by omega) (by omega) (by omega)]) e2 h7, by omega, fun j g0 g1 => ?_, fun j g0 g1 => ?_⟩
  · rw [eh 814 (by decide)]; exact hd.1
  · exact arR_congr (fun _ _ _ => rfl) (fun j g0 g1 => eh j (by omega)) hd.2.1
  · exact boxR_congr dw.2.2.1.2.1 rfl (fun j g0 g1 => eh j (by omega)) hd.2.2
  · obtain ⟨r1, r2⟩ := h9 j g0 g1
    have ej : ∀ x, 445 + 12 * j ≤ x → x < 445 + 12 * s → endsS τ s x = τ x := fun x x0 x1 => by
      unfold endsS; rw [runGo_lo (by omega) (by omega)]; exact dd x (by omega)
    refine ⟨run1R_congr (fun x x0 x1 => by rw [jx x (by omega) (by omega) (by omega) (by omega)]) (fun x x0 x1 => ej _ (by omega) (by omega)) r1, ?_⟩
    rw [j6 j (by omega), ej _ (by omega) (by omega)]; exact r2
  · obtain ⟨r1, r2⟩ := h10 j (by omega) g1
    have ej : ∀ x, 0 ≤ x → x < 12 → endsS τ s (445 + 12 * (s + (j - (i + 1))) + x) = τ (445 + 12 * (s + (j - i)) + x) := fun x x0 x1 => by
      unfold endsS
      rw [runGo_hi (by omega) (by omega) (by omega), dd _ (by omega)]
      congr 1; omega
    refine ⟨run1R_congr (fun x x0 x1 => by rw [jx x (by omega) (by omega) (by omega) (by omega)]) (fun x x0 x1 => ej x x0 (by omega)) r1, ?_⟩
    have := ej 11 (by decide) (by decide)
    rw [show 445 + 12 * (s + (j - (i + 1))) + 11 = 456 + 12 * (s + (j - (i + 1))) by omega, show 445 + 12 * (s + (j - i)) + 11 = 456 + 12 * (s + (j - i)) by omega] at this
    rw [j6 j (by omega), this]; exact r2
theorem c_fin1 {N : Int} (hN : 100 ≤ N) (hN1 : N < 1073741824) (hn : C.1 ≤ 5) (hD : DA S b) : ∀ (n : Nat) (s i m : Int) (τ : RW) (I : II), 0 ≤ s → s ≤ i → i ≤ m → m ≤ 4 → FinR C I b τ s i m → WF C τ → lftOK 0 τ → BdN N τ → n = (m - i).toNat →
    ∃ J, ev (d + 3) 26 4 [(2, b), (0, s), (0, i)] [] S I = some (uU, S, J) ∧ RelD C J b (endlS n s τ) ∧ OUTB b I J := by
  intro n
  induction n with
  | zero =>
    intro s i m τ I hs0 hsi him hm4 h hw hl hB hnn
    obtain ⟨h1, h2, h3, h6, h7, h8, h9, h10⟩ := h
    have oth : ∀ x, x ≠ b → up2 I b 10 s x = I x := fun x hx => up2_oth hx
    have otk : ∀ k, k ≠ 10 → up2 I b 10 s b k = I b k := fun k hk => up2_miss (by omega)
    rw [E26_4 hD, h2, w_small (z := i) (by omega) (by omega), w_small (z := m) (by omega) (by omega), if_neg (by omega), E26_105 hD, endlS]
    refine ⟨_, rfl, ⟨⟨?_, ?_, ?_, ?_, ?_, up2_hit rfl rfl |>.trans (by omega), ?_⟩, arR_congr (fun a a0 a1 => oth a (by omega)) (fun _ _ _ => rfl) h3.2.1, fun k g0 g1 => ?_, fun k g0 g1 => by rw [oth _ (by omega)]; exact h3.2.2 k g0 g1, fun q g0 g1 => laneR_congr g0 g1 (fun x x0 x1 => oth x (by omega)) (fun _ _ _ => rfl) (h6 q g0 g1), bitsR_congr (fun q g0 g1 => by rw [oth _ (by omega)]) (fun _ => rfl) h7⟩, fun x hx => oth x (by omega)⟩
    · rw [otk 0 (by decide)]; exact h1.1
    · rw [otk 6 (by decide)]; exact h1.2.1
    · rw [otk 7 (by decide)]; exact h1.2.2.1
    · rw [otk 8 (by decide)]; exact h1.2.2.2.1
    · rw [otk 9 (by decide)]; exact h1.2.2.2.2
    · rw [otk 15 (by decide)]; exact h3.1
    · obtain ⟨r1, r2⟩ := h9 k g0 (by omega)
      exact ⟨run1R_congr (fun x x0 x1 => by rw [oth x (by omega)]) (fun _ _ _ => rfl) r1, by rw [oth _ (by omega)]; exact r2⟩
  | succ n ih =>
    intro s i m τ I hs0 hsi him hm4 h hw hl hB hnn
    have him' : i < m := by omega
    obtain ⟨h1, h2, h3, h6, h7, h8, h9, h10⟩ := id h
    obtain ⟨⟨e7, e8, e9⟩, e6⟩ := h10 i (Int.le_refl _) him'
    rw [Int.sub_self, Int.add_zero] at e6 e7 e8 e9
    have hk : s < τ 493 := by omega
    have m1 := runm_ge hs0 hk
    have m2 := out_room hw hn
    have i1 := @ite01 (0 ≤ τ (452 + 12 * s)) _
    have lf := hl s hs0 hk
    have r := hw.1.2.1.2.2 s hs0 hk
    unfold run1OK at r
    obtain ⟨q0, q1, c1, n3, cz, hp⟩ := r
    rw [E26_4 hD, h2, w_small (z := i) (by omega) (by omega), w_small (z := m) (by omega) (by omega), if_pos him', if_pos (by omega), gdR_pos (by omega), gdR_pos (by omega), gdR_pos (by omega), e6, show τ (456 + 12 * s) + 1 - 1 = τ (456 + 12 * s) by omega, w_small (z := τ (456 + 12 * s)) (by omega) (by omega), endlS]
    by_cases g : τ (456 + 12 * s) = 0
    · rw [if_neg (by omega), if_pos g, gdR_pos (by omega)]
      have dv : DV (up2 I (b + 6) i (τ (456 + 12 * s))) b τ := ⟨by rw [up2_oth (by omega)]; exact h3.1, arR_congr (fun a a0 a1 => up2_oth (by omega)) (fun _ _ _ => rfl) h3.2.1, fun k g0 g1 => by rw [up2_oth (by omega)]; exact h3.2.2 k g0 g1⟩
      obtain ⟨w1, w2, w3, w4⟩ := ends_WF hw hn hs0 hk
      have d3 := (done_W0 hw.1 hn hs0 hk (by omega)).2.2
      have bE : BdN N (endsS τ s) := BdN_runGo (BdN_done hB hN hw.1 hn hs0 hk (by omega)) (by omega) (by rw [d3 493 (by decide) (by decide)]; omega) (by rw [d3 493 (by decide) (by decide)]; omega)
      have go : ∀ G : II, DV G b (doneS τ s) → CK b (up2 I (b + 6) i (τ (456 + 12 * s))) G → ∃ J, ev (d + 3) 26 99 [(2, b), (0, s), (0, i)] [] S G = some (uU, S, J) ∧ RelD C J b (endlS n s (endsS τ s)) ∧ OUTB b I J := by
        intro G dG cG
        obtain ⟨J, j1, j2, j3⟩ := ih s (i + 1) m (endsS τ s) G hs0 (by omega) (by omega) hm4 (fin_end hw hn hs0 hsi him' h dG cG) w1 (w4 0 hl) bE (by omega)
        refine ⟨J, by rw [E26_99]; exact j1, j2, fun x hx => ?_⟩
        rw [j3 x hx, cG.2 x (by omega) (by omega) (by omega), up2_oth (by omega)]
      rcases hp with hp | ⟨p2, c2, s3, sz⟩
      · have e9' : I (b + 9) i = -1 := by rw [e9, if_pos (by omega)]
        rw [if_neg (by omega)] at m1
        rw [e9', if_pos (show w (-1) = -1 by decide), gdR_pos (by omega), gdR_pos (by omega), e7, e8]
        obtain ⟨G, g1, g2, g3⟩ := c_complete (d := d) (S := S) hD dv hw.1 hn hs0 hk (by omega) (by omega)
        rw [g1]
        simp only [Option.bind_some, psh_u]
        rw [E26_74]
        exact go G g2 g3
      · have e9' : I (b + 9) i = pkA τ (451 + 12 * s) := by rw [e9, if_neg (by omega)]
        have pb := pkA_b c2
        rw [if_pos (by omega)] at m1
        rw [e9', w_small (z := pkA τ (451 + 12 * s)) (by omega) (by omega), if_neg (by omega), gdR_pos (by omega), gdR_pos (by omega), gdR_pos (by omega), e7, e8]
        obtain ⟨G, g1, g2, g3⟩ := c_compPair (d := d) (S := S) hD dv hw.1 hn hs0 hk (by omega) (by omega)
        rw [g1]
        simp only [Option.bind_some, psh_u]
        exact go G g2 g3
    · rw [if_pos (by omega), if_neg g, E27_0 hD, w_small (z := i) (by omega) (by omega), w_small (z := s) (by omega) (by omega), if_neg (by omega), if_pos (by omega), if_neg (by omega), if_pos (by omega), gdR_pos (by omega), gdR_pos (by omega), gdR_pos (by omega), gdR_pos (by omega), gdR_pos (by omega), gdR_pos (by omega), gdR_pos (by omega), gdR_pos (by omega)]
      simp only [Option.bind_some, psh_u]
      rw [E26_42, E26_99, up2_hit rfl rfl, up2_oth (show b + 7 ≠ b + 6 by omega), up2_oth (show b + 8 ≠ b + 6 by omega), up2_oth (show b + 9 ≠ b + 6 by omega)]
      obtain ⟨J, j1, j2, j3⟩ := ih (s + 1) (i + 1) m τ _ (by omega) (by omega) (by omega) hm4 (fin_stay hs0 hsi him' h rfl) hw hl hB (by omega)
      refine ⟨J, j1, j2, fun x hx => ?_⟩
      rw [j3 x hx, up2_oth (by omega), up2_oth (by omega), up2_oth (by omega), up2_oth (by omega), up2_oth (by omega)]
/-- finish: the first two steps of A TICK */ -/
theorem c_finish {N : Int} (hN : 100 ≤ N) (hN1 : N < 1073741824) (hn : C.1 ≤ 5) (hD : DA S b) (h : RelD C I b ρ) (hw : WF C ρ) (hl : lftOK 1 ρ) (hB : BdN N ρ) :
    ∃ J, ev (d + 3) 26 0 [(2, b), uU, uU] [] S I = some (uU, S, J) ∧ RelD C J b (tk2S ρ) ∧ OUTB b I J := by
  have r0 := hw.1.2.1.1
  have r4 := hw.1.2.1.2.1
  have o8 := hw.1.2.2.1.2.1
  obtain ⟨h1, h2, h3, h4, h5, h6⟩ := h
  obtain ⟨a1, a2, a3, a4⟩ := decs_all (ρ 493).toNat 0 ρ hw.1 (by decide) (by omega)
  have a5 := BdN_decs (N := N) (ρ 493).toNat 0 ρ hB (fun i g0 g1 => by have := hl i g0 (by omega); omega)
  rw [show decsS (ρ 493).toNat 0 ρ = tk1S ρ from rfl] at a1 a2 a3 a4 a5
  have e1 : tk1S ρ 493 = ρ 493 := a3 493 (fun i _ _ => by omega)
  have w1 : WF C (tk1S ρ) := ⟨a1, fun z => by rw [a2]; exact hw.2 z⟩
  have l0 : lftOK 0 (tk1S ρ) := fun i g0 g1 => by
    rw [e1] at g1
    have := hl i g0 g1
    rw [a4 i g0 (by omega)]; omega
  have ee : ∀ j, (j < 445 ∨ 493 ≤ j) → tk1S ρ j = ρ j := fun j hj => a3 j (fun i _ _ => by omega)
  rw [E26_0]
  have F : FinR C I b (tk1S ρ) 0 0 (ρ 493) := by
    refine ⟨hq6_congr (fun _ _ => rfl) (fun j hj => ee j (by omega)) ⟨h1.1, h1.2.1, h1.2.2.1, h1.2.2.2.1, h1.2.2.2.2.1⟩, h1.2.2.2.2.2.1, ⟨by rw [ee 814 (by decide)]; exact h1.2.2.2.2.2.2, arR_congr (fun _ _ _ => rfl) (fun j g0 g1 => ee j (by omega)) h2, boxR_congr o8 rfl (fun j g0 g1 => ee j (by omega)) h4⟩, fun q g0 g1 => laneR_congr g0 g1 (fun _ _ _ => rfl) (fun j j0 j1 => ee j (by omega)) (h5 q g0 g1), bitsR_congr (fun _ _ _ => rfl) a2 h6, by omega, fun j g0 g1 => by omega, fun j g0 g1 => ?_⟩
    obtain ⟨r1, r2⟩ := h3 j g0 g1
    rw [show 0 + (j - 0) = j by omega]
    refine ⟨run1R_congr (fun _ _ _ => rfl) (fun x x0 x1 => a3 _ (fun i _ _ => by omega)) r1, ?_⟩
    rw [a4 j g0 (by omega), r2]; omega
  obtain ⟨J, j1, j2, j3⟩ := c_fin1 (d := d) hN hN1 hn hD (ρ 493).toNat 0 0 (ρ 493) (tk1S ρ) I (by decide) (by decide) r0 r4 F w1 l0 a5 (by rw [Int.sub_zero])
  refine ⟨J, j1, ?_, j3⟩
  unfold tk2S
  rw [e1]; exact j2
end r61
