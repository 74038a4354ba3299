/-! bells and taking, by the class */ -/
section r67
variable {d : Nat} {S : SS} {I J : II} {C : CF} {ρ σ : RW} {b q id op bl v k a : Int}
theorem cnt_838 (hW : W0 C ρ) {j0 v : Int} (hj : 815 ≤ j0) (z : Int) : cnt (updR ρ j0 v) z = cnt ρ z := cnt_low hW (fun j g0 g1 _ g2 => updR_miss (by omega))
theorem W0_838 (hW : W0 C ρ) {j0 v : Int} (hj : j0 = 838 ∨ j0 = 839) (hv : 0 ≤ v) : W0 C (updR ρ j0 v) := by
  obtain ⟨m1, m2, m3, m4, m5, m6, m7, m8, m9⟩ := hW.2.2.2.1
  refine (misc_W0 (σ := updR ρ j0 v) hW (fun j g0 g1 g2 => updR_miss (by omega)) ⟨fun j g0 g1 => by rw [updR_miss (by omega)]; exact m1 j g0 g1, fun j g0 g1 => by rw [updR_miss (by omega)]; exact m2 j g0 g1, fun j g0 g1 => by rw [updR_miss (by omega)]; exact m3 j g0 g1, fun j g0 g1 => by rw [updR_miss (by omega)]; exact m4 j g0 g1, by rw [updR_miss (by omega)]; exact m5, by rw [updR_miss (by omega)]; exact m6, by rw [updR_miss (by omega)]; exact m7, ?_, ?_⟩).1
  · by_cases e : (838 : Int) = j0
    · rw [updR_hit e]; exact hv
    · rw [updR_miss e]; exact m8
  · by_cases e : (839 : Int) = j0
    · rw [updR_hit e]; exact hv
    · rw [updR_miss e]; exact m9
theorem see_cnt (hW : W0 C ρ) (h0 : 0 ≤ q) (h1 : q < 5) (z : Int) : cnt (seeR ρ q a) z = cnt ρ z := cnt_low hW (fun j g0 g1 g2 g3 => by
  have := g2 q h0 h1
  unfold seeR rngR; rw [updR_miss this.2.2.2.2, updR_miss this.2.1, updR_miss this.1])
theorem rng_cnt (hW : W0 C ρ) (h0 : 0 ≤ q) (h1 : q < 5) (z : Int) : cnt (rngR ρ q) z = cnt ρ z := cnt_low hW (fun j g0 g1 g2 g3 => by
  have := g2 q h0 h1
  unfold rngR; rw [updR_miss this.1])
theorem ringsS_eq : ringsS C ρ q = if 0 ≤ q ∧ q < C.1 then (if ρ (89 * q + 1) = ρ (89 * q) then (-2, ρ) else if C.2.2.2.2 q = 0 ∨ ρ (89 * q + 1) ≤ ρ (89 * q + 7) ∧ ρ (89 * q + 7) < ρ (89 * q) then (1, updR (seeR ρ q (C.2.2.2.2 q)) 838 (ρ 838 + 1)) else (0, updR (rngR ρ q) 839 (ρ 839 + 1))) else (-1, ρ) := rfl
theorem ringsS_WF {N : Int} (h : WF C ρ) (hk : okC C) (hB : BdN N ρ) (hN : 100 ≤ N) : WF C (ringsS C ρ q).2 ∧ BdN (N + 1) (ringsS C ρ q).2 ∧ (∀ lo, lftOK lo ρ → lftOK lo (ringsS C ρ q).2) := by
  have hn := hk.2.1
  have m := h.1.2.2.2.1
  have hB' := BdN_le hB (show N ≤ N + 1 by omega)
  have b8 := hB 838
  have b9 := hB 839
  rw [ringsS_eq]
  by_cases g : 0 ≤ q ∧ q < C.1
  · have kk := hk.2.2 q g.1 g.2
    have bw := hB' (89 * q)
    rw [if_pos g]
    by_cases g1 : ρ (89 * q + 1) = ρ (89 * q)
    · rw [if_pos g1]; exact ⟨h, hB', fun _ hl => hl⟩
    · rw [if_neg g1]
      by_cases g2 : C.2.2.2.2 q = 0 ∨ ρ (89 * q + 1) ≤ ρ (89 * q + 7) ∧ ρ (89 * q + 7) < ρ (89 * q)
      · rw [if_pos g2]
        have w := see_W0 (a := C.2.2.2.2 q) h.1 g.1 (by omega) g.2 (by omega)
        refine ⟨⟨W0_838 w (Or.inl rfl) (by have := m.2.2.2.2.2.2.2.1; omega), fun z => ?_⟩, ?_, fun lo hl => lftOK_congr (fun j j0 j1 => ?_) h.1.2.1.2.1 hl⟩
        · rw [cnt_838 w (by decide), see_cnt h.1 g.1 (by omega)]; exact h.2 z
        · exact BdN_upd (BdN_upd (BdN_upd (BdN_upd hB' bw.1 bw.2) bw.1 bw.2) (by omega) (by omega)) (by omega) (by omega)
        · unfold seeR rngR; simp (disch := omega) only [updR_miss]
      · rw [if_neg g2]
        have w := rng_W0 h.1 g.1 (show q < 5 by omega)
        refine ⟨⟨W0_838 w (Or.inr rfl) (by have := m.2.2.2.2.2.2.2.2; omega), fun z => ?_⟩, ?_, fun lo hl => lftOK_congr (fun j j0 j1 => ?_) h.1.2.1.2.1 hl⟩
        · rw [cnt_838 w (by decide), rng_cnt h.1 g.1 (by omega)]; exact h.2 z
        · exact BdN_upd (BdN_upd hB' bw.1 bw.2) (by omega) (by omega)
        · unfold rngR; simp (disch := omega) only [updR_miss]
  · rw [if_neg g]; exact ⟨h, hB', fun _ hl => hl⟩
theorem RelD_hd8 (h : RelD C I b ρ) (hW : W0 C ρ) {f j0 v : Int} (hf : f = 8 ∧ j0 = 838 ∨ f = 9 ∧ j0 = 839) : RelD C (up2 I b f v) b (updR ρ j0 v) := by
  obtain ⟨⟨d0, d6, d7, d8, d9, d10, d15⟩, h2, h3, h4, h5, h6⟩ := h
  have jx : ∀ x, x ≠ b → up2 I b f v x = I x := fun x hx => up2_oth hx
  have oo : ∀ j, j ≠ j0 → updR ρ j0 v j = ρ j := fun j g => updR_miss g
  refine ⟨⟨by rw [up2_miss (by omega)]; exact d0, by rw [up2_miss (by omega), oo 826 (by omega)]; exact d6, by rw [up2_miss (by omega), oo 827 (by omega)]; exact d7, ?_, ?_, by rw [up2_miss (by omega), oo 493 (by omega)]; exact d10, by rw [up2_miss (by omega), oo 814 (by omega)]; exact d15⟩, arR_congr (fun a a0 a1 => jx a (by omega)) (fun j j0 j1 => oo j (by omega)) h2, runsR_congr hW.2.1.2.1 (fun a a0 a1 => jx a (by omega)) (fun j j0 j1 => oo j (by omega)) h3, boxR_congr hW.2.2.1.2.1 (jx _ (by omega)) (fun j j0 j1 => oo j (by omega)) h4, fun q g0 g1 => laneR_congr g0 g1 (fun x x0 x1 => jx x (by omega)) (fun j j0 j1 => oo j (by omega)) (h5 q g0 g1), bitsR_congr (fun q g0 g1 => by rw [jx _ (by omega)]) (fun z => cnt_838 hW (by omega) z) h6⟩
  · rcases hf with ⟨rfl, rfl⟩ | ⟨rfl, rfl⟩
    · rw [up2_hit rfl rfl, updR_hit rfl]
    · rw [up2_miss (by omega), updR_miss (by decide)]; exact d8
  · rcases hf with ⟨rfl, rfl⟩ | ⟨rfl, rfl⟩
    · rw [up2_miss (by omega), updR_miss (by decide)]; exact d9
    · rw [up2_hit rfl rfl, updR_hit rfl]
/-- a lane's fields alone are others */ -/
theorem RelD_fld (h : RelD C I b ρ) (hW : W0 C ρ) (h0 : 0 ≤ q) (h1 : q < 5) (hI : ∀ x, x ≠ b + 11 + 4 * q → J x = I x) (h13 : J (b + 11 + 4 * q) 13 = I (b + 11 + 4 * q) 13) (hρ : ∀ j, 0 ≤ j → j < 844 → j ≠ 89 * q + 1 → j ≠ 89 * q + 2 → j ≠ 89 * q + 7 → j ≠ 89 * q + 8 → σ j = ρ j) (hf : lanfR C J (b + 11 + 4 * q) σ q) (hc : ∀ z, cnt σ z = cnt ρ z) : RelD C J b σ := by
  obtain ⟨lf, lr, lp, l13⟩ := h.2.2.2.2.1 q h0 h1
  have hI' : ∀ x, b ≤ x → x < b + 31 → (x < b + 11 + 4 * q ∨ b + 15 + 4 * q ≤ x) → J x = I x := fun x _ _ hx => hI x (by omega)
  refine RelD_q h hW h0 h1 hI' (fun j hj => hρ j (by omega) (by omega) (by omega) (by omega) (by omega) (by omega)) ⟨hf, ⟨fun k k0 k1 => ?_, by rw [hI _ (by omega)]; exact lr.2⟩, fun k k0 k1 => ?_, by rw [h13]; exact l13⟩ (bitsR_q h.2.2.2.2.2 hI' h13 hc)
  · rw [hρ _ (by omega) (by omega) (by omega) (by omega) (by omega) (by omega)] at k0 k1
    have rb := rAt_b (q := q) (k := k) h0 h1
    rw [hI _ (by omega), lr.1 k k0 k1, pkA_congr (fun j j0 j1 => hρ _ (by omega) (by omega) (by omega) (by omega) (by omega) (by omega))]
  · rw [hρ _ (by omega) (by omega) (by omega) (by omega) (by omega) (by omega)] at k0 k1
    have pb := pAt_b (q := q) (k := k) h0 h1
    have := lp k k0 k1
    unfold pkP at *
    rw [hI _ (by omega), hI _ (by omega), hρ _ (by omega) (by omega) (by omega) (by omega) (by omega) (by omega), hρ _ (by omega) (by omega) (by omega) (by omega) (by omega) (by omega), hρ _ (by omega) (by omega) (by omega) (by omega) (by omega) (by omega), hρ _ (by omega) (by omega) (by omega) (by omega) (by omega) (by omega)]
    exact this
theorem c_bell {N : Int} (hb : 0 ≤ b) (hD : DA S b) (h : RelD C I b ρ) (hw : WF C ρ) (hk : okC C) (hB : BdN N ρ) (hN : N < 1073741824) (hq : isI q) :
    ∃ J, ev (d + 2) 22 0 [(2, b), (0, q), uU, uU] [] S I = some ((0, (ringsS C ρ q).1), S, J) ∧ RelD C J b (ringsS C ρ q).2 ∧ OUTB b I J := by
  have hn := hk.2.1
  rw [E22_0 hD, c_lane hD h.1 hk hq, ringsS_eq]
  simp only [Option.bind_some, psh_r]
  by_cases g : 0 ≤ q ∧ q < C.1
  · have hL := DA_lane hD g.1 (show q < 5 by omega)
    have hl := h.2.2.2.2.1 q g.1 (by omega)
    have kk := hk.2.2 q g.1 g.2
    have c1 := (hw.1.1 q g.1 (by omega)).1
    unfold cntsOK at c1
    have b0 := hB (89 * q)
    have b1 := hB (89 * q + 1)
    have b7 := hB (89 * q + 7)
    have e8 : I b 8 = ρ 838 := h.1.2.2.2.1
    have e9 : I b 9 = ρ 839 := h.1.2.2.2.2.1
    obtain ⟨⟨l0, l3, f4, f5, f6, f7, f8, f9, f10, f11, f12⟩, lr, lp, l13⟩ := id hl
    obtain ⟨k0, k1, k2, k3⟩ := l0 g.2
    rw [if_pos g, if_pos g, E22_5 (Or.inr hL), if_neg (by omega), E80_0 hL, f5, f4, f11, k3, w_small (z := ρ (89 * q + 1)) (by omega) (by omega), w_small (z := ρ (89 * q)) (by omega) (by omega), w_small (z := C.2.2.2.2 q) (by omega) (by omega), w_small (z := ρ (89 * q + 7)) (by omega) (by omega)]
    by_cases g1 : ρ (89 * q + 1) = ρ (89 * q)
    · rw [if_pos g1, if_pos g1]
      simp only [Option.bind_some, psh_i]
      rw [E22_16 hD, if_neg (by decide), E22_32 hD, if_neg (by decide), E22_46]
      exact ⟨I, rfl, h, OUTB_refl b I⟩
    · rw [if_neg g1, if_neg g1]
      have jx : ∀ x, x ≠ b + 11 + 4 * q → up2 I (b + 11 + 4 * q) 5 (ρ (89 * q)) x = I x := fun x hx => up2_oth hx
      have jk : ∀ k, k ≠ 5 → up2 I (b + 11 + 4 * q) 5 (ρ (89 * q)) (b + 11 + 4 * q) k = I (b + 11 + 4 * q) k := fun k hk => up2_miss (by omega)
      have j5 : up2 I (b + 11 + 4 * q) 5 (ρ (89 * q)) (b + 11 + 4 * q) 5 = ρ (89 * q) := up2_hit rfl rfl
      rw [E80_53, E80_55 hL, j5, jk 3 (by decide), k3, gdR_pos (by omega)]
      -- seen
      have see : ∃ J, ev (d + 2) 22 16 [(2, b), (0, q), (2, b + 11 + 4 * q), uU] [(0, 1)] S (up2 (up2 (up2 I (b + 11 + 4 * q) 5 (ρ (89 * q))) (b + 11 + 4 * q) 6 (ρ (89 * q))) (b + 11 + 4 * q) 12 (C.2.2.2.2 q)) = some ((0, 1), S, J) ∧ RelD C J b (updR (seeR ρ q (C.2.2.2.2 q)) 838 (ρ 838 + 1)) ∧ OUTB b I J := by
        have w := see_W0 (a := C.2.2.2.2 q) hw.1 g.1 (by omega) g.2 (by omega)
        have oth : ∀ j, j ≠ 89 * q + 1 → j ≠ 89 * q + 2 → j ≠ 89 * q + 8 → seeR ρ q (C.2.2.2.2 q) j = ρ j := fun j h2 h3 h4 => by unfold seeR rngR; rw [updR_miss h4, updR_miss h3, updR_miss h2]
        have s1 : seeR ρ q (C.2.2.2.2 q) (89 * q + 1) = ρ (89 * q) := by unfold seeR rngR; simp (disch := omega) only [updR_miss, updR_hit]
        have s2 : seeR ρ q (C.2.2.2.2 q) (89 * q + 2) = ρ (89 * q) := by unfold seeR rngR; simp (disch := omega) only [updR_miss, updR_hit]
        have s8 : seeR ρ q (C.2.2.2.2 q) (89 * q + 8) = C.2.2.2.2 q := by unfold seeR rngR; simp (disch := omega) only [updR_miss, updR_hit]
        rw [E22_16 hD, if_pos (by decide), E22_32 hD, if_neg (by decide), E22_46, up2_oth (show b ≠ b + 11 + 4 * q by omega), up2_oth (show b ≠ b + 11 + 4 * q by omega), up2_oth (show b ≠ b + 11 + 4 * q by omega), e8]
        refine ⟨_, rfl, RelD_hd8 (RelD_fld h hw.1 g.1 (by omega) (fun x hx => by rw [up2_oth hx, up2_oth hx, up2_oth hx]) (by rw [up2_miss (by omega), up2_miss (by omega), up2_miss (by omega)]) (fun j x0 x1 x2 x3 x4 x5 => oth j x2 x3 x5) ?_ (see_cnt hw.1 g.1 (by omega))) w (Or.inl ⟨rfl, rfl⟩), fun x hx => by rw [up2_oth (by omega), up2_oth (by omega), up2_oth (by omega), up2_oth (by omega)]⟩
        unfold lanfR
        simp (disch := omega) only [up2_hit, up2_miss]
        rw [s1, s2, s8, oth _ (by omega) (by omega) (by omega), oth _ (by omega) (by omega) (by omega), oth _ (by omega) (by omega) (by omega), oth _ (by omega) (by omega) (by omega), oth _ (by omega) (by omega) (by omega), oth _ (by omega) (by omega) (by omega)]
        exact ⟨l0, l3, f4, rfl, rfl, f7, f8, f9, f10, f11, rfl⟩
      -- not seen
      have sav : ∃ J, ev (d + 2) 22 16 [(2, b), (0, q), (2, b + 11 + 4 * q), uU] [(0, 0)] S (up2 I (b + 11 + 4 * q) 5 (ρ (89 * q))) = some ((0, 0), S, J) ∧ RelD C J b (updR (rngR ρ q) 839 (ρ 839 + 1)) ∧ OUTB b I J := by
        have w := rng_W0 hw.1 g.1 (show q < 5 by omega)
        have oth : ∀ j, j ≠ 89 * q + 1 → rngR ρ q j = ρ j := fun j h2 => by unfold rngR; rw [updR_miss h2]
        have s1 : rngR ρ q (89 * q + 1) = ρ (89 * q) := by unfold rngR; exact updR_hit rfl
        rw [E22_16 hD, if_neg (by decide), E22_32 hD, if_pos (by decide), E22_46, up2_oth (show b ≠ b + 11 + 4 * q by omega), e9]
        refine ⟨_, rfl, RelD_hd8 (RelD_fld h hw.1 g.1 (by omega) jx (jk 13 (by decide)) (fun j x0 x1 x2 x3 x4 x5 => oth j x2) ?_ (rng_cnt hw.1 g.1 (by omega))) w (Or.inr ⟨rfl, rfl⟩), fun x hx => by rw [up2_oth (by omega), up2_oth (by omega)]⟩
        unfold lanfR
        simp (disch := omega) only [up2_hit, up2_miss]
        rw [s1, oth _ (by omega), oth _ (by omega), oth _ (by omega), oth _ (by omega), oth _ (by omega), oth _ (by omega), oth _ (by omega), oth _ (by omega)]
        exact ⟨l0, l3, f4, rfl, f6, f7, f8, f9, f10, f11, f12⟩
      by_cases g2 : C.2.2.2.2 q = 0
      · rw [if_pos g2, if_pos (Or.inl g2)]
        simp only [Option.bind_some, psh_i]
        exact see
      · rw [if_neg g2]
        by_cases g3 : ρ (89 * q + 7) < ρ (89 * q + 1)
        · rw [if_pos g3, if_neg (show ¬ (C.2.2.2.2 q = 0 ∨ ρ (89 * q + 1) ≤ ρ (89 * q + 7) ∧ ρ (89 * q + 7) < ρ (89 * q)) by omega)]
          simp only [Option.bind_some, psh_i]
          exact sav
        · rw [if_neg g3]
          by_cases g4 : ρ (89 * q + 7) < ρ (89 * q)
          · rw [if_pos g4, if_pos (show C.2.2.2.2 q = 0 ∨ ρ (89 * q + 1) ≤ ρ (89 * q + 7) ∧ ρ (89 * q + 7) < ρ (89 * q) by omega)]
            simp only [Option.bind_some, psh_i]
            exact see
          · rw [if_neg g4, if_neg (show ¬ (C.2.2.2.2 q = 0 ∨ ρ (89 * q + 1) ≤ ρ (89 * q + 7) ∧ ρ (89 * q + 7) < ρ (89 * q)) by omega)]
            simp only [Option.bind_some, psh_i]
            exact sav
  · rw [if_neg g, if_neg g, E22_5 (Or.inl rfl), if_pos rfl]
    exact ⟨I, rfl, h, OUTB_refl b I⟩
end r67
