/-! acts that answer and tell nothing: puts, ring, calls, weighs, depth */ -/
section r73
variable {d : Nat} {S : SS} {I J G G' : II} {C : CF} {ρ σ τ : RW} {b a q id op bl v k c N M : Int}
theorem weighsS_WF (h : WF C ρ) (hB : BdN N ρ) (hN : 100 ≤ N) : WF C (weighsS ρ c v).2 ∧ BdN N (weighsS ρ c v).2 ∧ (∀ lo, lftOK lo ρ → lftOK lo (weighsS ρ c v).2) := by
  unfold weighsS
  by_cases g : 1 ≤ c ∧ c ≤ 3 ∧ 1 ≤ v ∧ v ≤ 9
  · rw [if_pos g]
    by_cases g1 : ρ (814 + c) = v
    · rw [if_pos g1]; exact ⟨h, hB, fun _ hl => hl⟩
    · rw [if_neg g1]
      have oo : ∀ j, j ≠ 814 + c → j ≠ 818 + c → updR (updR ρ (814 + c) v) (818 + c) v j = ρ j := fun j g0 g1 => by rw [updR_miss g1, updR_miss g0]
      obtain ⟨m1, m2, m3, m4, m5⟩ := h.1.2.2.2.1
      obtain ⟨w1, w2⟩ := misc_W0 (σ := updR (updR ρ (814 + c) v) (818 + c) v) h.1 (fun j g0 g1 g2 => oo j (by omega) (by omega)) ⟨fun j g0 g1 => by rw [oo j (by omega) (by omega)]; exact m1 j g0 g1, fun j g0 g1 => by
        by_cases e : j = 814 + c
        · rw [updR_miss (by omega), updR_hit e]; omega
        · rw [oo j e (by omega)]; exact m2 j g0 g1, fun j g0 g1 => by
        by_cases e : j = 818 + c
        · rw [updR_hit e]; omega
        · rw [oo j (by omega) e]; exact m3 j g0 g1, fun j g0 g1 => by rw [oo j (by omega) (by omega)]; exact m4 j g0 g1, by rw [oo 826 (by omega) (by omega), oo 827 (by omega) (by omega), oo 838 (by omega) (by omega), oo 839 (by omega) (by omega)]; exact m5⟩
      exact ⟨⟨w1, fun z => by rw [w2]; exact h.2 z⟩, BdN_upd (BdN_upd hB (by omega) (by omega)) (by omega) (by omega), fun lo hl => lftOK_congr (fun j j0 j1 => oo j (by omega) (by omega)) h.1.2.1.2.1 hl⟩
  · rw [if_neg g]; exact ⟨h, hB, fun _ hl => hl⟩
theorem c_weigh (hD : DA S b) (h : RelD C I b ρ) (hw : WF C ρ) (hc : isI c) (hv : isI v) : ∃ J, ev d 47 0 [(2, b), (0, c), (0, v), uU] [] S I = some ((0, (weighsS ρ c v).1), S, J) ∧ RelD C J b (weighsS ρ c v).2 ∧ OUTB b I J := by
  have no : ev d 47 21 [(2, b), (0, c), (0, v), uU] [] S I = some ((0, -1), S, I) := E47_21
  rw [E47_0 hD, w_small hc.1 hc.2, w_small hv.1 hv.2, no]
  unfold weighsS
  by_cases g : 1 ≤ c ∧ c ≤ 3 ∧ 1 ≤ v ∧ v ≤ 9
  · obtain ⟨m1, m2, m3, m4, m5⟩ := hw.1.2.2.2.1
    have m2' := m2 (814 + c) (by omega) (by omega)
    have e3 : I (b + 3) c = ρ (814 + c) := (h.2.1.2.1 c g.1 (by omega)).1
    rw [if_neg (by omega), if_pos (by omega), if_neg (by omega), if_neg (by omega), gdR_pos (by omega), e3, w_small (z := ρ (814 + c)) (by omega) (by omega), if_pos g]
    by_cases g1 : ρ (814 + c) = v
    · rw [if_pos g1, if_pos g1]; exact ⟨I, rfl, h, OUTB_refl b I⟩
    · rw [if_neg g1, if_neg g1, gdR_pos (by omega), gdR_pos (by omega)]
      simp only
      have oo : ∀ j, j ≠ 814 + c → j ≠ 818 + c → updR (updR ρ (814 + c) v) (818 + c) v j = ρ j := fun j g0 g1 => by rw [updR_miss g1, updR_miss g0]
      have jx : ∀ x, x ≠ b + 3 → x ≠ b + 4 → up2 (up2 I (b + 3) c v) (b + 4) c v x = I x := fun x x0 x1 => by rw [up2_oth x1, up2_oth x0]
      obtain ⟨h1, ⟨a1, a2, a3⟩, h3, h4, h5, h6⟩ := h
      refine ⟨_, rfl, ⟨hdR_congr (fun k _ => by rw [jx b (by omega) (by omega)]) (fun j hj => oo j (by omega) (by omega)) h1, ⟨fun j j0 j1 => ?_, fun c' c0 c1 => ⟨?_, ?_⟩, fun c' c0 c1 => ?_⟩, runsR_congr hw.1.2.1.2.1 (fun a a0 a1 => jx a (by omega) (by omega)) (fun j j0 j1 => oo j (by omega) (by omega)) h3, boxR_congr hw.1.2.2.1.2.1 (jx _ (by omega) (by omega)) (fun j j0 j1 => oo j (by omega) (by omega)) h4, fun q g0 g1 => laneR_congr g0 g1 (fun x x0 x1 => jx x (by omega) (by omega)) (fun j j0 j1 => oo j (by omega) (by omega)) (h5 q g0 g1), bitsR_congr (fun q g0 g1 => by rw [jx _ (by omega) (by omega)]) (fun z => cnt_low hw.1 (fun j g0 g1 _ g2 => oo j (by omega) (by omega))) h6⟩, fun x hx => jx x (by omega) (by omega)⟩
      · rw [jx _ (by omega) (by omega), oo _ (by omega) (by omega)]; exact a1 j j0 j1
      · rw [up2_oth (by omega)]
        by_cases e : c' = c
        · rw [up2_hit rfl e, updR_miss (by omega), updR_hit (by omega)]
        · rw [up2_miss (by omega), oo _ (by omega) (by omega)]; exact (a2 c' c0 c1).1
      · by_cases e : c' = c
        · rw [up2_hit rfl e, updR_hit (by omega)]
        · rw [up2_miss (by omega), up2_oth (by omega), oo _ (by omega) (by omega)]; exact (a2 c' c0 c1).2
      · rw [jx _ (by omega) (by omega), oo _ (by omega) (by omega)]; exact a3 c' c0 c1
  · rw [if_neg g]
    refine ⟨I, ?_, h, OUTB_refl b I⟩
    by_cases a1 : c < 1
    · rw [if_pos a1]
    by_cases a2 : c < 4
    · by_cases a3 : v < 1
      · rw [if_neg a1, if_pos a2, if_pos a3]
      · rw [if_neg a1, if_pos a2, if_neg a3, if_pos (by omega)]
    · rw [if_neg a1, if_neg a2]
theorem depthS_WF (h : WF C ρ) (hB : BdN N ρ) (hN : 100 ≤ N) : WF C (depthS ρ v).2 ∧ BdN N (depthS ρ v).2 ∧ (∀ lo, lftOK lo ρ → lftOK lo (depthS ρ v).2) := by
  unfold depthS
  by_cases g : 1 ≤ v ∧ v ≤ 4
  · rw [if_pos g]
    have oo : ∀ j, j ≠ 826 → updR ρ 826 v j = ρ j := fun j g0 => updR_miss g0
    obtain ⟨m1, m2, m3, m4, m5⟩ := h.1.2.2.2.1
    obtain ⟨w1, w2⟩ := misc_W0 (σ := updR ρ 826 v) h.1 (fun j g0 g1 g2 => oo j (by omega)) ⟨fun j g0 g1 => by rw [oo j (by omega)]; exact m1 j g0 g1, fun j g0 g1 => by rw [oo j (by omega)]; exact m2 j g0 g1, fun j g0 g1 => by rw [oo j (by omega)]; exact m3 j g0 g1, fun j g0 g1 => by rw [oo j (by omega)]; exact m4 j g0 g1, by rw [updR_hit rfl, oo 827 (by decide), oo 838 (by decide), oo 839 (by decide)]; omega⟩
    exact ⟨⟨w1, fun z => by rw [w2]; exact h.2 z⟩, BdN_upd hB (by omega) (by omega), fun lo hl => lftOK_congr (fun j j0 j1 => oo j (by omega)) h.1.2.1.2.1 hl⟩
  · rw [if_neg g]; exact ⟨h, hB, fun _ hl => hl⟩
theorem c_deepen (hD : DA S b) (h : RelD C I b ρ) (hw : WF C ρ) (hv : isI v) : ∃ J, ev d 48 0 [(2, b), (0, v), uU] [] S I = some ((0, (depthS ρ v).1), S, J) ∧ RelD C J b (depthS ρ v).2 ∧ OUTB b I J := by
  have no : ev d 48 10 [(2, b), (0, v), uU] [] S I = some ((0, -1), S, I) := E48_10
  have m5 := hw.1.2.2.2.1.2.2.2.2
  have e6 : I b 6 = ρ 826 := h.1.2.1
  rw [E48_0 hD, w_small hv.1 hv.2, no, e6, w_small (z := ρ 826) (by omega) (by omega)]
  unfold depthS
  by_cases g : 1 ≤ v ∧ v ≤ 4
  · rw [if_neg (by omega), if_neg (by omega), if_pos g]
    simp only
    by_cases g1 : ρ 826 = v
    · rw [if_pos g1, if_pos g1]
      refine ⟨I, rfl, RelD_row h hw.1 (fun j _ _ => ?_), OUTB_refl b I⟩
      by_cases e : j = 826
      · subst e; rw [updR_hit rfl, g1]
      · rw [updR_miss e]
    · rw [if_neg g1, if_neg g1]
      obtain ⟨⟨d0, d6, d7, d8, d9, d10, d15⟩, h2, h3, h4, h5, h6⟩ := h
      have jx : ∀ x, x ≠ b → up2 I b 6 v x = I x := fun x hx => up2_oth hx
      have oo : ∀ j, j ≠ 826 → updR ρ 826 v j = ρ j := fun j g => updR_miss g
      refine ⟨_, rfl, ⟨⟨by rw [up2_miss (by omega)]; exact d0, by rw [up2_hit rfl rfl, updR_hit rfl], by rw [up2_miss (by omega), oo 827 (by omega)]; exact d7, by rw [up2_miss (by omega), oo 838 (by omega)]; exact d8, by rw [up2_miss (by omega), oo 839 (by omega)]; exact d9, by rw [up2_miss (by omega), oo 493 (by omega)]; exact d10, by rw [up2_miss (by omega), oo 814 (by omega)]; exact d15⟩, ⟨fun j j0 j1 => ?_, fun c c0 c1 => ?_, fun c c0 c1 => ?_⟩, runsR_congr hw.1.2.1.2.1 (fun a a0 a1 => jx a (by omega)) (fun j j0 j1 => oo j (by omega)) h3, boxR_congr hw.1.2.2.1.2.1 (jx _ (by omega)) (fun j j0 j1 => oo j (by omega)) h4, fun q g0 g1 => laneR_congr g0 g1 (fun x x0 x1 => jx x (by omega)) (fun j j0 j1 => oo j (by omega)) (h5 q g0 g1), bitsR_congr (fun q g0 g1 => by rw [jx _ (by omega)]) (fun z => cnt_low hw.1 (fun j g0 g1 _ g2 => oo j (by omega))) h6⟩, fun x hx => jx x (by omega)⟩
      · rw [jx _ (by omega), oo _ (by omega)]; exact h2.1 j j0 j1
      · rw [jx _ (by omega), jx _ (by omega), oo _ (by omega), oo _ (by omega)]; exact h2.2.1 c c0 c1
      · rw [jx _ (by omega), oo _ (by omega)]; exact h2.2.2 c c0 c1
  · rw [if_neg g]
    refine ⟨I, ?_, h, OUTB_refl b I⟩
    by_cases a1 : v < 1
    · rw [if_pos a1]
    · rw [if_neg a1, if_pos (by omega)]
/-- the end of an act that tells nothing */ -/
theorem act_end (hM : MA S 427) (h : ST N I) (ha : isI a) (hσ : WF (cfM I) σ) (hl : lftOK 1 σ) (hB : BdN (N + 100000) σ)
    (g1 : GD (cfM I) G (71 + 31 * I 67 1) (I 438)) (g2 : OUTB (71 + 31 * I 67 1) I G) (g3 : RelD (cfM I) G' 5 σ) (g4 : OUTB 5 G G') :
    ∃ B I2, (∀ d, ev d 217 0 [(2, 427), uU] [] S (up2 (if a < 0 then G' else up2 (up2 G' 67 1 ((I 67 1 + 1) % 9)) 67 2 (addZ (I 67 2))) 427 0 0) = some (uU, S, B)) ∧ cfM B = cfM I ∧ B 438 = I 438 ∧
      (∀ d, ev (d + 1) 231 0 [(2, 427), (0, a)] [] S (setR B 438 σ) = some ((0, a), S, I2)) ∧ ST (N + 100000) I2 := by
  have hh := h
  obtain ⟨tT, tR, tH, tD, tU, ⟨p0, p1, p2, p3, p4, p5⟩, tK, tB⟩ := hh
  generalize hI1 : (if a < 0 then G' else up2 (up2 G' 67 1 ((I 67 1 + 1) % 9)) 67 2 (addZ (I 67 2))) = I1
  have gx : ∀ x, ¬ (5 ≤ x ∧ x < 36) → ¬ (71 + 31 * I 67 1 ≤ x ∧ x < 71 + 31 * I 67 1 + 31) → G' x = I x := fun x x0 x1 => by rw [g4 x (by omega), g2 x (by omega)]
  have ix : ∀ x, x ≠ 67 → I1 x = G' x := fun x hx => by
    rw [← hI1]; split
    · rfl
    · rw [up2_oth hx, up2_oth hx]
  have i1x : ∀ x, x ≠ 67 → ¬ (5 ≤ x ∧ x < 36) → ¬ (71 + 31 * I 67 1 ≤ x ∧ x < 71 + 31 * I 67 1 + 31) → I1 x = I x := fun x x0 x1 x2 => (ix x x0).trans (gx x x1 x2)
  have i27 : I1 427 = I 427 := i1x 427 (by decide) (by omega) (by omega)
  have i38 : I1 438 = I 438 := i1x 438 (by decide) (by omega) (by omega)
  have i40 : I1 440 = I 440 := i1x 440 (by decide) (by omega) (by omega)
  have u22 : up2 I1 427 0 0 427 22 = I 67 2 := by rw [up2_miss (by omega), i27]; exact p4
  have pb := fun d => m_putsBy (d := d) (S := S) (I := up2 I1 427 0 0) hM (by rw [u22]; exact p2) (by rw [u22]; exact p3)
  rw [u22, up2_oth (show (440 : Int) ≠ 427 by decide), up2_oth (show (438 : Int) ≠ 427 by decide), i38, i40] at pb
  generalize hBB : setR (up2 I1 427 0 0) 440 (putU (I 440) (I 438) (I 67 2)) = B at pb
  have bx : ∀ x, x ≠ 427 → x ≠ 440 → B x = I1 x := fun x x0 x1 => by rw [← hBB, setR_oth x1, up2_oth x0]
  have b27 : ∀ k, k ≠ 0 → B 427 k = I 427 k := fun k hk => by rw [← hBB, setR_oth (by decide), up2_miss (by omega), i27]
  have b40 : B 440 = putU (I 440) (I 438) (I 67 2) := by rw [← hBB, setR_same]
  have bc : cfM B = cfM I := cfM_mem (b27 14 (by decide)) (by rw [bx 434 (by decide) (by decide)]; exact i1x 434 (by decide) (by omega) (by omega)) (by rw [bx 435 (by decide) (by decide)]; exact i1x 435 (by decide) (by omega) (by omega)) (by rw [bx 436 (by decide) (by decide)]; exact i1x 436 (by decide) (by omega) (by omega)) (by rw [bx 437 (by decide) (by decide)]; exact i1x 437 (by decide) (by omega) (by omega))
  have s27 : setR B 438 σ 427 = B 427 := setR_oth (by decide)
  have s22 : setR B 438 σ 427 22 = I 67 2 := by rw [s27, b27 22 (by decide)]; exact p4
  have mc := fun d => m_counted (d := d) (S := S) (I := setR B 438 σ) hM (by rw [s22]; exact p2) (by rw [s22]; exact p3) ha
  rw [s22, setR_oth (show (440 : Int) ≠ 438 by decide), b40] at mc
  generalize hI2 : (if a < 0 then setR B 438 σ else up2 (setR (setR B 438 σ) 440 (addU (putU (I 440) (I 438) (I 67 2)) (I 67 2))) 427 22 (addZ (I 67 2))) = I2 at mc
  refine ⟨B, I2, pb, bc, by rw [bx 438 (by decide) (by decide)]; exact i38, mc, ?_⟩
  have yx : ∀ x, x ≠ 427 → x ≠ 438 → x ≠ 440 → I2 x = I1 x := fun x x0 x1 x2 => by
    rw [← hI2]; split
    · rw [setR_oth x1, bx x x0 x2]
    · rw [up2_oth x0, setR_oth x2, setR_oth x1, bx x x0 x2]
  have y27 : ∀ k, k ≠ 0 → k ≠ 22 → I2 427 k = I 427 k := fun k k0 k1 => by
    rw [← hI2]; split
    · rw [s27, b27 k k0]
    · rw [up2_miss (by omega), setR_oth (by decide), s27, b27 k k0]
  have y67 : I2 67 = I1 67 := yx 67 (by decide) (by decide) (by decide)
  have g67 : G' 67 = I 67 := gx 67 (by omega) (by omega)
  refine act_ST (ok := ¬ a < 0) h hσ hl hB (RelD_mem g3 hσ.1 (fun x x0 x1 => by rw [yx x (by omega) (by omega) (by omega), ix x (by omega)])) (GD_mem g1 (fun x x0 x1 => by rw [yx x (by omega) (by omega) (by omega), ix x (by omega), g4 x (by omega)])) (fun x x0 x1 x2 x3 _ _ _ _ _ _ => by rw [yx x (by omega) (by omega) (by omega)]; exact i1x x x3 x1 x2) ?_ ?_ (fun x x0 _ x1 x2 _ _ => by rw [yx x (by omega) x1 x2]; exact i1x x (by omega) (by omega) (by omega)) ?_ ?_ (fun k hk => y27 k (by omega) (by omega)) ?_ (cR_mem tR ?_ ?_ ?_ (y27 1 (by decide) (by decide)))
  · rw [y67, ← hI1]
    by_cases g : a < 0
    · rw [if_pos g, if_neg (by omega), g67]
    · rw [if_neg g, if_pos g, up2_miss (by omega), up2_hit rfl rfl]
  · rw [y67, ← hI1]
    by_cases g : a < 0
    · rw [if_pos g, if_neg (by omega), g67]
    · rw [if_neg g, if_pos g, up2_hit rfl rfl]
  · rw [← hI2]; split
    · rw [setR_same]
    · rw [up2_oth (by decide), setR_oth (by decide), setR_same]
  · rw [← hI2]
    by_cases g : a < 0
    · rw [if_pos g, if_neg (by omega), setR_oth (by decide), b40]
    · rw [if_neg g, if_pos g, up2_oth (by decide), setR_same]
  · rw [y67, ← hI1, ← hI2]
    by_cases g : a < 0
    · rw [if_pos g, if_pos g, s22, g67]
    · rw [if_neg g, if_neg g, up2_hit rfl rfl, up2_hit rfl rfl]
  · rw [yx 3 (by decide) (by decide) (by decide)]; exact i1x 3 (by decide) (by omega) (by omega)
  · rw [yx 4 (by decide) (by decide) (by decide)]; exact i1x 4 (by decide) (by omega) (by omega)
  · rw [yx 428 (by decide) (by decide) (by decide)]; exact i1x 428 (by decide) (by omega) (by omega)
/-- the beginning of an act, by the class */ -/
theorem act_beg (d : Nat) (hQ : QA S 0) (h : ST N I) : ∃ G, ev (d + 2) 103 0 [(2, 67), (2, 5)] [] S I = some (uU, S, G) ∧ GD (cfM I) G (71 + 31 * I 67 1) (I 438) ∧ OUTB (71 + 31 * I 67 1) I G ∧ RelD (cfM I) G 5 (I 438) ∧ G 67 = I 67 := by
  obtain ⟨_, _, _, tD, _, ⟨p0, p1, p2, p3, p4, p5⟩, _, _⟩ := h
  obtain ⟨G, g1, g2, g3⟩ := c_note (d := d) (S := S) hQ p0 p1 tD.2
  exact ⟨G, g1, g2, g3, (GD_mem tD.2 (fun x x0 x1 => g3 x (by omega))).1, g3 67 (by omega)⟩
end r73
