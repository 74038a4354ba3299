/-! TIME and TO FETCH, by the class */ -/
section r63
variable {d : Nat} {S : SS} {I J : II} {C : CF} {K : KF} {ρ σ τ : RW} {b u q id st res k a s i m : Int}
def RuleR (I : II) (u : Int) (K : KF) : Prop := I u 1 = K.2 ∧ ∀ j, 0 ≤ j → j < K.2 → I (u + 1) j = tk (K.1 j)
theorem clamp2 (v : Int) : (if (if w 1 < w v then w v else w 1) < w 9 then (if w 1 < w v then w v else w 1) else w 9) = clampS v := by
  have e1 : w 1 = 1 := by decide
  have e9 : w 9 = 9 := by decide
  rw [e1, e9]
  unfold clampS
  by_cases g : 1 < w v
  · rw [if_pos g, if_neg (show ¬ w v < 1 by omega)]
    by_cases g2 : w v < 9
    · rw [if_pos g2, if_neg (by omega)]
    · rw [if_neg g2]
      by_cases g3 : 9 < w v
      · rw [if_pos g3]
      · rw [if_neg g3]; omega
  · rw [if_neg g, if_pos (by decide)]
    by_cases g2 : w v < 1
    · rw [if_pos g2]
    · rw [if_neg g2, if_neg (by omega)]; omega
theorem c_time {rank run tick : Int} (hu : 0 ≤ u) (hU : UA S u) (hK : okK K) (hR : RuleR I u K) (hc : cmdOK ρ a) (hk : rank = C.2.2.2.1 q) (hr : run = ρ 493) (ht : tick = ρ 827) (t0 : 0 ≤ tick) (t1 : tick < 1073741824) :
    ∃ J, ev (d + 2) 128 0 [(2, u), (0, pkA ρ a), (0, q), (0, rank), (0, run), (0, tick)] [] S I = some ((0, timeR K C ρ q a), S, J) ∧ ∀ x, x ≠ u + 4 → x ≠ u + 5 → J x = I x := by
  obtain ⟨k0, k1, k2⟩ := hK
  obtain ⟨r1, r2⟩ := hR
  have cb := hc
  unfold cmdOK at cb
  rw [E128_0 hU, r1, w_small (z := K.2) (by omega) (by omega), c_op hc]
  simp only [Option.bind_some, psh_i, psh_r]
  by_cases g : K.2 = 0
  · have e : timeR K C ρ q a = if 0 < ρ (a + 1) then 2 else 1 := by
      unfold timeR timeS
      rw [if_pos g]
      have : askedS C ρ q a 0 = ρ (a + 1) := rfl
      rw [this]
      by_cases g2 : 0 < ρ (a + 1)
      · rw [if_pos g2]; decide
      · rw [if_neg g2]; decide
    rw [if_pos g, E128_11, w_small (z := ρ (a + 1)) (by omega) (by omega), E128_19, E128_19, e]
    refine ⟨I, ?_, fun _ _ _ => rfl⟩
    by_cases g2 : 0 < ρ (a + 1)
    · rw [if_pos g2, if_pos g2]
    · rw [if_neg g2, if_neg g2]
  · rw [if_neg g, E128_29 (UA_k8 hU) hU, w_small (z := 0) (by decide) (by decide), gdR_pos (by decide), c_bl hc]
    simp only [Option.bind_some, psh_i, psh_r]
    rw [E128_39 (UA_k8 hU) hU, w_small (z := 1) (by decide) (by decide), gdR_pos (by decide), c_va hc]
    simp only [Option.bind_some, psh_i, psh_r]
    rw [E128_49 (UA_k8 hU) hU, w_small (z := 2) (by decide) (by decide), gdR_pos (by decide), iRem_pos t0 (by omega) (by decide) (by decide), E129_0]
    generalize hG : up2 (up2 (up2 (up2 (up2 (up2 (up2 I (u + 4) 0 (ρ (a + 1))) (u + 4) 1 (ρ (a + 2))) (u + 4) 2 (ρ (a + 3))) (u + 4) 3 q) (u + 4) 4 rank) (u + 4) 5 run) (u + 4) 6 (tick % 7) = G
    have gx : ∀ x, x ≠ u + 4 → G x = I x := fun x hx => by rw [← hG]; simp only [up2_oth hx]
    have gA : ∀ j, 0 ≤ j → j < 7 → G (u + 4) j = askedS C ρ q a j := by
      intro j j0 j1
      rw [← hG]
      rcases (by omega : j = 0 ∨ j = 1 ∨ j = 2 ∨ j = 3 ∨ j = 4 ∨ j = 5 ∨ j = 6) with rfl | rfl | rfl | rfl | rfl | rfl | rfl
      · simp (disch := omega) only [up2_hit, up2_miss]; rfl
      · simp (disch := omega) only [up2_hit, up2_miss]; rfl
      · simp (disch := omega) only [up2_hit, up2_miss]; rfl
      · simp (disch := omega) only [up2_hit, up2_miss]; rfl
      · simp (disch := omega) only [up2_hit, up2_miss]; exact hk
      · simp (disch := omega) only [up2_hit, up2_miss]; exact hr
      · simp (disch := omega) only [up2_hit]; rw [ht]; rfl
    have hok := k2 g
    obtain ⟨J, j1, j2⟩ := c_ev (d := d) (S := S) (u := u) (code := K.1) hU K.2.toNat 0 [] G uU hok trivial (by decide) (fun j j0 j1 => by rw [gx _ (by omega)]; exact r2 j j0 (by omega)) (by rw [gx u (by omega), r1]; omega) (by rw [gx u (by omega), r1]; exact k1) (by decide)
    have e0 : (([] : List Int).length : Int) = 0 := rfl
    rw [e0] at j1
    rw [j1, evL_congr gA _ _ _ hok]
    simp only [Option.bind_some, psh_i]
    rw [E128_91, clamp2]
    refine ⟨J, ?_, fun x x4 x5 => (j2 x x5).trans (gx x x4)⟩
    unfold timeR timeS
    rw [if_neg g]
/-- is a PAIRED one next */ -/
theorem c_pair (hL : LA S a) (hl : laneR C I a ρ q) (hq : qOK C ρ q) (hB : Bd ρ) : ev (d + 2) 87 0 [(2, a), uU] [] S I = some ((0, if pairS ρ q = true then 1 else 0), S, I) := by
  rw [E87_0 hL, E86_0 hL]
  simp only [Option.bind_some, psh_i]
  rw [E87_5 hL, c_work hL hl hB, Int.add_zero, hl.1.2.2.2.2.2.1]
  simp only [Option.bind_some, psh_i]
  rw [E87_10, E87_32, E87_33 (Or.inl rfl)]
  have c := hq.1
  unfold cntsOK at c
  by_cases g : workS ρ q = true
  · have g' := workS_iff.mp g
    have cm := hq.2.1 (ρ (89 * q + 3)) (Int.le_refl _) (by omega)
    have cb := cm
    unfold cmdOK at cb
    rw [if_pos g, if_neg (by decide), hl.2.1.1 _ (Int.le_refl _) (by omega), c_op cm]
    simp only [Option.bind_some, psh_i]
    rw [E87_17, w_small (z := ρ (rAt q (ρ (89 * q + 3)) + 1)) (by omega) (by omega), c_ca cm, E87_32, E87_33 (Or.inl rfl)]
    simp only [Option.bind_some, psh_i]
    rw [E87_25, w_small (z := ρ (rAt q (ρ (89 * q + 3)) + 4)) (by omega) (by omega), E87_32, E87_33 (Or.inl rfl), E87_33 (Or.inr rfl)]
    by_cases g2 : ρ (rAt q (ρ (89 * q + 3)) + 1) = 3
    · rw [if_pos g2]
      by_cases g3 : ρ (rAt q (ρ (89 * q + 3)) + 4) = 0
      · rw [if_pos g3, if_pos (pairS_iff.mpr ⟨g', g2, g3⟩)]
      · rw [if_neg g3, if_neg (fun h => g3 (pairS_iff.mp h).2.2)]
    · rw [if_neg g2, if_neg (fun h => g2 (pairS_iff.mp h).2.1)]
  · rw [if_neg g, if_pos (by decide), if_neg (fun h => g (workS_iff.mpr (pairS_iff.mp h).1))]
/-- one is fetched from a ring */ -/
theorem c_fetchOne (hL : LA S a) (hl : laneR C I a ρ q) (hq : qOK C ρ q) (hw : ρ (89 * q + 3) < ρ (89 * q + 2)) : ev (d + 1) 85 0 [(2, a), uU] [] S I = some ((0, pkA ρ (rAt q (ρ (89 * q + 3)))), S, up2 I a 7 (ρ (89 * q + 3) + 1)) := by
  have c := hq.1
  unfold cntsOK at c
  have e7 := hl.1.2.2.2.2.2.1
  rw [E85_0 hL, E86_0 hL]
  simp only [Option.bind_some, psh_i]
  rw [E85_5 hL, Int.add_zero, e7, hl.2.1.1 _ (Int.le_refl _) (by omega)]
theorem lane_fet (h0 : 0 ≤ q) (h1 : q < 5) (hl : laneR C I a ρ q) (hk0 : 0 ≤ C.2.2.2.1 q) : laneR C (up2 I a 7 (ρ (89 * q + 3) + 1)) a (fetS C ρ q) q := by
  obtain ⟨⟨l0, l3, f4, f5, f6, f7, f8, f9, f10, f11, f12⟩, lr, lp, l13⟩ := hl
  have oth : ∀ j, j ≠ 89 * q + 3 → j < 840 → fetS C ρ q j = ρ j := fun j h2 h3 => fetS_oth h2 (by omega)
  have e3 : fetS C ρ q (89 * q + 3) = ρ (89 * q + 3) + 1 := fetS_3 (by omega)
  have jk : ∀ k, k ≠ 7 → up2 I a 7 (ρ (89 * q + 3) + 1) a k = I a k := fun k hk => up2_miss (by omega)
  have jx : ∀ x, x ≠ a → up2 I a 7 (ρ (89 * q + 3) + 1) x = I x := fun x hx => up2_oth hx
  refine ⟨?_, ⟨fun k k0 k1 => ?_, by rw [jx (a + 1) (by omega)]; exact lr.2⟩, fun k k0 k1 => ?_, by rw [jk 13 (by decide)]; exact l13⟩
  · unfold lanfR
    rw [up2_hit rfl rfl, jk 0 (by decide), jk 1 (by decide), jk 2 (by decide), jk 3 (by decide), jk 4 (by decide), jk 5 (by decide), jk 6 (by decide), jk 8 (by decide), jk 9 (by decide), jk 10 (by decide), jk 11 (by decide), jk 12 (by decide), e3, oth (89 * q) (by omega) (by omega), oth (89 * q + 1) (by omega) (by omega), oth (89 * q + 2) (by omega) (by omega), oth (89 * q + 4) (by omega) (by omega), oth (89 * q + 5) (by omega) (by omega), oth (89 * q + 6) (by omega) (by omega), oth (89 * q + 7) (by omega) (by omega), oth (89 * q + 8) (by omega) (by omega)]
    exact ⟨l0, l3, f4, f5, f6, rfl, f8, f9, f10, f11, f12⟩
  · rw [e3] at k0
    rw [oth _ (by omega) (by omega)] at k1
    have rb := rAt_b (q := q) (k := k) h0 h1
    rw [jx (a + 1) (by omega), lr.1 k (by omega) k1, pkA_congr (fun j j0 j1 => oth _ (by omega) (by omega))]
  · rw [oth _ (by omega) (by omega)] at k0 k1
    have pb := pAt_b (q := q) (k := k) h0 h1
    have := lp k k0 k1
    unfold pkP at *
    rw [jx (a + 2) (by omega), jx (a + 3) (by omega), oth _ (by omega) (by omega), oth _ (by omega) (by omega), oth _ (by omega) (by omega), oth _ (by omega) (by omega)]
    exact this
/-- all but the bits of IDS */ -/
def RelE (C : CF) (I : II) (b : Int) (ρ : RW) : Prop := hdR C I b ρ ∧ arR I b ρ ∧ runsR I b ρ ∧ boxR I b ρ ∧ lansR C I b ρ
theorem fet_RelE (h : RelE C I b ρ) (hW : W0 C ρ) (hk : okC C) (h0 : 0 ≤ q) (h1 : q < C.1) : RelE C (up2 I (b + 11 + 4 * q) 7 (ρ (89 * q + 3) + 1)) b (fetS C ρ q) := by
  obtain ⟨g1, g2, g3, g4, g5⟩ := h
  have n5 := hk.2.1
  have kk := hk.2.2 q h0 h1
  have oth : ∀ j, j ≠ 89 * q + 3 → j < 840 → fetS C ρ q j = ρ j := fun j h2 h3 => fetS_oth h2 (by omega)
  have jx : ∀ x, x ≠ b + 11 + 4 * q → up2 I (b + 11 + 4 * q) 7 (ρ (89 * q + 3) + 1) x = I x := fun x hx => up2_oth hx
  refine ⟨hdR_congr (fun k _ => by rw [jx b (by omega)]) (fun j hj => oth j (by omega) (by omega)) g1, arR_congr (fun a a0 a1 => jx a (by omega)) (fun j j0 j1 => oth j (by omega) (by omega)) g2, runsR_congr hW.2.1.2.1 (fun a a0 a1 => jx a (by omega)) (fun j j0 j1 => oth j (by omega) (by omega)) g3, boxR_congr hW.2.2.1.2.1 (jx _ (by omega)) (fun j j0 j1 => oth j (by omega) (by omega)) g4, fun q' q0 q1 => ?_⟩
  by_cases e : q' = q
  · subst e; exact lane_fet q0 q1 (g5 q' q0 q1) (by omega)
  · exact laneR_congr q0 q1 (fun x x0 x1 => jx x (by omega)) (fun j j0 j1 => oth j (by omega) (by omega)) (g5 q' q0 q1)
theorem out_RelE (h : RelE C I b ρ) (hW : W0 C ρ) (h8 : ρ 814 < 80) (hd : DV J b (outS ρ q id st res)) (hc : CK b I J) : RelE C J b (outS ρ q id st res) := by
  obtain ⟨⟨d0, d6, d7, d8, d9, d10, d15⟩, g2, g3, g4, g5⟩ := h
  have o0 := hW.2.2.1.1
  have oo : ∀ j, j < 494 ∨ 814 < j → outS ρ q id st res j = ρ j := fun j hj => outS_oth o0 h8 hj
  refine ⟨⟨?_, ?_, ?_, ?_, ?_, ?_, hd.1⟩, hd.2.1, runsR_congr hW.2.1.2.1 (fun a a0 a1 => hc.2 a (by omega) (by omega) (by omega)) (fun j j0 j1 => oo j (by omega)) g3, hd.2.2, fun q' q0 q1 => laneR_congr q0 q1 (fun x x0 x1 => hc.2 x (by omega) (by omega) (by omega)) (fun j j0 j1 => oo j (by omega)) (g5 q' q0 q1)⟩
  · rw [hc.1 0 (by decide)]; exact d0
  · rw [hc.1 6 (by decide), oo 826 (by decide)]; exact d6
  · rw [hc.1 7 (by decide), oo 827 (by decide)]; exact d7
  · rw [hc.1 8 (by decide), oo 838 (by decide)]; exact d8
  · rw [hc.1 9 (by decide), oo 839 (by decide)]; exact d9
  · rw [hc.1 10 (by decide), oo 493 (by decide)]; exact d10
def OUTR (b u : Int) (I J : II) : Prop := ∀ a, (a < b ∨ b + 31 ≤ a) → a ≠ u + 4 → a ≠ u + 5 → J a = I a
/-- the end of a run that begins: its numbers are laid down */ -/
theorem run_RelE {G : II} (h : RelE C G b (if k = 2 then fetS C ρ q else ρ)) (hW : W0 C ρ) (hk : okC C) (h0 : 0 ≤ q) (h1 : q < C.1) (ha0 : 0 ≤ a) (ha1 : a + 5 ≤ 445) (h4 : ρ 493 < 4) (hkk : k = ρ (a + 1))
    (hs : k = 2 → ρ (rAt q (ρ (89 * q + 3)) + 1) = 3)
    (hJ : J = up2 (up2 (up2 (up2 (up2 G (b + 6) (ρ 493) (timeR K C ρ q a)) (b + 7) (ρ 493) q) (b + 8) (ρ 493) (pkA ρ a)) (b + 9) (ρ 493) (if k = 2 then pkA ρ (rAt q (ρ (89 * q + 3))) else -1)) b 10 (ρ 493 + 1)) :
    RelE C J b (runS K C ρ q a (decide (ρ (a + 1) = 2))) := by
  obtain ⟨g1, g2, g3, g4, g5⟩ := h
  have r0 := hW.2.1.1
  have o8 := hW.2.2.1.2.1
  have n5 := hk.2.1
  have kk := hk.2.2 q h0 h1
  obtain ⟨f1, f2, f3, f4, f5, f6, f7⟩ := runS_facts (a := a) K (decide (ρ (a + 1) = 2)) hk h0 h1 ha0 ha1 r0 h4
  have eif : (if decide (ρ (a + 1) = 2) = true then fetS C ρ q else ρ) = (if k = 2 then fetS C ρ q else ρ) := by
    rw [hkk]; by_cases e : ρ (a + 1) = 2
    · rw [if_pos (decide_eq_true e), if_pos e]
    · rw [if_neg (by simpa using e), if_neg e]
  rw [eif] at f1
  have b93 : ∀ j, 445 ≤ j → j < 840 → (if k = 2 then fetS C ρ q else ρ) j = ρ j := by
    intro j j0 j1; split
    · exact fetS_oth (by omega) (by omega)
    · rfl
  generalize hβ : (if k = 2 then fetS C ρ q else ρ) = β at *
  generalize hσ : runS K C ρ q a (decide (ρ (a + 1) = 2)) = σ at *
  have e93 := b93 493 (by decide) (by decide)
  have jx : ∀ x, x ≠ b → (x < b + 6 ∨ b + 9 < x) → J x = G x := fun x x0 x1 => by
    rw [hJ, up2_oth x0, up2_oth (by omega), up2_oth (by omega), up2_oth (by omega), up2_oth (by omega)]
  have jb : ∀ j, j ≠ 10 → J b j = G b j := fun j hj => by
    rw [hJ, up2_miss (by omega), up2_oth (by omega), up2_oth (by omega), up2_oth (by omega), up2_oth (by omega)]
  have ja : ∀ x j, b + 6 ≤ x → x ≤ b + 9 → j ≠ ρ 493 → J x j = G x j := fun x j x0 x1 hj => by
    rw [hJ, up2_oth (by omega), up2_miss (by omega), up2_miss (by omega), up2_miss (by omega), up2_miss (by omega)]
  obtain ⟨d0, d6, d7, d8, d9, d10, d15⟩ := g1
  refine ⟨⟨?_, ?_, ?_, ?_, ?_, ?_, ?_⟩, arR_congr (fun x x0 x1 => jx x (by omega) (by omega)) (fun j j0 j1 => f1 j (by omega) (by omega) (by omega) (by omega)) g2, fun k' k0 k1 => ?_, fun k' k0 k1 => ?_, fun q' q0 q1 => laneR_congr q0 q1 (fun x x0 x1 => jx x (by omega) (by omega)) (fun j j0 j1 => f1 j (by omega) (by omega) (by omega) (by omega)) (g5 q' q0 q1)⟩
  · rw [jb 0 (by decide)]; exact d0
  · rw [jb 6 (by decide), f1 826 (by omega) (by omega) (by omega) (by omega)]; exact d6
  · rw [jb 7 (by decide), f1 827 (by omega) (by omega) (by omega) (by omega)]; exact d7
  · rw [jb 8 (by decide), f1 838 (by omega) (by omega) (by omega) (by omega)]; exact d8
  · rw [jb 9 (by decide), f1 839 (by omega) (by omega) (by omega) (by omega)]; exact d9
  · rw [f2, hJ, up2_hit rfl rfl]
  · rw [jb 15 (by decide), f1 814 (by omega) (by omega) (by omega) (by omega)]; exact d15
  · rw [f2] at k1
    by_cases e : k' = ρ 493
    · subst e
      have j6 : J (b + 6) (ρ 493) = timeR K C ρ q a := by rw [hJ, up2_oth (by omega), up2_oth (by omega), up2_oth (by omega), up2_oth (by omega), up2_hit rfl rfl]
      have j7 : J (b + 7) (ρ 493) = q := by rw [hJ, up2_oth (by omega), up2_oth (by omega), up2_oth (by omega), up2_hit rfl rfl]
      have j8 : J (b + 8) (ρ 493) = pkA ρ a := by rw [hJ, up2_oth (by omega), up2_oth (by omega), up2_hit rfl rfl]
      have j9 : J (b + 9) (ρ 493) = (if k = 2 then pkA ρ (rAt q (ρ (89 * q + 3))) else -1) := by rw [hJ, up2_oth (by omega), up2_hit rfl rfl]
      refine ⟨⟨by rw [j7, f3], by rw [j8, pkA_congr (ρ := ρ) (σ := σ) (a := a) (a' := 446 + 12 * ρ 493) f4], ?_⟩, by rw [j6, f7]⟩
      rw [j9]
      by_cases e2 : k = 2
      · have e3 : decide (ρ (a + 1) = 2) = true := decide_eq_true (by omega)
        have f5 := f5 e3
        have s1 := f5 1 (by decide) (by decide)
        rw [show 451 + 12 * ρ 493 + 1 = 452 + 12 * ρ 493 by omega] at s1
        rw [if_pos e2, if_neg (by rw [s1, hs e2]; decide), pkA_congr (ρ := ρ) (σ := σ) (a := rAt q (ρ (89 * q + 3))) (a' := 451 + 12 * ρ 493) f5]
      · have e3 : decide (ρ (a + 1) = 2) = false := by simp; omega
        rw [if_neg e2, if_pos (by rw [f6 e3]; decide)]
    · obtain ⟨x1, x2⟩ := g3 k' k0 (by omega)
      refine ⟨run1R_congr (fun x x0 x1 => ja x k' (by omega) x1 e) (fun j j0 j1 => f1 _ (by omega) (by omega) (by omega) (by omega)) x1, ?_⟩
      rw [ja _ _ (by omega) (by omega) e, f1 _ (by omega) (by omega) (by omega) (by omega)]; exact x2
  · rw [f1 814 (by omega) (by omega) (by omega) (by omega)] at k1
    have b814 := b93 814 (by decide) (by decide)
    rw [jx _ (by omega) (by omega), g4 k' k0 k1]
    unfold pkO
    rw [f1 _ (by omega) (by omega) (by omega) (by omega), f1 _ (by omega) (by omega) (by omega) (by omega), f1 _ (by omega) (by omega) (by omega) (by omega), f1 _ (by omega) (by omega) (by omega) (by omega)]
end r63
