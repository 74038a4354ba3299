/-! TO FETCH and A TICK, by the class */ -/
section r64
variable {d : Nat} {S : SS} {I J : II} {C : CF} {K : KF} {ρ σ τ : RW} {b u q id st res k a s i m : Int}
theorem up2_comm {a' k' v v' : Int} (h : a ≠ a') : up2 (up2 I a k v) a' k' v' = up2 (up2 I a' k' v') a k v := by
  funext x j
  by_cases h1 : x = a ∧ j = k
  · rw [up2_miss (I := up2 I a k v) (by omega), up2_hit h1.1 h1.2, up2_hit h1.1 h1.2]
  · by_cases h2 : x = a' ∧ j = k'
    · rw [up2_hit h2.1 h2.2, up2_miss h1, up2_hit h2.1 h2.2]
    · rw [up2_miss h2, up2_miss h1, up2_miss h1, up2_miss h2]
theorem RelE_mem (h : RelE C I b ρ) (hW : W0 C ρ) (hI : ∀ a, b ≤ a → a < b + 31 → J a = I a) : RelE C J b ρ := by
  obtain ⟨h1, h2, h3, h4, h5⟩ := h
  exact ⟨hdR_congr (fun k _ => by rw [hI b (by omega) (by omega)]) (fun _ _ => rfl) h1, arR_congr (fun a a0 a1 => hI a (by omega) (by omega)) (fun _ _ _ => rfl) h2, runsR_congr hW.2.1.2.1 (fun a a0 a1 => hI a (by omega) (by omega)) (fun _ _ _ => rfl) h3, boxR_congr hW.2.2.1.2.1 (hI _ (by omega) (by omega)) (fun _ _ _ => rfl) h4, fun q g0 g1 => laneR_congr g0 g1 (fun x x0 x1 => hI x (by omega) (by omega)) (fun _ _ _ => rfl) (h5 q g0 g1)⟩
theorem OUTR_of (h : OUTB b I J) : OUTR b u I J := fun a ha _ _ => h a ha
theorem OUTR_trans {G : II} (h : OUTR b u I J) (g : OUTR b u J G) : OUTR b u I G := fun a ha h4 h5 => (g a ha h4 h5).trans (h a ha h4 h5)
theorem CK_OUTB (h : CK b I J) : OUTB b I J := fun x hx => h.2 x (by omega) (by omega) (by omega)
theorem RuleR_OUTR (hbu : b + 31 ≤ u) (h : RuleR I u K) (g : OUTR b u I J) : RuleR J u K := by
  unfold RuleR at *
  rw [g u (by omega) (by omega) (by omega), g (u + 1) (by omega) (by omega) (by omega)]
  exact h
/-- what the fetched one comes to */ -/
theorem c_got {N : Int} (hb : 0 ≤ b) (hbu : b + 31 ≤ u) (hD : DA S b) (hU : UA S u) (hK : okK K) (hR : RuleR I u K) (h : RelE C I b ρ) (hW : W0 C ρ) (hk : okC C) (hB : BdN N ρ) (hN : N < 1073741824) (h0 : 0 ≤ q) (h1 : q < C.1) (ha0 : 0 ≤ a) (ha1 : a + 5 ≤ 445) (h4 : ρ 493 < 4) (h8 : ρ 814 < 80) (hc : cmdOK ρ a) :
    ∃ J, ev (d + 4) 38 15 [(2, b), (0, q), (2, u), (2, b + 11 + 4 * q), uU, uU] [(0, pkA ρ a)] S I = some (uU, S, J) ∧ RelE C J b (gotS K C ρ q a) ∧ (∀ q', 0 ≤ q' → q' < 5 → J (b + 11 + 4 * q') 13 = I (b + 11 + 4 * q') 13) ∧ OUTR b u I J := by
  have n5 := hk.2.1
  have kk := hk.2.2 q h0 h1
  have o0 := hW.2.2.1.1
  have r0 := hW.2.1.1
  have cb := hc
  unfold cmdOK at cb
  have hL := DA_lane hD h0 (show q < 5 by omega)
  have hBd := BdN_Bd hB hN
  obtain ⟨g1, g2, g3, g4, g5⟩ := id h
  have dv : DV I b ρ := ⟨g1.2.2.2.2.2.2, g2, g4⟩
  rw [E38_15, c_op hc]
  simp only [Option.bind_some, psh_i]
  rw [E38_22, c_ca hc]
  simp only [Option.bind_some, psh_i]
  rw [E38_29 hL hD, w_small (z := ρ (a + 4)) (by omega) (by omega), w_small (z := ρ (a + 1)) (by omega) (by omega)]
  -- an end by a completion
  have out : ∀ st : Int, 0 ≤ st → st ≤ 4 → ∃ J, ev (d + 3) 30 0 [(2, b), (0, q), (0, pkA ρ a), (0, st), (0, 0)] [] S I = some (uU, S, J) ∧ RelE C J b (outS ρ q (ρ a) st 0) ∧ (∀ q', 0 ≤ q' → q' < 5 → J (b + 11 + 4 * q') 13 = I (b + 11 + 4 * q') 13) ∧ OUTR b u I J := by
    intro st s0 s1
    obtain ⟨J, j1, j2, j3⟩ := c_deliver (d := d + 2) (q := q) (st := st) (res := 0) hD dv o0 h8 (pkA_bd hc) (by unfold bdD; omega)
    exact ⟨J, j1, out_RelE h hW h8 j2 j3, fun q' q0 q1 => by rw [j3.2 _ (by omega) (by omega) (by omega)], OUTR_of (CK_OUTB j3)⟩
  unfold gotS
  by_cases c1 : ρ (a + 4) = 1
  · obtain ⟨J, j1, j2, j3, j4⟩ := out 1 (by decide) (by decide)
    rw [if_neg (by omega), if_pos c1, j1]
    simp only [Option.bind_some, psh_u]
    rw [E38_41, E38_172]
    exact ⟨J, rfl, j2, j3, j4⟩
  rw [if_pos (by omega), if_neg c1]
  have unp : ∃ J, ev (d + 4) 38 63 [(2, b), (0, q), (2, u), (2, b + 11 + 4 * q), (0, pkA ρ a), (0, ρ (a + 1))] [] S I = some (uU, S, J) ∧ RelE C J b (outS ρ q (ρ a) 4 0) ∧ (∀ q', 0 ≤ q' → q' < 5 → J (b + 11 + 4 * q') 13 = I (b + 11 + 4 * q') 13) ∧ OUTR b u I J := by
    obtain ⟨J, j1, j2, j3, j4⟩ := out 4 (by decide) (by decide)
    rw [E38_63 hD, j1]
    simp only [Option.bind_some, psh_u]
    rw [E38_72, E38_172]
    exact ⟨J, rfl, j2, j3, j4⟩
  -- a run begins
  have runs : (ρ (a + 1) = 2 → pairS ρ q = true) → ∃ J, ev (d + 4) 38 75 [(2, b), (0, q), (2, u), (2, b + 11 + 4 * q), (0, pkA ρ a), (0, ρ (a + 1))] [] S I = some (uU, S, J) ∧ RelE C J b (runS K C ρ q a (decide (ρ (a + 1) = 2))) ∧ (∀ q', 0 ≤ q' → q' < 5 → J (b + 11 + 4 * q') 13 = I (b + 11 + 4 * q') 13) ∧ OUTR b u I J := by
    intro hp
    have e10 : I b 10 = ρ 493 := g1.2.2.2.2.2.1
    have e7 : I b 7 = ρ 827 := g1.2.2.1
    have hl := g5 q h0 (by omega)
    have er : I (b + 11 + 4 * q) 2 = C.2.2.2.1 q := (hl.1.1 h1).2.2.1
    have t0 := hW.2.2.2.1.2.2.2.2.2.2.1
    have t1 := hB 827
    obtain ⟨J1, j1, j2⟩ := c_time (d := d + 1) (S := S) (I := I) (C := C) (K := K) (ρ := ρ) (q := q) (a := a) (by omega) hU hK hR hc er e10 e7 (by omega) (by omega)
    have f0 : ∀ x, b ≤ x → x < b + 31 → J1 x = I x := fun x x0 x1 => j2 x (by omega) (by omega)
    have i10 : J1 b 10 = ρ 493 := by rw [f0 b (by omega) (by omega)]; exact e10
    rw [E38_75 hD hL hU, w_small (z := I b 10) (by omega) (by omega), if_neg (by omega), if_pos (by omega), j1]
    simp only [Option.bind_some, psh_i]
    rw [E38_117 (DA_k11 hD) hD hL, w_small (z := I b 10) (by omega) (by omega), gdR_pos (by omega), up2_oth (show b ≠ b + 6 by omega), i10, w_small (z := ρ 493) (by omega) (by omega), gdR_pos (by omega), gdR_pos (by omega), w_small (z := ρ (a + 1)) (by omega) (by omega), e10]
    have hE1 : RelE C J1 b ρ := RelE_mem h hW f0
    by_cases c2 : ρ (a + 1) = 2
    · have ps := pairS_iff.mp (hp c2)
      rw [if_pos c2]
      have hG : laneR C (up2 (up2 (up2 J1 (b + 6) (ρ 493) (timeR K C ρ q a)) (b + 7) (ρ 493) q) (b + 8) (ρ 493) (pkA ρ a)) (b + 11 + 4 * q) ρ q := laneR_congr h0 (by omega) (fun x x0 x1 => by rw [up2_oth (by omega), up2_oth (by omega), up2_oth (by omega)]) (fun _ _ _ => rfl) (hE1.2.2.2.2 q h0 (by omega))
      rw [c_fetchOne hL hG (hW.1 q h0 (by omega)) ps.1]
      simp only [Option.bind_some, psh_i]
      rw [E38_157, E38_161 (DA_k14 hD) hD, w_small (z := ρ 493) (by omega) (by omega), gdR_pos (by omega), E38_172, up2_oth (show b ≠ b + 9 by omega), up2_oth (show b ≠ b + 11 + 4 * q by omega), up2_oth (show b ≠ b + 8 by omega), up2_oth (show b ≠ b + 7 by omega), up2_oth (show b ≠ b + 6 by omega), i10]
      rw [up2_comm (a := b + 8) (a' := b + 11 + 4 * q) (by omega), up2_comm (a := b + 7) (a' := b + 11 + 4 * q) (by omega), up2_comm (a := b + 6) (a' := b + 11 + 4 * q) (by omega)]
      have hE2 := fet_RelE hE1 hW hk h0 h1
      refine ⟨_, rfl, run_RelE (k := 2) (K := K) (by rw [if_pos rfl]; exact hE2) hW hk h0 h1 ha0 ha1 h4 c2.symm (fun _ => ps.2.1) (by rw [if_pos rfl]), fun q' q0 q1 => ?_, fun x x0 x4 x5 => ?_⟩
      · rw [up2_oth (by omega), up2_oth (by omega), up2_oth (by omega), up2_oth (by omega), up2_oth (by omega), up2_miss (by omega), f0 _ (by omega) (by omega)]
      · rw [up2_oth (by omega), up2_oth (by omega), up2_oth (by omega), up2_oth (by omega), up2_oth (by omega), up2_oth (by omega), j2 x x4 x5]
    · rw [if_neg c2, E38_161 (DA_k14 hD) hD, w_small (z := ρ 493) (by omega) (by omega), gdR_pos (by omega), E38_172, up2_oth (show b ≠ b + 9 by omega), up2_oth (show b ≠ b + 8 by omega), up2_oth (show b ≠ b + 7 by omega), up2_oth (show b ≠ b + 6 by omega), i10]
      refine ⟨_, rfl, run_RelE (k := ρ (a + 1)) (K := K) (by rw [if_neg c2]; exact hE1) hW hk h0 h1 ha0 ha1 h4 rfl (fun e => absurd e c2) (by rw [if_neg c2]), fun q' q0 q1 => ?_, fun x x0 x4 x5 => ?_⟩
      · rw [up2_oth (by omega), up2_oth (by omega), up2_oth (by omega), up2_oth (by omega), up2_oth (by omega), f0 _ (by omega) (by omega)]
      · rw [up2_oth (by omega), up2_oth (by omega), up2_oth (by omega), up2_oth (by omega), up2_oth (by omega), j2 x x4 x5]
  by_cases c3 : ρ (a + 1) = 3
  · rw [if_pos c3, if_pos (Or.inr c3)]
    exact unp
  rw [if_neg c3]
  by_cases c2 : ρ (a + 1) = 2
  · rw [if_pos c2, c_pair hL (g5 q h0 (by omega)) (hW.1 q h0 (by omega)) hBd]
    simp only [Option.bind_some, psh_i]
    rw [E38_60]
    by_cases gp : pairS ρ q = true
    · rw [if_pos gp, if_neg (by decide), if_neg (fun e => by rcases e with e | e; exact absurd gp (by rw [e.2]; decide); exact c3 e)]
      exact runs (fun _ => gp)
    · rw [if_neg gp, if_pos (by decide), if_pos (Or.inl ⟨c2, by simpa using gp⟩)]
      exact unp
  · rw [if_neg c2, if_neg (fun e => by rcases e with e | e; exact c2 e.1; exact c3 e)]
    exact runs (fun e => absurd e c2)
/-- one is fetched of THE NEXT QUEUE, whatever comes of it */ -/
theorem c_fetches {N : Int} (hb : 0 ≤ b) (hbu : b + 31 ≤ u) (hD : DA S b) (hU : UA S u) (hK : okK K) (hR : RuleR I u K) (h : RelD C I b ρ) (hw : WF C ρ) (hk : okC C) (hB : BdN N ρ) (hN0 : 100 ≤ N) (hN : N < 1000000000) (ha : anyS C ρ = true) (h4 : ρ 493 < 4) :
    ∃ G J, ev (d + 5) 35 0 [(2, b), uU, uU] [] S I = some ((0, (chosenS C ρ).1), S, G) ∧ ev (d + 5) 38 0 [(2, b), (0, (chosenS C ρ).1), (2, u), uU, uU, uU] [] S G = some (uU, S, J) ∧ RelD C J b (fetchesS K C ρ) ∧ OUTR b u I J := by
  have n5 := hk.2.1
  have hc := canS_of hw.1 hk ha
  obtain ⟨q0, q1, q5, hwk⟩ := chosen_spec hc
  obtain ⟨w1, w2⟩ := chosen_W0 hw.1 hc
  have oo : ∀ j, j < 818 ∨ 825 < j → (chosenS C ρ).2 j = ρ j := fun j g => chosenS_oth hc g
  have bc := chosenS_BdN hc hB (by omega)
  obtain ⟨G, g1, g2, g3⟩ := c_choose (d := d + 1) hb hD h hw.1 hk hB (by omega) ha
  obtain ⟨f1, f2, f3, f4, f5, f6⟩ := fetches_WF K hw hk ha h4 hB hN0
  refine ⟨G, ?_⟩
  rw [g1]
  unfold fetchesS at *
  generalize (chosenS C ρ).1 = q at *
  generalize (chosenS C ρ).2 = ρc at *
  have kk := hk.2.2 q q0 q1
  have hwc : ρc (89 * q + 3) < ρc (89 * q + 2) := by rw [oo _ (by omega), oo _ (by omega)]; exact hwk
  have rb := rAt_b (q := q) (k := ρc (89 * q + 3)) q0 q5
  have qo := w1.1 q q0 q5
  have c1 := qo.1
  unfold cntsOK at c1
  have cm := qo.2.1 _ (Int.le_refl _) (by omega : ρc (89 * q + 3) < ρc (89 * q))
  have fw := fet_W0 w1 hk q0 q1 hwc
  have fo : ∀ j, j ≠ 89 * q + 3 → j < 840 → fetS C ρc q j = ρc j := fun j g0 g1 => fetS_oth g0 (by omega)
  have cm2 : cmdOK (fetS C ρc q) (rAt q (ρc (89 * q + 3))) := cmdOK_congr (fun j g0 g1 => fo j (by omega) (by omega)) cm
  have pk : pkA (fetS C ρc q) (rAt q (ρc (89 * q + 3))) = pkA ρc (rAt q (ρc (89 * q + 3))) := pkA_congr (fun j j0 j1 => fo _ (by omega) (by omega))
  have hL := DA_lane hD q0 q5
  obtain ⟨e1, e2, e3, e4, e5, e6⟩ := id g2
  have hE := fet_RelE ⟨e1, e2, e3, e4, e5⟩ w1 hk q0 q1
  have hRG : RuleR G u K := RuleR_OUTR hbu hR (OUTR_of g3)
  have hRG2 : RuleR (up2 G (b + 11 + 4 * q) 7 (ρc (89 * q + 3) + 1)) u K := by
    unfold RuleR at *
    rw [up2_oth (by omega), up2_oth (by omega)]; exact hRG
  have e93 : fetS C ρc q 493 = ρ 493 := by rw [fo _ (by omega) (by omega), oo _ (by omega)]
  have e814 : fetS C ρc q 814 = ρ 814 := by rw [fo _ (by omega) (by omega), oo _ (by omega)]
  obtain ⟨J, j1, j2, j3, j4⟩ := c_got (d := d + 1) (N := N + 1) hb hbu hD hU hK hRG2 hE fw hk (BdN_fet bc) (by omega) q0 q1 (a := rAt q (ρc (89 * q + 3))) (by omega) (by omega) (by omega) (by omega) cm2
  refine ⟨J, rfl, ?_, ⟨j2.1, j2.2.1, j2.2.2.1, j2.2.2.2.1, j2.2.2.2.2, ?_⟩, ?_⟩
  · rw [E38_0 hD, c_lane hD e1 hk ⟨by omega, by omega⟩, if_pos ⟨q0, q1⟩]
    simp only [Option.bind_some, psh_r]
    rw [E38_5 (Or.inr hL), if_neg (by omega), c_fetchOne hL (e5 q q0 q5) qo hwc]
    simp only [Option.bind_some, psh_i]
    rw [← pk]; exact j1
  · refine bitsR_congr (ρ := ρc) (fun q' q0' q1' => ?_) (fun z => by rw [f2, w2]) e6
    rw [j3 q' q0' q1', up2_miss (by omega)]
  · refine OUTR_trans (OUTR_of g3) (OUTR_trans (fun x hx _ _ => up2_oth (by omega)) j4)
end r64
