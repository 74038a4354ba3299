/-! resets -/
section r88
variable {d : Nat} {S : SS} {I J G I2 : II} {C : CF} {ρ σ : RW} {b q k r N : Int}
theorem c_rs46 (hD : DA S b) (h : RelD C I b ρ) (hW : W0 C ρ) (hk : okC C) : ∀ (n : Nat) (q x : Int), 0 ≤ q → q ≤ C.1 → n = (C.1 - q).toNat → ev (d + 2) 46 4 [(2, b), (0, x), (0, q)] [] S I = some ((0, x + sm (usd ρ) n q), S, I) := by
  have hn0 := hk.1
  have hn5 := hk.2.1
  have e0 : I b 0 = C.1 := h.1.1
  intro n
  induction n with
  | zero =>
    intro q x q0 q1 hn
    rw [E46_4 hD, e0, w_small (z := q) (by omega) (by omega), w_small (z := C.1) (by omega) (by omega), if_neg (by omega), E46_35]
    simp [sm]
  | succ n ih =>
    intro q x q0 q1 hn
    rw [E46_4 hD, e0, w_small (z := q) (by omega) (by omega), w_small (z := C.1) (by omega) (by omega), if_pos (by omega), if_pos (by omega), gdR_pos (by omega), c_notTaken (DA_lane hD q0 (by omega)) (h.2.2.2.2.1 q q0 (by omega)) h.2.2.2.2.2 hW q0 (by omega)]
    simp only [Option.bind_some, psh_i]
    rw [E46_27, ih (q + 1) _ (by omega) (by omega) (by omega), sm_succ, Int.add_assoc]
theorem c_rs13 {x2 : Int} (hD : DA S b) (h : RelD C I b ρ) (hW : W0 C ρ) : ∀ (n : Nat) (k x : Int), 0 ≤ k → k ≤ ρ 493 → n = (ρ 493 - k).toNat → ev d 44 13 [(2, b), (2, 3), (0, x2), (0, x), (0, k), uU] [] S I = ev d 44 53 [(2, b), (2, 3), (0, x2), (0, x + sm (fun k => if 0 ≤ ρ (452 + 12 * k) then 1 else 0) n k), (0, ρ 493), uU] [] S I := by
  have r0 := hW.2.1.1
  have r4 := hW.2.1.2.1
  have e10 : I b 10 = ρ 493 := h.1.2.2.2.2.2.1
  intro n
  induction n with
  | zero =>
    intro k x k0 k1 hn
    have : k = ρ 493 := by omega
    subst this
    rw [E44_13 hD, e10, if_neg (by omega)]
    simp [sm]
  | succ n ih =>
    intro k x k0 k1 hn
    have ro := hW.2.1.2.2 k k0 (by omega)
    unfold run1OK at ro
    obtain ⟨o1, o2, o3, o4, o5, o6⟩ := ro
    obtain ⟨⟨u1, u2, u3⟩, u4⟩ := h.2.2.1 k k0 (by omega)
    rw [E44_13 hD, e10, w_small (z := k) (by omega) (by omega), w_small (z := ρ 493) (by omega) (by omega), if_pos (by omega), if_pos (by omega), gdR_pos (by omega), u3, E44_45, E44_45, ih (k + 1) _ (by omega) (by omega) (by omega), ih (k + 1) _ (by omega) (by omega) (by omega), sm_succ]
    rcases o6 with ⟨s1, s2⟩ | ⟨s1, s2, s3, s4⟩
    · rw [if_pos (by omega : ρ (452 + 12 * k) < 0), if_pos (by decide), if_neg (by omega), Int.add_assoc]
    · have pb := pkA_b s2
      rw [if_neg (by omega : ¬ ρ (452 + 12 * k) < 0), w_small (z := pkA ρ (451 + 12 * k)) (by omega) (by omega), if_neg (by omega), if_pos (by omega), Int.add_assoc]
theorem c_rs62 {x2 x3 x4 : Int} (hD : DA S b) : ∀ (n : Nat) (k : Int) (I : II), 0 ≤ k → k ≤ 5 → n = (5 - k).toNat →
    ∃ J, ev (d + 1) 44 62 [(2, b), (2, 3), (0, x2), (0, x3), (0, x4), (0, k)] [] S I = ev (d + 1) 44 62 [(2, b), (2, 3), (0, x2), (0, x3), (0, x4), (0, 5)] [] S J ∧ (∀ q s, k ≤ q → q < 5 → 4 ≤ s → s ≤ 13 → J (b + 11 + 4 * q) s = 0) ∧ (∀ q s, q < 5 → s < 4 → J (b + 11 + 4 * q) s = I (b + 11 + 4 * q) s) ∧ (∀ q s, q < k → J (b + 11 + 4 * q) s = I (b + 11 + 4 * q) s) ∧ ∀ y, (∀ q, k ≤ q → q < 5 → y ≠ b + 11 + 4 * q) → J y = I y := by
  intro n
  induction n with
  | zero =>
    intro k I k0 k1 hn
    have : k = 5 := by omega
    subst this
    exact ⟨I, rfl, fun q s q0 q1 _ _ => by omega, fun _ _ _ _ => rfl, fun _ _ _ => rfl, fun _ _ => rfl⟩
  | succ n ih =>
    intro k I k0 k1 hn
    rw [E44_62 hD, w_small (z := k) (by omega) (by omega), if_pos (by omega), gdR_pos (by omega), E96_0 (DA_lane hD k0 (by omega))]
    simp only [Option.bind_some, psh_u]
    rw [E44_78]
    generalize hG : up2 (up2 (up2 (up2 (up2 (up2 (up2 (up2 (up2 (up2 I (b + 11 + 4 * k) 4 0) (b + 11 + 4 * k) 5 0) (b + 11 + 4 * k) 6 0) (b + 11 + 4 * k) 7 0) (b + 11 + 4 * k) 8 0) (b + 11 + 4 * k) 9 0) (b + 11 + 4 * k) 10 0) (b + 11 + 4 * k) 11 0) (b + 11 + 4 * k) 12 0) (b + 11 + 4 * k) 13 0 = G
    have g1 : ∀ s, 4 ≤ s → s ≤ 13 → G (b + 11 + 4 * k) s = 0 := fun s s0 s1 => by
      rw [← hG]
      rcases (by omega : s = 4 ∨ s = 5 ∨ s = 6 ∨ s = 7 ∨ s = 8 ∨ s = 9 ∨ s = 10 ∨ s = 11 ∨ s = 12 ∨ s = 13) with rfl | rfl | rfl | rfl | rfl | rfl | rfl | rfl | rfl | rfl <;> simp [up2]
    have g2 : ∀ s, s < 4 → G (b + 11 + 4 * k) s = I (b + 11 + 4 * k) s := fun s s0 => by
      rw [← hG]
      rw [up2_miss (by omega), up2_miss (by omega), up2_miss (by omega), up2_miss (by omega), up2_miss (by omega), up2_miss (by omega), up2_miss (by omega), up2_miss (by omega), up2_miss (by omega), up2_miss (by omega)]
    have g3 : ∀ y, y ≠ b + 11 + 4 * k → G y = I y := fun y hy => by
      rw [← hG]; simp only [up2_oth hy]
    obtain ⟨J, j1, j2, j3, j4, j5⟩ := ih (k + 1) G (by omega) (by omega) (by omega)
    refine ⟨J, j1, fun q s q0 q1 s0 s1 => ?_, fun q s q1 s0 => ?_, fun q s q0 => ?_, fun y hy => ?_⟩
    · by_cases e : q = k
      · subst e; rw [j4 q s (by omega), g1 s s0 s1]
      · exact j2 q s (by omega) q1 s0 s1
    · rw [j3 q s q1 s0]
      by_cases e : q = k
      · subst e; exact g2 s s0
      · rw [g3 _ (by omega)]
    · rw [j4 q s (by omega), g3 _ (by omega)]
    · rw [j5 y (fun q q0 q1 => hy q (by omega) q1), g3 y (hy k (by omega) (by omega))]
theorem c_fill4 (hK : KA S k 20 4) {v : Int} : ∃ J, ev d 323 0 [(2, k), (0, v), uU, uU] [] S I = some (uU, S, J) ∧ (∀ j, 0 ≤ j → j < 4 → J k j = v) ∧ ∀ y, y ≠ k → J y = I y := by
  refine ⟨up2 (up2 (up2 (up2 I k 0 v) k 1 v) k 2 v) k 3 v, ?_, fun j j0 j1 => ?_, fun y hy => by simp only [up2_oth hy]⟩
  · rw [E323_0 hK, E323_5 hK, if_pos (by decide), gdR_pos (by decide), E323_5 hK, if_pos (by decide), gdR_pos (by decide), E323_5 hK, if_pos (by decide), gdR_pos (by decide), E323_5 hK, if_pos (by decide), gdR_pos (by decide), E323_5 hK, if_neg (by decide)]
    rw [show w 0 = 0 by decide, show w (0 + 1) = 1 by decide, show w (0 + 1 + 1) = 2 by decide, show w (0 + 1 + 1 + 1) = 3 by decide]
  · rcases (by omega : j = 0 ∨ j = 1 ∨ j = 2 ∨ j = 3) with rfl | rfl | rfl | rfl <;> simp [up2]
def rsA (C : CF) (ρ : RW) : Int := sm (fun q => ρ (89 * q) - ρ (89 * q + 3)) C.1.toNat 0
def rsB (C : CF) (ρ : RW) : Int := ρ 814 + sm (fun q => ρ (89 * q + 5) - ρ (89 * q + 6)) C.1.toNat 0
theorem c_reset (hb : b = 5 ∨ 36 ≤ b) (hD : DA S b) (hR : RA S 3) (h : RelD C I b ρ) (hw : WF C ρ) (hk : okC C) : ∃ J, ev (d + 5) 44 0 [(2, b), (2, 3), uU, uU, uU, uU] [] S I = some ((0, rsA C ρ + runm ρ + rsB C ρ), S, J) ∧ RelD C J b (rsS C ρ) ∧ TD J 3 (updR (updR (updR (fun _ => 0) 0 (w (rsA C ρ))) 1 (w (runm ρ))) 2 (w (rsB C ρ))) ∧ ∀ y, ¬ (b ≤ y ∧ y < b + 31) → y ≠ 3 → y ≠ 4 → J y = I y := by
  have hW := hw.1
  have hn0 := hk.1
  have hn5 := hk.2.1
  have r0 := hW.2.1.1
  have e10 : I b 10 = ρ 493 := h.1.2.2.2.2.2.1
  have s24 : ∀ f : Int, 4 ≤ f → f < 12 → ∀ d' : Nat, ev (d' + 1) 24 0 [(2, b), (0, f), uU, uU] [] S I = some ((0, 0 + sm (fun q => ρ (89 * q + (f - 4))) C.1.toNat 0), S, I) := fun f f0 f1 d' => by
    rw [E24_0, c_sum (d := d') hD h hW hk f0 f1 C.1.toNat 0 0 (by decide) (by omega) (by rw [Int.sub_zero])]
  have eA : (0 + sm (fun q => ρ (89 * q + (4 - 4))) C.1.toNat 0) - (0 + sm (fun q => ρ (89 * q + (7 - 4))) C.1.toNat 0) = rsA C ρ := by
    unfold rsA
    rw [sm_sub, Int.zero_add, Int.zero_add]
    simp only [show (4 : Int) - 4 = 0 from rfl, show (7 : Int) - 4 = 3 from rfl, Int.add_zero]
  have eM : ρ 493 + sm (fun k => if 0 ≤ ρ (452 + 12 * k) then 1 else 0) (ρ 493).toNat 0 = runm ρ := by
    unfold runm
    rw [sm_add, sm_const]; omega
  have eT := usd_tot hw hn0 hn5
  have eT' : sm (usd ρ) C.1.toNat 0 = rsA C ρ + runm ρ + rsB C ρ := eT
  obtain ⟨J, j1, j2, j3, j4, j5⟩ := c_rs62 (d := d + 4) (S := S) (x2 := rsA C ρ) (x3 := runm ρ) (x4 := rsA C ρ + runm ρ + rsB C ρ) hD 5 0 I (by decide) (by decide) (by decide)
  have hK5 : KA S (b + 5) 20 4 := DA_k5 hD
  generalize hG : cpy (up2 (up2 J b 10 0) b 15 0) (b + 3) 0 (b + 4) 0 4 = G at *
  have go : ∀ y, y ≠ b → y ≠ b + 4 → G y = J y := fun y y0 y1 => by
    rw [← hG]; funext i; rw [cpy_cell y1, up2_oth y0, up2_oth y0]
  have g4 : ∀ c, 0 ≤ c → c < 4 → G (b + 4) c = I (b + 3) c := fun c c0 c1 => by
    rw [← hG, cpy_in ⟨rfl, by omega, by omega⟩, up2_oth (by omega), up2_oth (by omega), j5 _ (fun q q0 q1 => by omega)]
    congr 1; omega
  have gb : ∀ i, i ≠ 10 → i ≠ 15 → G b i = I b i := fun i i0 i1 => by
    rw [← hG, cpy_cell (by omega), up2_miss (by omega), up2_miss (by omega), j5 _ (fun q q0 q1 => by omega)]
  have gb10 : G b 10 = 0 := by rw [← hG, cpy_cell (by omega), up2_miss (by omega), up2_hit rfl rfl]
  have gb15 : G b 15 = 0 := by rw [← hG, cpy_cell (by omega), up2_hit rfl rfl]
  obtain ⟨F, f1, f2, f3⟩ := c_fill4 (d := d + 4) (I := G) (v := 4) hK5
  obtain ⟨A, a1, a2, a3⟩ := c_tell3 (d := d + 1) (S := S) (I := F) (x := w (rsA C ρ)) (y := w (runm ρ)) (z := w (rsB C ρ)) hR
  refine ⟨A, ?_, ?_, a2, fun y y0 y1 y2 => ?_⟩
  · rw [E44_0 hD, E45_0 hD, s24 4 (by decide) (by decide)]
    simp only [Option.bind_some, psh_i]
    rw [E45_5 hD, s24 7 (by decide) (by decide)]
    simp only [Option.bind_some, psh_i]
    rw [E45_11, eA]
    simp only [Option.bind_some, psh_i]
    rw [E44_4 hD, e10, c_rs13 hD h hW (ρ 493).toNat 0 (ρ 493) (by decide) r0 (by rw [Int.sub_zero]), eM, E44_53 hD, E46_0, c_rs46 (d := d + 2) hD h hW hk C.1.toNat 0 0 (by decide) (by omega) (by rw [Int.sub_zero]), Int.zero_add, eT']
    simp only [Option.bind_some, psh_i]
    rw [E44_57, j1, E44_62 hD, if_neg (by decide), hG, f1]
    simp only [Option.bind_some, psh_u]
    rw [E44_116 hR, show rsA C ρ + runm ρ + rsB C ρ - rsA C ρ - runm ρ = rsB C ρ by omega, a1]
    simp only [Option.bind_some, psh_u]
    rw [E44_131]
  · have ax : ∀ y, b ≤ y → y < b + 31 → A y = F y := fun y y0 y1 => a3 y (by omega) (by omega)
    have fx : ∀ y, b ≤ y → y < b + 31 → y ≠ b + 5 → A y = G y := fun y y0 y1 y2 => by rw [ax y y0 y1, f3 y y2]
    have lo : ∀ j, j < 445 → rsS C ρ j = if 0 ≤ j ∧ j < 89 * C.1 then 0 else ρ j := fun j hj => by
      by_cases g : 0 ≤ j ∧ j < 89 * C.1
      · rw [if_pos g, rs_lo g.1 g.2]
      · rw [if_neg g, rs_mid g (by omega) (by omega) (by omega)]
    obtain ⟨⟨h10, h11, h12, h13, h14, h15, h16⟩, ⟨a21, a22, a23⟩, h3, h4, h5, h6⟩ := h
    refine ⟨⟨?_, ?_, ?_, ?_, ?_, ?_, ?_⟩, ⟨fun j j0 j1' => ?_, fun c c0 c1 => ?_, fun c c0 c1 => ?_⟩, fun k k0 k1 => ?_, fun k k0 k1 => ?_, fun q q0 q1 => ?_, fun q id q0 q1 i0 i1 => ?_⟩
    · rw [fx b (by omega) (by omega) (by omega), gb 0 (by decide) (by decide)]; exact h10
    · rw [fx b (by omega) (by omega) (by omega), gb 6 (by decide) (by decide), rs_mid (by omega) (by decide) (by decide) (by decide)]; exact h11
    · rw [fx b (by omega) (by omega) (by omega), gb 7 (by decide) (by decide), rs_mid (by omega) (by decide) (by decide) (by decide)]; exact h12
    · rw [fx b (by omega) (by omega) (by omega), gb 8 (by decide) (by decide), rs_mid (by omega) (by decide) (by decide) (by decide)]; exact h13
    · rw [fx b (by omega) (by omega) (by omega), gb 9 (by decide) (by decide), rs_mid (by omega) (by decide) (by decide) (by decide)]; exact h14
    · rw [fx b (by omega) (by omega) (by omega), gb10, rs_0 hn5 (by omega)]
    · rw [fx b (by omega) (by omega) (by omega), gb15, rs_0 hn5 (by omega)]
    · rw [fx _ (by omega) (by omega) (by omega), go _ (by omega) (by omega), j5 _ (fun q q0 q1 => by omega), rs_mid (by omega) (by omega) (by omega) (by omega)]; exact a21 j j0 j1'
    · rw [fx (b + 3) (by omega) (by omega) (by omega), go _ (by omega) (by omega), j5 _ (fun q q0 q1 => by omega), fx (b + 4) (by omega) (by omega) (by omega), g4 c (by omega) c1, rs_mid (by omega) (by omega) (by omega) (by omega), rs_c hn5 (by omega) (by omega), show 818 + c - 4 = 814 + c by omega]
      exact ⟨(a22 c c0 c1).1, (a22 c c0 c1).1⟩
    · rw [ax _ (by omega) (by omega), f2 c c0 c1, rs_4 hn5 (by omega) (by omega)]
    · rw [rs_0 hn5 (by omega)] at k1; omega
    · rw [rs_0 hn5 (by omega)] at k1; omega
    · have la : ∀ s, A (b + 11 + 4 * q) s = J (b + 11 + 4 * q) s := fun s => by rw [fx _ (by omega) (by omega) (by omega), go _ (by omega) (by omega)]
      have ra : ∀ i, 1 ≤ i → i ≤ 3 → A (b + 11 + 4 * q + i) = I (b + 11 + 4 * q + i) := fun i i0 i1 => by rw [fx _ (by omega) (by omega) (by omega), go _ (by omega) (by omega), j5 _ (fun q' q0 q1 => by omega)]
      obtain ⟨⟨l0, l3, l4, l5, l6, l7, l8, l9, l10, l11, l12⟩, ⟨lr1, lr2⟩, lp, lb⟩ := h5 q q0 q1
      have c := (hW.1 q q0 q1).1
      unfold cntsOK at c
      have z : ∀ i, 0 ≤ i → i < 9 → rsS C ρ (89 * q + i) = 0 := fun i i0 i1 => by
        rw [lo _ (by omega)]
        split
        · rfl
        · rename_i g
          rcases (by omega : i = 0 ∨ i = 1 ∨ i = 2 ∨ i = 3 ∨ i = 4 ∨ i = 5 ∨ i = 6 ∨ i = 7 ∨ i = 8) with rfl | rfl | rfl | rfl | rfl | rfl | rfl | rfl | rfl
          · rw [Int.add_zero]; omega
          all_goals omega
      have z0 := z 0 (by decide) (by decide)
      rw [Int.add_zero] at z0
      refine ⟨⟨fun g => ?_, ?_, ?_, ?_, ?_, ?_, ?_, ?_, ?_, ?_, ?_⟩, ⟨fun k k0 k1 => ?_, fun j j0 j1 => ?_⟩, fun k k0 k1 => ?_, ?_⟩
      · rw [la, la, la, la, j3 q 0 q1 (by decide), j3 q 1 q1 (by decide), j3 q 2 q1 (by decide), j3 q 3 q1 (by decide)]; exact l0 g
      · rw [la, j3 q 3 q1 (by decide)]; exact l3
      · rw [la, j2 q 4 q0 q1 (by decide) (by decide), z0]
      · rw [la, j2 q 5 q0 q1 (by decide) (by decide), z 1 (by decide) (by decide)]
      · rw [la, j2 q 6 q0 q1 (by decide) (by decide), z 2 (by decide) (by decide)]
      · rw [la, j2 q 7 q0 q1 (by decide) (by decide), z 3 (by decide) (by decide)]
      · rw [la, j2 q 8 q0 q1 (by decide) (by decide), z 4 (by decide) (by decide)]
      · rw [la, j2 q 9 q0 q1 (by decide) (by decide), z 5 (by decide) (by decide)]
      · rw [la, j2 q 10 q0 q1 (by decide) (by decide), z 6 (by decide) (by decide)]
      · rw [la, j2 q 11 q0 q1 (by decide) (by decide), z 7 (by decide) (by decide)]
      · rw [la, j2 q 12 q0 q1 (by decide) (by decide), z 8 (by decide) (by decide)]
      · rw [z 3 (by decide) (by decide)] at k0; rw [z0] at k1; omega
      · rw [ra 1 (by decide) (by decide)]; exact lr2 j j0 j1
      · rw [z 6 (by decide) (by decide)] at k0; rw [z 5 (by decide) (by decide)] at k1; omega
      · rw [la, j2 q 13 q0 q1 (by decide) (by decide)]; decide
    · rw [fx _ (by omega) (by omega) (by omega), go _ (by omega) (by omega), j2 q 13 q0 q1 (by decide) (by decide), rs_cnt hW hn0 hn5]
      simp
  · rw [a3 y y1 y2, f3 y (by omega), go y (by omega) (by omega), j5 y (fun q q0 q1 => by omega)]
theorem call_resets (hS : SH S) (h : ST N I) (hN0 : 100 ≤ N) (hN : N < 70000000) : ∃ r I1 I2, ev (d + 100) 152 0 [(2, 0)] [] S I = some ((0, r), S, I1) ∧ ev (d + 100) 261 0 [(2, 427)] [] S I1 = some ((0, r), S, I2) ∧ ST (N + 100000) I2 := by
  obtain ⟨hQ, hM⟩ := hS
  obtain ⟨G, g1, g2, g3, g4, g5⟩ := act_beg (S := S) (d + 97) hQ h
  have h2 := h
  obtain ⟨_, tR, _, ⟨hk, hD⟩, _, ⟨p0, p1, p2, p3, _⟩, _, hB⟩ := h2
  have hn0 := hk.1
  have hn5 := hk.2.1
  obtain ⟨G', k1, k2, k3, k4⟩ := c_reset (d := d + 94) (S := S) (b := 5) (Or.inl rfl) (DA5 hQ) (RA3 hQ) g4 hD.2.1 hk
  obtain ⟨w1, w2, w3⟩ := rs_WF hD.2.1 hn0 hn5 hB.1 hN0
  have e67 : G' 67 = I 67 := by rw [k4 67 (by omega) (by decide) (by decide), g5]
  have Cn1 := WF_Cn hD.2.1.1 hB.1 (by omega)
  have r0 := hD.2.1.1.2.1.1
  have r4 := hD.2.1.1.2.1.2.1
  have o0 := hD.2.1.1.2.2.1.1
  have o8 := hD.2.1.1.2.2.1.2.1
  have ca : ∀ q, 0 ≤ q → q < 0 + ((cfM I).1.toNat : Int) → (0 ≤ I 438 (89 * q) - I 438 (89 * q + 3) ∧ I 438 (89 * q) - I 438 (89 * q + 3) ≤ 7) ∧ 0 ≤ I 438 (89 * q + 5) - I 438 (89 * q + 6) ∧ I 438 (89 * q + 5) - I 438 (89 * q + 6) ≤ 7 := fun q q0 q1 => by
    have c := (hD.2.1.1.1 q q0 (by omega)).1
    unfold cntsOK at c
    omega
  have bA0 : 0 ≤ rsA (cfM I) (I 438) := sm_nonneg _ _ (fun q q0 q1 => (ca q q0 q1).1.1)
  have bA1 : rsA (cfM I) (I 438) ≤ (cfM I).1.toNat * 7 := by
    have := sm_le (f := fun q => I 438 (89 * q) - I 438 (89 * q + 3)) (g := fun _ => 7) (cfM I).1.toNat 0 (fun q q0 q1 => (ca q q0 q1).1.2)
    rw [sm_const] at this; exact this
  have bB0 : 0 ≤ sm (fun q => I 438 (89 * q + 5) - I 438 (89 * q + 6)) (cfM I).1.toNat 0 := sm_nonneg _ _ (fun q q0 q1 => (ca q q0 q1).2.1)
  have bB1 : sm (fun q => I 438 (89 * q + 5) - I 438 (89 * q + 6)) (cfM I).1.toNat 0 ≤ (cfM I).1.toNat * 7 := by
    have := sm_le (f := fun q => I 438 (89 * q + 5) - I 438 (89 * q + 6)) (g := fun _ => 7) (cfM I).1.toNat 0 (fun q q0 q1 => (ca q q0 q1).2.2)
    rw [sm_const] at this; exact this
  have bM0 : 0 ≤ runm (I 438) := by unfold runm; exact sm_nonneg _ _ (fun k _ _ => by split <;> omega)
  have bM1 : runm (I 438) ≤ 80 := by have := out_room hD.2.1 hn5; omega
  have eB : rsB (cfM I) (I 438) = I 438 814 + sm (fun q => I 438 (89 * q + 5) - I 438 (89 * q + 6)) (cfM I).1.toNat 0 := rfl
  generalize han : rsA (cfM I) (I 438) + runm (I 438) + rsB (cfM I) (I 438) = an at *
  have aI : isI an := ⟨by omega, by omega⟩
  have an0 : 0 ≤ an := by omega
  have oB : ∀ x, ¬ (5 ≤ x ∧ x < 36) → ¬ (71 + 31 * I 67 1 ≤ x ∧ x < 71 + 31 * I 67 1 + 31) → x ≠ 3 → x ≠ 4 → x ≠ 416 → x ≠ 417 → G' x = I x := fun x x0 x1 x2 x3 _ _ => by rw [k4 x (by omega) x2 x3, g3 x (by omega)]
  obtain ⟨B, b1, b2, _, b3, b4, b5, b6⟩ := act_mid (a := an) hM h w1 w2 (BdN_le w3 (by omega)) (GD_mem g2 (fun x x0 x1 => k4 x (by omega) (by omega) (by omega))) k2 oB
  have r1 := E152_0 (d := d + 99) (I := I) hQ
  rw [g1] at r1
  simp only [Option.bind_some, psh_u] at r1
  rw [E152_11 hQ, k1] at r1
  simp only [Option.bind_some, psh_i] at r1
  rw [E152_26 (PA67 hQ), c_seal hQ (by rw [e67]; exact p0) (by rw [e67]; exact p1) (by rw [e67]; exact p2) (by rw [e67]; exact p3) aI, e67] at r1
  simp only [Option.bind_some, psh_i, E152_29] at r1
  have r2 := E261_0 (d := d + 99) (I := if an < 0 then G' else up2 (up2 G' 67 1 ((I 67 1 + 1) % 9)) 67 2 (addZ (I 67 2))) hM
  rw [b1] at r2
  simp only [Option.bind_some, psh_u] at r2
  obtain ⟨z, hz⟩ := m_resets (d := d + 97) (S := S) (I := B) (r := 438) (f := 1) hM (Or.inl rfl) (by rw [b2]; exact hk) (by rw [b3]; exact Cn1.1) (by rw [b3]; exact r0) (by rw [b3]; exact r4)
  have hK := isRw_K hM (Or.inl rfl : isRw 438)
  rw [b2, b3] at hz
  generalize hI1 : (if an < 0 then G' else up2 (up2 G' 67 1 ((I 67 1 + 1) % 9)) 67 2 (addZ (I 67 2))) = I1 at r1 r2
  rw [E261_9 hM, hz, E262_144 hK hM, if_neg (by decide), if_neg (by decide)] at r2
  have s27 : setR B 438 (rsS (cfM I) (I 438)) 427 = B 427 := setR_oth (by decide)
  generalize hE0 : up2 (setR B 438 (rsS (cfM I) (I 438))) 427 1 0 = E0 at r2
  have x0 : MD E0 0 (fun _ => 0) := by rw [← hE0]; exact ⟨up2_hit rfl rfl, fun j j0 j1 => by omega⟩
  have y0 : ∀ x, x ≠ 427 → E0 x = setR B 438 (rsS (cfM I) (I 438)) x := fun x hx => by rw [← hE0, up2_oth hx]
  have z0 : ∀ k, k ≠ 1 → E0 427 k = B 427 k := fun k hk => by rw [← hE0, up2_miss (by omega), s27]
  obtain ⟨E1, m1, x1, z1, y1⟩ := m_ent (d := d + 98) (S := S) (x := w (rsA (cfM I) (I 438))) hM x0 (by decide) (by decide)
  have m1' : ev (d + 98) 255 0 [(2, 427), (1, w (sm (fun q => I 438 (89 * q) - I 438 (89 * q + 3)) (cfM I).1.toNat 0)), uU] [] S E0 = some (uU, S, E1) := m1
  rw [m1'] at r2
  simp only [Option.bind_some, psh_u] at r2
  obtain ⟨E2, m2, x2, z2, y2⟩ := m_ent (d := d + 98) (S := S) (x := w (runm (I 438))) hM x1 (by decide) (by decide)
  rw [E262_205 hM, m2] at r2
  simp only [Option.bind_some, psh_u] at r2
  obtain ⟨E3, m3, x3, z3, y3⟩ := m_ent (d := d + 98) (S := S) (x := w (rsB (cfM I) (I 438))) hM x2 (by decide) (by decide)
  rw [E262_212 hM, ← eB, m3] at r2
  simp only [Option.bind_some, psh_u] at r2
  have er : sm (fun q => I 438 (89 * q) - I 438 (89 * q + 3)) (cfM I).1.toNat 0 + runm (I 438) + rsB (cfM I) (I 438) = an := han
  rw [E262_219, er] at r2
  simp only [Option.bind_some, psh_i] at r2
  have ex : ∀ x, x ≠ 427 → x ≠ 428 → x ≠ 432 → x ≠ 433 → E3 x = setR B 438 (rsS (cfM I) (I 438)) x := fun x a0 a1 _ _ => by rw [y3 x a0 a1, y2 x a0 a1, y1 x a0 a1, y0 x a0]
  have ek : ∀ k, (k = 4 ∨ k = 36 ∨ k = 10 ∨ k = 14 ∨ k = 15 ∨ k = 22) → E3 427 k = I 427 k := fun k hk => by rw [z3 k (by omega), z2 k (by omega), z1 k (by omega), z0 k (by omega)]; exact b4 k (by omega)
  obtain ⟨I2, l1, l2⟩ := (b6 E3 ex ek ⟨3, _, by decide, by decide, k3, x3⟩).2 an0
  rw [E261_19 hM, l1] at r2
  simp only [Option.bind_some, psh_i] at r2
  rw [E261_22] at r2
  exact ⟨_, _, I2, r1, r2, l2⟩
end r88
