/-! A TICK by the class is tickS */ -/
theorem arR_congr2 {I J : II} {b : Int} {ρ σ : RW} (hI : ∀ a, b + 2 ≤ a → a ≤ b + 5 → J a = I a) (hρ : ∀ j, 815 ≤ j → j < 838 → j ≠ 827 → σ j = ρ j) (h : arR I b ρ) : arR J b σ := by
  obtain ⟨h1, h2, h3⟩ := h
  refine ⟨fun j g0 g1 => ?_, fun c g0 g1 => ?_, fun c g0 g1 => ?_⟩
  · rw [hI _ (by omega) (by omega), hρ _ (by omega) (by omega) (by omega)]; exact h1 j g0 g1
  · rw [hI _ (by omega) (by omega), hI _ (by omega) (by omega), hρ _ (by omega) (by omega) (by omega), hρ _ (by omega) (by omega) (by omega)]; exact h2 c g0 g1
  · rw [hI _ (by omega) (by omega), hρ _ (by omega) (by omega) (by omega)]; exact h3 c g0 g1
section r65
variable {d : Nat} {S : SS} {C : CF} {K : KF} {b u q : Int}
theorem c_shads (hb : 0 ≤ b) (hD : DA S b) (hk : okC C) {N : Int} (hN0 : 0 ≤ N) (hN : N < 1073741824) : ∀ (n : Nat) (q : Int) (ρ : RW) (I : II), RelD C I b ρ → WF C ρ → BdN N ρ → 0 ≤ q → n = (C.1 - q).toNat → q ≤ C.1 →
    ∃ J, ev (d + 1) 25 10 [(2, b), (2, u), (0, q)] [] S I = ev (d + 1) 25 40 [(2, b), (2, u), (0, 0)] [] S J ∧ RelD C J b (shadsS C n q ρ) ∧ OUTB b I J := by
  have n5 := hk.2.1
  intro n
  induction n with
  | zero =>
    intro q ρ I h hw hB h0 hn h1
    have e0 : I b 0 = C.1 := h.1.1
    refine ⟨I, ?_, h, OUTB_refl b I⟩
    rw [E25_10 hD, e0, w_small (z := q) (by omega) (by omega), w_small (z := C.1) (by omega) (by omega), if_neg (by omega), E25_38]
  | succ n ih =>
    intro q ρ I h hw hB h0 hn h1
    have e0 : I b 0 = C.1 := h.1.1
    obtain ⟨J, j1, j2, j3⟩ := c_shad (d := d) (S := S) hb hD h hw.1 hk (BdN_Bd hB hN) h0 (by omega : q < C.1)
    obtain ⟨w1, w2, w3⟩ := shad_W0 hw.1 h0 (show q < 5 by omega)
    obtain ⟨G, g1, g2, g3⟩ := ih (q + 1) (shadS C ρ q) J j2 ⟨w1, fun z => by rw [w2]; exact hw.2 z⟩ (BdN_shad hB hN0) (by omega) (by omega) (by omega)
    refine ⟨G, ?_, g2, OUTB_trans j3 g3⟩
    rw [E25_10 hD, e0, w_small (z := q) (by omega) (by omega), w_small (z := C.1) (by omega) (by omega), if_pos (by omega), if_pos (by omega), gdR_pos (by omega), j1]
    simp only [Option.bind_some, psh_u]
    rw [E25_32, g1]
theorem c_fetl (hb : 0 ≤ b) (hbu : b + 31 ≤ u) (hD : DA S b) (hU : UA S u) (hK : okK K) (hk : okC C) : ∀ (n : Nat) (i M : Int) (ρ : RW) (I : II), RelD C I b ρ → RuleR I u K → WF C ρ → BdN M ρ → 100 ≤ M → M + 3 * n ≤ 90000000 → 0 ≤ i → i ≤ 80 → n = (80 - i).toNat →
    ∃ J k, ev (d + 6) 25 40 [(2, b), (2, u), (0, i)] [] S I = ev (d + 6) 25 79 [(2, b), (2, u), (0, k)] [] S J ∧ RelD C J b (fetlS K C n ρ) ∧ OUTR b u I J := by
  intro n
  induction n with
  | zero =>
    intro i M ρ I h hR hw hB hM hM2 h0 h1 hn
    refine ⟨I, i, ?_, h, OUTR_of (OUTB_refl b I)⟩
    rw [E25_40 hD, w_small (z := i) (by omega) (by omega), if_neg (by omega)]
  | succ n ih =>
    intro i M ρ I h hR hw hB hM hM2 h0 h1 hn
    have b1 := hB 493
    have b2 := hB 826
    have d4 := hw.1.2.2.2.1.2.2.2.2
    have e10 : I b 10 = ρ 493 := h.1.2.2.2.2.2.1
    have e6 : I b 6 = ρ 826 := h.1.2.1
    rw [E25_40 hD, w_small (z := i) (by omega) (by omega), if_pos (by omega), e10, e6, w_small (z := ρ 493) (by omega) (by omega), w_small (z := ρ 826) (by omega) (by omega), fetlS]
    by_cases g : ρ 493 < ρ 826
    · rw [if_pos g, c_any (d := d + 4) hD h.1 h.2.2.2.2.1 hk (BdN_Bd hB (by omega))]
      simp only [Option.bind_some, psh_i]
      rw [E25_61 hD]
      by_cases g2 : anyS C ρ = true
      · obtain ⟨G, J, g1, j1, j2, j3⟩ := c_fetches (d := d) hb hbu hD hU hK hR h hw hk hB hM (by omega) g2 (by omega)
        obtain ⟨f1, f2, f3, f4, f5, f6⟩ := fetches_WF K hw hk g2 (by omega) hB hM
        obtain ⟨J2, k, l1, l2, l3⟩ := ih (i + 1) (M + 3) (fetchesS K C ρ) J j2 (RuleR_OUTR hbu hR j3) f1 f5 (by omega) (by omega) (by omega) (by omega) (by omega)
        refine ⟨J2, k, ?_, ?_, OUTR_trans j3 l3⟩
        · rw [if_pos g2, if_neg (by decide), g1]
          simp only [Option.bind_some, psh_i]
          rw [E25_69 hD, j1]
          simp only [Option.bind_some, psh_u]
          rw [E25_73, l1]
        · rw [if_pos ⟨g, g2⟩]; exact l2
      · refine ⟨I, i, ?_, ?_, OUTR_of (OUTB_refl b I)⟩
        · rw [if_neg g2, if_pos (by decide)]
        · rw [if_neg (fun e => g2 e.2)]; exact h
    · refine ⟨I, i, ?_, ?_, OUTR_of (OUTB_refl b I)⟩
      · rw [if_neg g]
      · rw [if_neg (fun e => g e.1)]; exact h
/-- A TICK */ -/
theorem c_goOn {I : II} {ρ : RW} {N : Int} (hb : 0 ≤ b) (hbu : b + 31 ≤ u) (hD : DA S b) (hU : UA S u) (hK : okK K) (hk : okC C) (h : RelD C I b ρ) (hR : RuleR I u K) (hw : WF C ρ) (hl : lftOK 1 ρ) (hN : 100 ≤ N) (hB : BdN N ρ) (hb8 : N < 80000000) :
    ∃ J, ev (d + 6) 25 0 [(2, b), (2, u), uU] [] S I = some (uU, S, J) ∧ RelD C J b (tickS K C ρ) ∧ OUTR b u I J := by
  have hn := hk.2.1
  have n0 := hk.1
  obtain ⟨A, a1, a2, a3⟩ := c_finish (d := d + 2) hN (by omega) hn hD h hw hl hB
  -- the reference's row on its way, as in tick_WF
  have r0 := hw.1.2.1.1
  have r4 := hw.1.2.1.2.1
  obtain ⟨x1, x2, x3, x4⟩ := decs_all (ρ 493).toNat 0 ρ hw.1 (by decide) (by omega)
  have x5 := BdN_decs (N := N) (ρ 493).toNat 0 ρ hB (fun i g0 g1 => by have := hl i g0 (by omega); omega)
  rw [show decsS (ρ 493).toNat 0 ρ = tk1S ρ from rfl] at x1 x2 x3 x4 x5
  have e1 : tk1S ρ 493 = ρ 493 := x3 493 (fun i _ _ => by omega)
  have l0 : lftOK 0 (tk1S ρ) := fun i g0 g1 => by
    rw [e1] at g1
    have := hl i g0 g1
    rw [x4 i g0 (by omega)]; omega
  obtain ⟨_, y2, y3, _, y5⟩ := endl_all hn hN (by omega) (tk1S ρ 493).toNat 0 (tk1S ρ) ⟨x1, fun z => by rw [x2]; exact hw.2 z⟩ x5 l0 (fun j g0 g1 => by omega) (by decide) (by omega) (by rw [Int.sub_zero])
  rw [show endlS (tk1S ρ 493).toNat 0 (tk1S ρ) = tk2S ρ from rfl] at y2 y3 y5
  have o8 := y2.1.2.2.1.2.1
  have o0 := y2.1.2.2.1.1
  obtain ⟨_, z2, z3, _, z5⟩ := post_all hk hN (tk2S ρ 814).toNat 0 N (tk2S ρ) y2 (Int.le_refl _) y3 (by omega) (by decide) (by omega) (by rw [Int.sub_zero])
  rw [show postlS C (tk2S ρ 814).toNat 0 (tk2S ρ) = tk3S C ρ from rfl] at z2 z3 z5
  have z3 := BdN_le z3 (show N + ((tk2S ρ 814).toNat : Int) ≤ N + 80 by omega)
  obtain ⟨s1, s2, _, _⟩ := shads_all hn (show (0 : Int) ≤ N + 80 by omega) C.1.toNat 0 (tk3S C ρ) z2 z3 (by decide) (by omega)
  rw [show shadsS C C.1.toNat 0 (tk3S C ρ) = tk4S C ρ from rfl] at s1 s2
  obtain ⟨B, b1, b2, b3⟩ := c_postAll (d := d + 2) hb hk hD a2 y2 (BdN_le y3 (by omega))
  rw [show postlS C (tk2S ρ 814).toNat 0 (tk2S ρ) = tk3S C ρ from rfl] at b2
  obtain ⟨G, g1, g2, g3⟩ := c_shads (d := d + 5) (u := u) hb hD hk (N := N + 80) (by omega) (by omega) C.1.toNat 0 (tk3S C ρ) B b2 z2 z3 (by decide) (by rw [Int.sub_zero]) n0
  rw [show shadsS C C.1.toNat 0 (tk3S C ρ) = tk4S C ρ from rfl] at g2
  have o3 : OUTB b I G := OUTB_trans a3 (OUTB_trans b3 g3)
  obtain ⟨J, k, j1, j2, j3⟩ := c_fetl (d := d) hb hbu hD hU hK hk 80 0 (N + 80) (tk4S C ρ) G g2 (RuleR_OUTR hbu hR (OUTR_of o3)) s1 s2 (by omega) (by omega) (by decide) (by decide) (by decide)
  rw [show fetlS K C 80 (tk4S C ρ) = tk5S K C ρ from rfl] at j2
  have e7 : J b 7 = tk5S K C ρ 827 := j2.1.2.2.1
  rw [E25_0 hD, a1]
  simp only [Option.bind_some, psh_u]
  rw [E25_4 hD, b1]
  simp only [Option.bind_some, psh_u]
  rw [E25_8, g1, j1, E25_79 hD, e7]
  have jx : ∀ x, x ≠ b → up2 J b 7 (tk5S K C ρ 827 + 1) x = J x := fun x hx => up2_oth hx
  have jk : ∀ k, k ≠ 7 → up2 J b 7 (tk5S K C ρ 827 + 1) b k = J b k := fun k hk => up2_miss (by omega)
  have oo : ∀ j, j ≠ 827 → tickS K C ρ j = tk5S K C ρ j := fun j g => updR_miss g
  have t7 : tickS K C ρ 827 = tk5S K C ρ 827 + 1 := updR_hit rfl
  obtain ⟨⟨d0, d6, d7, d8, d9, d10, d15⟩, h2, h3, h4, h5, h6⟩ := j2
  have w5 := (tick_WF K hk hw hl hN hB hb8).2.1
  have c493 := w5.1.2.1.2.1
  have c814 := w5.1.2.2.1.2.1
  rw [oo 493 (by decide)] at c493
  rw [oo 814 (by decide)] at c814
  refine ⟨_, rfl, ⟨⟨?_, ?_, ?_, ?_, ?_, ?_, ?_⟩, arR_congr2 (fun a a0 a1 => jx a (by omega)) (fun j j0 j1 j2 => oo j j2) h2, runsR_congr c493 (fun a a0 a1 => jx a (by omega)) (fun j j0 j1 => oo j (by omega)) h3, boxR_congr c814 (jx _ (by omega)) (fun j j0 j1 => oo j (by omega)) h4, fun q g0 g1 => laneR_congr g0 g1 (fun x x0 x1 => jx x (by omega)) (fun j j0 j1 => oo j (by omega)) (h5 q g0 g1), bitsR_congr (fun q g0 g1 => by rw [jx _ (by omega)]) (fun z => (cnt_low w5.1 (fun j g0 g1 _ g2 => (oo j (by omega)).symm)).symm) h6⟩, OUTR_trans (OUTR_of o3) (OUTR_trans j3 (fun x hx _ _ => jx x (by omega)))⟩
  · rw [jk 0 (by decide)]; exact d0
  · rw [jk 6 (by decide), oo 826 (by decide)]; exact d6
  · rw [up2_hit rfl rfl, t7]
  · rw [jk 8 (by decide), oo 838 (by decide)]; exact d8
  · rw [jk 9 (by decide), oo 839 (by decide)]; exact d9
  · rw [jk 10 (by decide), oo 493 (by decide)]; exact d10
  · rw [jk 15 (by decide), oo 814 (by decide)]; exact d15
end r65
