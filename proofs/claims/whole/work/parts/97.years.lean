/-! years: the reference; the call -/
def yrs (K : KF) (C : CF) : Nat → Int → RW → RW × Int
  | 0, _, ρ => (ρ, 0)
  | n + 1, s, ρ => ((yrs K C n (yst K C s ρ).1 (yst K C s ρ).2.1).1, (yst K C s ρ).2.2 + (yrs K C n (yst K C s ρ).1 (yst K C s ρ).2.1).2)
section r97
variable {d : Nat} {S T : SS} {I J G I2 : II} {C : CF} {K : KF} {ρ σ : RW} {a b u q k v j N r id s m x : Int}
theorem yrs_WF (hk : okC C) : ∀ (n : Nat) (s N : Int) (ρ : RW), WF C ρ → lftOK 1 ρ → 100 ≤ N → BdN N ρ → N + 400 * n < 79000000 → WF C (yrs K C n s ρ).1 ∧ lftOK 1 (yrs K C n s ρ).1 ∧ BdN (N + 400 * n) (yrs K C n s ρ).1 ∧ usum C (yrs K C n s ρ).1 = usum C ρ + (yrs K C n s ρ).2 := by
  intro n
  induction n with
  | zero => intro s N ρ h hl hN hB hb; exact ⟨h, hl, BdN_le hB (by omega), by show _ = _ + (0 : Int); rw [Int.add_zero]; rfl⟩
  | succ n ih =>
    intro s N ρ h hl hN hB hb
    obtain ⟨w1, w2, w3⟩ := yst_WF (K := K) (s := s) hk h hl hN hB (by omega)
    have us := yst_us (K := K) (s := s) hk h hl hN hB (by omega)
    obtain ⟨i1, i2, i3, i4⟩ := ih (yst K C s ρ).1 (N + 400) _ w1 w2 (by omega) w3 (by omega)
    refine ⟨i1, i2, BdN_le i3 (by omega), ?_⟩
    show usum C (yrs K C n (yst K C s ρ).1 (yst K C s ρ).2.1).1 = usum C ρ + ((yst K C s ρ).2.2 + (yrs K C n (yst K C s ρ).1 (yst K C s ρ).2.1).2)
    rw [i4, us]; omega
theorem m_yst {a3 a4 : Int} {a5 : AV} (hM : MA S 427) (hK : okK K) (hk : okC C) (hC : cfM I = C) (hKF : kfM I = K) (hI : I 439 = ρ) (hw : WF C ρ) (hl : lftOK 1 ρ) (hN : 100 ≤ N) (hB : BdN N ρ) (hb : N < 79000000) (hs : I 427 41 = s) (h0 : 0 ≤ a4) (h1 : a4 < v) (hv : v ≤ 1000) :
    ∃ J z, ev (d + 9) 304 33 [(2, 427), (0, a), (0, v), (0, a3), (0, a4), a5] [] S I = ev (d + 9) 304 33 [(2, 427), (0, a), (0, v), (0, a3 + (yst K C s ρ).2.2), (0, a4 + 1), z] [] S J ∧ J 439 = (yst K C s ρ).2.1 ∧ J 427 41 = (yst K C s ρ).1 ∧ (∀ k, k ≠ 24 → k ≠ 25 → k ≠ 41 → J 427 k = I 427 k) ∧ ∀ x, x ≠ 439 → x ≠ 427 → x ≠ 432 → x ≠ 433 → J x = I x := by
  have hn0 := hk.1
  have hn5 := hk.2.1
  have e14 : I 427 14 = C.1 := by rw [← hC]; rfl
  have b6 := drw_b (s := s) (m := 6) (by decide) (by decide)
  have e := E304_33 (d := d + 8) (S := S) (I := I) (a1 := a) (a2 := v) (a3 := a3) (a4 := a4) (a5 := a5) hM
  rw [w_small (z := a4) (by omega) (by omega), w_small (z := v) (by omega) (by omega), if_pos h1, m_13 hM hs (by decide) (by decide)] at e
  simp only [Option.bind_some, psh_i] at e
  rw [E304_45 hM, up2_miss (by decide), e14, w_small (z := C.1) (by omega) (by omega)] at e
  unfold yst
  by_cases gn : C.1 = 0
  · rw [if_neg (by omega), E304_74] at e
    rw [if_pos gn]
    refine ⟨_, (0, drw s 6), ?_, by rw [up2_oth (by decide)]; exact hI, up2_hit rfl rfl, fun k _ _ k2 => up2_miss (by omega), fun y _ y1 _ _ => up2_oth y1⟩
    rw [e]
    show _ = ev (d + 9) 304 33 [(2, 427), (0, a), (0, v), (0, a3 + 0), (0, a4 + 1), (0, drw s 6)] [] S _
    rw [Int.add_zero]
  rw [if_pos (by omega), m_13 (s := nxd s) hM (up2_hit rfl rfl) (by omega) (by omega)] at e
  rw [if_neg gn]
  simp only [Option.bind_some, psh_i] at e
  have db := drw_b (s := nxd s) (m := C.1) (by omega) (by omega)
  generalize hq : drw (nxd s) C.1 = q at *
  generalize hG : up2 (up2 I 427 41 (nxd s)) 427 41 (nxd (nxd s)) = G at e
  have gx : G 427 41 = nxd (nxd s) := by rw [← hG, up2_hit rfl rfl]
  have go : ∀ y, y ≠ 427 → G y = I y := fun y hy => by rw [← hG, up2_oth hy, up2_oth hy]
  have gk : ∀ k, k ≠ 41 → G 427 k = I 427 k := fun k hk => by rw [← hG, up2_miss (by omega), up2_miss (by omega)]
  have gC : cfM G = C := (cfM_mem (gk 14 (by decide)) (go 434 (by decide)) (go 435 (by decide)) (go 436 (by decide)) (go 437 (by decide))).trans hC
  have gK : kfM G = K := by rw [← hKF]; unfold kfM; rw [go 430 (by decide), gk 10 (by decide)]
  have gI : G 439 = ρ := by rw [go 439 (by decide)]; exact hI
  have tail : ∀ (Z : II) (t : Int), (t = 0 ∨ t = 1) → ev (d + 9) 304 69 [(2, 427), (0, a), (0, v), (0, a3), (0, a4), (0, drw s 6)] [(0, t), (0, a3)] S Z = ev (d + 9) 304 33 [(2, 427), (0, a), (0, v), (0, a3 + t), (0, a4 + 1), (0, drw s 6)] [] S Z := by
    intro Z t ht
    have f0 : ev (d + 8) 199 0 [(0, t)] [] S Z = some ((0, t), S, Z) := m_flag ht
    rw [E304_69, f0]
    simp only [Option.bind_some, psh_i]
    rw [E304_72, E304_74]
  have hCn : Cn ρ := WF_Cn hw.1 hB (by omega)
  rw [E304_66 hM, E306_0 hM, w_small (z := drw s 6) (by omega) (by omega)] at e
  by_cases g2 : drw s 6 = 2
  · rw [if_pos g2] at e
    rw [if_pos g2]
    have mr := m_rings (d := d + 5) (S := S) (I := G) (r := 439) (q := q) hM (Or.inr rfl) (by rw [gC]; exact hk) (by rw [gI]; exact hCn) ⟨by omega, by omega⟩
    rw [gC, gI] at mr
    rw [mr] at e
    simp only [Option.bind_some, psh_i] at e
    rw [E306_41] at e
    simp only [Option.bind_some, psh_i] at e
    rw [tail _ 0 (Or.inl rfl)] at e
    exact ⟨_, _, e, setR_same, by rw [setR_oth (by decide)]; exact gx, fun k _ _ k2 => by rw [setR_oth (by decide)]; exact gk k k2, fun y y0 y1 _ _ => by rw [setR_oth y0]; exact go y y1⟩
  rw [if_neg g2] at e
  rw [if_neg g2]
  by_cases g3 : drw s 6 = 3
  · rw [if_pos g3] at e
    rw [if_pos g3]
    obtain ⟨ok, _⟩ := tick_WF K hk hw hl hN hB (by omega)
    obtain ⟨J, j1, j2, _, _, j5, j6⟩ := m_tick (d := d) (S := S) (I := G) (r := 439) hM (Or.inr rfl) (by rw [gC]; exact hk) (by rw [gK]; exact hK) (by rw [gC, gK, gI]; exact ok)
    rw [gC, gK, gI] at j2
    rw [j1] at e
    simp only [Option.bind_some, psh_u] at e
    rw [E306_52] at e
    simp only [Option.bind_some, psh_i] at e
    rw [tail _ 0 (Or.inl rfl)] at e
    exact ⟨_, _, e, j2, by rw [j5 41 (by decide) (by decide)]; exact gx, fun k k0 k1 k2 => by rw [j5 k k0 k1]; exact gk k k2, fun y y0 y1 y2 y3 => by rw [j6 y y0 y1 y2 y3]; exact go y y1⟩
  rw [if_neg g3] at e
  rw [if_neg g3]
  by_cases g4 : drw s 6 = 4
  · rw [if_pos g4] at e
    rw [if_pos g4]
    have mt := m_takes (d := d + 5) (S := S) (I := G) (r := 439) (q := q) hM (Or.inr rfl) (by rw [gC]; exact hk) (by rw [gI]; exact hCn) ⟨by omega, by omega⟩
    rw [gC, gI] at mt
    have ab : -2 ≤ (takesS C ρ q).1 ∧ (takesS C ρ q).1 < 445 := by
      rw [takesS_eq, if_pos db]
      split
      · exact ⟨by show (-2 : Int) ≤ -2; decide, by show (-2 : Int) < 445; decide⟩
      · have pb := pAt_b (q := q) (k := ρ (89 * q + 6)) db.1 (by omega)
        exact ⟨by show -2 ≤ pAt q _; omega, by show pAt q _ < 445; omega⟩
    rw [mt] at e
    simp only [Option.bind_some, psh_i] at e
    rw [E306_63, w_small (z := (takesS C ρ q).1) (by omega) (by omega), E306_71 (Or.inl rfl), E306_71 (Or.inr rfl)] at e
    refine ⟨setR G 439 (takesS C ρ q).2, (0, drw s 6), ?_, setR_same, by rw [setR_oth (by decide)]; exact gx, fun k _ _ k2 => by rw [setR_oth (by decide)]; exact gk k k2, fun y y0 y1 _ _ => by rw [setR_oth y0]; exact go y y1⟩
    rw [e]
    by_cases gt : (takesS C ρ q).1 < 0
    · rw [if_pos gt, if_pos gt]
      simp only [Option.bind_some, psh_i]
      rw [tail _ 0 (Or.inl rfl)]
    · rw [if_neg gt, if_neg gt]
      simp only [Option.bind_some, psh_i]
      rw [tail _ 1 (Or.inr rfl)]
  rw [if_neg g4] at e
  rw [if_neg g4]
  by_cases g5 : drw s 6 = 5
  · rw [if_pos g5] at e
    rw [if_pos g5]
    have d16 := drw_b (s := nxd (nxd s)) (m := 16) (by decide) (by decide)
    rw [m_13 hM gx (by decide) (by decide)] at e
    simp only [Option.bind_some, psh_i] at e
    generalize hH : up2 G 427 41 (nxd (nxd (nxd s))) = H at e
    have ho : ∀ y, y ≠ 427 → H y = G y := fun y hy => by rw [← hH, up2_oth hy]
    have hok : ∀ k, k ≠ 41 → H 427 k = G 427 k := fun k hk => by rw [← hH, up2_miss (by omega)]
    have hCH : cfM H = C := (cfM_mem (hok 14 (by decide)) (ho 434 (by decide)) (ho 435 (by decide)) (ho 436 (by decide)) (ho 437 (by decide))).trans gC
    have hIH : H 439 = ρ := by rw [ho 439 (by decide)]; exact gI
    obtain ⟨_, _, _, o8⟩ := callsS_WF (q := q) (id := drw (nxd (nxd s)) 16) hw hk hB hN
    have mc := m_calls (d := d + 3) (S := S) (I := H) (r := 439) (q := q) (id := drw (nxd (nxd s)) 16) hM (Or.inr rfl) (by rw [hCH]; exact hk) (by rw [hIH]; exact hCn) ⟨by omega, by omega⟩ ⟨by omega, by omega⟩ (by rw [hCH, hIH]; exact o8)
    rw [hCH, hIH] at mc
    rw [E306_84 hM, mc] at e
    simp only [Option.bind_some, psh_i] at e
    rw [E306_87] at e
    simp only [Option.bind_some, psh_i] at e
    rw [tail _ 0 (Or.inl rfl)] at e
    exact ⟨_, _, e, setR_same, by rw [setR_oth (by decide), ← hH]; exact up2_hit rfl rfl, fun k _ _ k2 => by rw [setR_oth (by decide), hok k k2]; exact gk k k2, fun y y0 y1 _ _ => by rw [setR_oth y0, ho y y1]; exact go y y1⟩
  rw [if_neg g5] at e
  rw [if_neg g5]
  have d5 := drw_b (s := nxd (nxd s)) (m := 5) (by decide) (by decide)
  have d10 := drw_b (s := nxd (nxd (nxd s))) (m := 10) (by decide) (by decide)
  have d100 := drw_b (s := nxd (nxd (nxd (nxd s)))) (m := 100) (by decide) (by decide)
  rw [m_13 hM gx (by decide) (by decide)] at e
  simp only [Option.bind_some, psh_i] at e
  rw [E306_95 hM, m_13 (s := nxd (nxd (nxd s))) hM (up2_hit rfl rfl) (by decide) (by decide)] at e
  simp only [Option.bind_some, psh_i] at e
  rw [E306_102 hM, m_13 (s := nxd (nxd (nxd (nxd s)))) hM (up2_hit rfl rfl) (by decide) (by decide)] at e
  simp only [Option.bind_some, psh_i] at e
  generalize hH : up2 (up2 (up2 G 427 41 (nxd (nxd (nxd s)))) 427 41 (nxd (nxd (nxd (nxd s))))) 427 41 (nxd (nxd (nxd (nxd (nxd s))))) = H at e
  have ho : ∀ y, y ≠ 427 → H y = G y := fun y hy => by rw [← hH, up2_oth hy, up2_oth hy, up2_oth hy]
  have hok : ∀ k, k ≠ 41 → H 427 k = G 427 k := fun k hk => by rw [← hH, up2_miss (by omega), up2_miss (by omega), up2_miss (by omega)]
  have hCH : cfM H = C := (cfM_mem (hok 14 (by decide)) (ho 434 (by decide)) (ho 435 (by decide)) (ho 436 (by decide)) (ho 437 (by decide))).trans gC
  have hIH : H 439 = ρ := by rw [ho 439 (by decide)]; exact gI
  have mp := m_puts (d := d + 2) (S := S) (I := H) (r := 439) (q := q) (op := drw (nxd (nxd s)) 5) (b := drw (nxd (nxd (nxd s))) 10) (v := drw (nxd (nxd (nxd (nxd s)))) 100) hM (Or.inr rfl) (by rw [hCH]; exact hk) (by rw [hIH]; exact hCn) ⟨by omega, by omega⟩ ⟨by omega, by omega⟩ ⟨by omega, by omega⟩ ⟨by omega, by omega⟩
  rw [hCH, hIH] at mp
  rw [E306_119 hM, mp] at e
  simp only [Option.bind_some, psh_i] at e
  rw [E306_122] at e
  simp only [Option.bind_some, psh_i] at e
  rw [tail _ 0 (Or.inl rfl)] at e
  exact ⟨_, _, e, setR_same, by rw [setR_oth (by decide), ← hH]; exact up2_hit rfl rfl, fun k _ _ k2 => by rw [setR_oth (by decide), hok k k2]; exact gk k k2, fun y y0 y1 _ _ => by rw [setR_oth y0, ho y y1]; exact go y y1⟩
theorem m_yrs (hM : MA S 427) (hK : okK K) (hk : okC C) (hv : v ≤ 1000) : ∀ (n : Nat) (a3 a4 s N : Int) (ρ : RW) (I : II) (a5 : AV), cfM I = C → kfM I = K → I 439 = ρ → WF C ρ → lftOK 1 ρ → 100 ≤ N → BdN N ρ → N + 400 * n < 79000000 → I 427 41 = s → 0 ≤ a4 → a4 ≤ v → n = (v - a4).toNat →
    ∃ J z, ev (d + 9) 304 33 [(2, 427), (0, a), (0, v), (0, a3), (0, a4), a5] [] S I = ev (d + 9) 304 33 [(2, 427), (0, a), (0, v), (0, a3 + (yrs K C n s ρ).2), (0, v), z] [] S J ∧ J 439 = (yrs K C n s ρ).1 ∧ (∀ k, k ≠ 24 → k ≠ 25 → k ≠ 41 → J 427 k = I 427 k) ∧ ∀ x, x ≠ 439 → x ≠ 427 → x ≠ 432 → x ≠ 433 → J x = I x := by
  intro n
  induction n with
  | zero =>
    intro a3 a4 s N ρ I a5 hC hKF hI hw hl hN hB hb hs h0 h1 hn
    have : a4 = v := by omega
    subst this
    exact ⟨I, a5, by show _ = ev (d + 9) 304 33 [(2, 427), (0, a), (0, a4), (0, a3 + 0), (0, a4), a5] [] S I; rw [Int.add_zero], hI, fun _ _ _ _ => rfl, fun _ _ _ _ _ => rfl⟩
  | succ n ih =>
    intro a3 a4 s N ρ I a5 hC hKF hI hw hl hN hB hb hs h0 h1 hn
    obtain ⟨J, z, j1, j2, j3, j4, j5⟩ := m_yst (d := d) (S := S) (a := a) (a3 := a3) (a4 := a4) (a5 := a5) (v := v) hM hK hk hC hKF hI hw hl hN hB (by omega) hs h0 (by omega) hv
    obtain ⟨w1, w2, w3⟩ := yst_WF (K := K) (s := s) hk hw hl hN hB (by omega)
    obtain ⟨Z, z', z1, z2, z3, z4⟩ := ih (a3 + (yst K C s ρ).2.2) (a4 + 1) (yst K C s ρ).1 (N + 400) _ J z ((cfM_mem (j4 14 (by decide) (by decide) (by decide)) (j5 434 (by decide) (by decide) (by decide) (by decide)) (j5 435 (by decide) (by decide) (by decide) (by decide)) (j5 436 (by decide) (by decide) (by decide) (by decide)) (j5 437 (by decide) (by decide) (by decide) (by decide))).trans hC) (by rw [← hKF]; unfold kfM; rw [j5 430 (by decide) (by decide) (by decide) (by decide), j4 10 (by decide) (by decide) (by decide)]) j2 w1 w2 (by omega) w3 (by omega) j3 (by omega) (by omega) (by omega)
    refine ⟨Z, z', ?_, z2, fun k k0 k1 k2 => (z3 k k0 k1 k2).trans (j4 k k0 k1 k2), fun x x0 x1 x2 x3 => (z4 x x0 x1 x2 x3).trans (j5 x x0 x1 x2 x3)⟩
    rw [j1, z1, Int.add_assoc]
    rfl
theorem c_yrs (hQ : QA S 0) (hW : WA S x) (hx : 455 ≤ x) (hK : okK K) (hk : okC C) (hv : v ≤ 1000) : ∀ (n : Nat) (a4 s N : Int) (ρ : RW) (I : II), RelD C I 36 ρ → RuleR I 412 K → WF C ρ → lftOK 1 ρ → 100 ≤ N → BdN N ρ → N + 400 * n < 79000000 → I x 0 = s → 0 ≤ a4 → a4 ≤ v → n = (v - a4).toNat →
    ∃ J, ev (d + 8) 183 36 [(2, 0), (0, a), (0, v), (2, x), (0, a4)] [] S I = ev (d + 8) 183 36 [(2, 0), (0, a), (0, v), (2, x), (0, v)] [] S J ∧ RelD C J 36 (yrs K C n s ρ).1 ∧ ∀ y, ¬ (36 ≤ y ∧ y < 67) → y ≠ x → y ≠ 3 → y ≠ 4 → y ≠ 416 → y ≠ 417 → J y = I y := by
  intro n
  induction n with
  | zero =>
    intro a4 s N ρ I hR hu hw hl hN hB hb hs h0 h1 hn
    have : a4 = v := by omega
    subst this
    exact ⟨I, rfl, hR, fun _ _ _ _ _ _ _ => rfl⟩
  | succ n ih =>
    intro a4 s N ρ I hR hu hw hl hN hB hb hs h0 h1 hn
    obtain ⟨J, j1, j2, j3, j4⟩ := c_yst (d := d) (S := S) (x := x) hQ hW hx hK hk hR hu hw hl hN hB (by omega) hs
    obtain ⟨w1, w2, w3⟩ := yst_WF (K := K) (s := s) hk hw hl hN hB (by omega)
    have rJ : RuleR J 412 K := by unfold RuleR at *; rw [j4 412 (by omega) (by omega) (by omega) (by omega) (by omega) (by omega), show (412 : Int) + 1 = 413 from rfl, j4 413 (by omega) (by omega) (by omega) (by omega) (by omega) (by omega)]; exact hu
    obtain ⟨Z, z1, z2, z3⟩ := ih (a4 + 1) (yst K C s ρ).1 (N + 400) _ J j2 rJ w1 w2 (by omega) w3 (by omega) j3 (by omega) (by omega) (by omega)
    refine ⟨Z, ?_, z2, fun y y0 y1 y2 y3 y4 y5 => (z3 y y0 y1 y2 y3 y4 y5).trans (j4 y y0 y1 y2 y3 y4 y5)⟩
    rw [E183_36 hQ, w_small (z := a4) (by omega) (by omega), w_small (z := v) (by omega) (by omega), if_pos (by omega), j1]
    simp only [Option.bind_some, psh_u]
    rw [E183_58, z1]
theorem call_years (hS : SH S) (h : ST N I) (hN0 : 100 ≤ N) (hN : N < 70000000) (hv : isI v) : ∃ r T I1 I2, ev (d + 100) 183 0 [(2, 0), (0, a), (0, v), uU, uU] [] S I = some ((0, r), T, I1) ∧ ev (d + 100) 304 0 [(2, 427), (0, a), (0, v), uU, uU, uU] [] T I1 = some ((0, r), T, I2) ∧ ST (N + 100000) I2 ∧ SE S T ∧ T.1 ≤ S.1 + 2 ∧ T.2.1 ≤ S.2.1 + 9 := by
  have hS0 := hS
  have s455 := SH_454 hS
  obtain ⟨hQ, hM⟩ := hS
  have hk := h.2.2.2.1.1
  have hn0 := hk.1
  have hn5 := hk.2.1
  have hD := h.2.2.2.1.2
  obtain ⟨hKF, hRu⟩ := h.2.2.2.2.1
  have hB := h.2.2.2.2.2.2.2.1
  have tB := tau_B h
  obtain ⟨tW, tL⟩ := tau_GD h
  have e2 : ∀ (T : SS) (J : II), SH T → ev (d + 100) 304 0 [(2, 427), (0, a), (0, v), uU, uU, uU] [] T J = ev (d + 100) 304 14 [(2, 427), (0, a), (0, v), uU, uU, uU] [(0, if 1 ≤ v ∧ v ≤ 40 then 1 else 0)] T (up2 J 427 0 0) := by
    intro T J hT
    rw [E304_0 hT.2, w_small hv.1 hv.2, m_in (by have := hv.1; omega) (by have := hv.2; omega) (by decide) (by decide) (by decide) (by decide)]
    simp only [Option.bind_some, psh_i]
  by_cases gv : 1 ≤ v ∧ v ≤ 40
  · obtain ⟨J, j1, j2, j3⟩ := tri_beg (d := d + 98) (S := S) hQ h
    have e1 := E183_0 (d := d + 99) (I := I) (a1 := a) (a2 := v) hQ
    rw [w_small hv.1 hv.2, if_neg (by omega), if_neg (by omega), j1] at e1
    simp only [Option.bind_some, psh_u] at e1
    rw [E183_24] at e1
    generalize hT : newS S 0 1 = T at e1
    have se : SE S T := by rw [← hT]; exact SE_new
    have hT' : SH T := SH_ext se hS0
    have kW : WA T (S.1 : Int) := by
      rw [← hT]
      refine ⟨by omega, ?_, ?_⟩
      · show (S.1 : Int) < ((S.1 + 1 : Nat) : Int); omega
      · show (if (S.1 : Int) = (S.1 : Int) then ((0 : Int), ((1 : Nat) : Int)) else sH S (S.1 : Int)).1 = 0; rw [if_pos rfl]
    generalize hJ2 : newI S J = J2 at e1
    have jo : ∀ y, y < 455 → J2 y = J y := fun y hy => by rw [← hJ2, newI_oth (by omega)]
    rw [E183_27 (by omega), E12_0 (by omega) kW] at e1
    simp only [Option.bind_some, psh_u] at e1
    generalize hJ3 : up2 J2 (S.1 : Int) 0 a = J3 at e1
    have jo3 : ∀ y, y < 455 → J3 y = J y := fun y hy => by rw [← hJ3, up2_oth (by omega), jo y hy]
    have js : J3 (S.1 : Int) 0 = a := by rw [← hJ3, up2_hit rfl rfl]
    have rJ : RuleR J3 412 (kfM I) := by unfold RuleR at *; rw [jo3 412 (by omega), j3 412 (by omega), show (412 : Int) + 1 = 413 from rfl, jo3 413 (by omega), j3 413 (by omega)]; exact hRu
    obtain ⟨H, k1, k2, k3⟩ := c_yrs (d := d + 92) (S := T) (x := (S.1 : Int)) (K := kfM I) (C := cfM I) (a := a) (v := v) hT'.1 kW (by omega) hKF hk (by omega) (v - 0).toNat 0 a N (tau I) J3 (RelD_mem j2 tW.1 (fun y y0 y1 => jo3 y (by omega))) rJ tW tL hN0 tB (by omega) js (by decide) (by omega) rfl
    obtain ⟨w1, w2, w3, w4⟩ := yrs_WF (K := kfM I) hk (v - 0).toNat a N (tau I) tW tL hN0 tB (by omega)
    have my := fun (Z : II) (z1 : cfM Z = cfM I) (z2 : kfM Z = kfM I) (z3 : Z 439 = tau I) (z4 : Z 427 41 = a) => m_yrs (d := d + 91) (S := T) (K := kfM I) (C := cfM I) (a := a) (v := v) hT'.2 hKF hk (by omega) (v - 0).toNat 0 0 a N (tau I) Z uU z1 z2 z3 tW tL hN0 tB (by omega) z4 (by decide) (by omega) rfl
    generalize hσ : (yrs (kfM I) (cfM I) (v - 0).toNat a (tau I)).1 = σ at *
    generalize ht : (yrs (kfM I) (cfM I) (v - 0).toNat a (tau I)).2 = t at *
    have ub : usum (cfM I) (tau I) = usum (cfM I) (I 438) := usum_tau hk (fun j j0 j1 => tau_eq j0 j1)
    have otH : OT I H := fun y yl y3 y4 y2 y5 y6 _ => by rw [k3 y y2 (by omega) y3 y4 y5 y6, jo3 y yl, j3 y (by omega)]
    have k5 : RelD (cfM I) H 5 (I 438) := RelD_mem hD.1 hD.2.1.1 (fun x x0 x1 => OT_lo otH x0 (by omega))
    rw [E183_32, k1, E183_36 hT'.1, if_neg (by omega), c_fn (DA36 hT'.1) k2 w1.1 hk] at e1
    simp only [Option.bind_some, psh_i] at e1
    rw [E183_77 hT'.1, c_fn (DA5 hT'.1) k5 hD.2.1.1 hk] at e1
    simp only [Option.bind_some, psh_i] at e1
    rw [E183_86 hT'.1, E18_0, c_blk (DA36 hT'.1) k2 10 0 0 (by decide) (by decide) (by decide)] at e1
    simp only [Option.bind_some, psh_i] at e1
    have h7 : H 36 7 = σ 827 := k2.1.2.2.1
    generalize hX : w (fnum (cfM I) σ - fnum (cfM I) (I 438)) = X at *
    generalize hY : w (0 + sm (fun j => σ (828 + j)) 10 0) = Y at *
    obtain ⟨A, a1, a2, a3⟩ := c_tell3 (d := d + 96) (S := T) (I := H) (x := X) (y := Y) (z := w (σ 827)) (RA3 hT'.1)
    have tfx := a3
    rw [E183_95 hT'.1 (RA3 hT'.1), h7, hY, a1] at e1
    simp only [Option.bind_some, psh_u] at e1
    have kA36 : RelD (cfM I) A 36 σ := RelD_mem k2 w1.1 (fun x x0 x1 => TF_hi a3 (by omega))
    have kA5 : RelD (cfM I) A 5 (I 438) := RelD_mem k5 hD.2.1.1 (fun x x0 x1 => TF_hi a3 (by omega))
    rw [E183_107 hT'.1, c_us (DA36 hT'.1) kA36 w1.1 hk] at e1
    simp only [Option.bind_some, psh_i] at e1
    rw [E183_116 hT'.1, c_us (DA5 hT'.1) kA5 hD.2.1.1 hk] at e1
    simp only [Option.bind_some, psh_i] at e1
    rw [E183_125, w4, ub, show usum (cfM I) (I 438) + t - usum (cfM I) (I 438) = t by omega] at e1
    have ot : OT I A := OT_trans otH (OT_TF a3)
    generalize hZ : setR (up2 (up2 A 427 0 0) 427 41 a) 439 (tau I) = Z
    have z9 : Z 439 = tau I := by rw [← hZ]; exact setR_same
    have zo : ∀ y, y ≠ 439 → y ≠ 427 → Z y = A y := fun y hy h1 => by rw [← hZ, setR_oth hy, up2_oth h1, up2_oth h1]
    have zk : ∀ k, k ≠ 0 → k ≠ 41 → Z 427 k = A 427 k := fun k k0 k1 => by rw [← hZ, setR_oth (by decide), up2_miss (by omega), up2_miss (by omega)]
    have z41 : Z 427 41 = a := by rw [← hZ, setR_oth (by decide), up2_hit rfl rfl]
    have zC : cfM Z = cfM I := (cfM_mem (zk 14 (by decide) (by decide)) (zo 434 (by decide) (by decide)) (zo 435 (by decide) (by decide)) (zo 436 (by decide) (by decide)) (zo 437 (by decide) (by decide))).trans (OT_cfM ot)
    have zK : kfM Z = kfM I := by unfold kfM; rw [zo 430 (by decide) (by decide), zk 10 (by decide) (by decide), OT_up ot (by decide) (by decide), OT_up ot (by decide) (by decide)]
    obtain ⟨V, zz', v1, v2, v3, v4⟩ := my Z zC zK z9 z41
    have s2 := e2 T A hT'
    rw [if_pos gv, E304_14 hT'.2, if_neg (by decide), m_cop hT'.2 ot (fun y hy => by rw [up2_oth hy, up2_oth hy]), hZ] at s2
    simp only [Option.bind_some, psh_u] at s2
    have hK9 := isRw_K hT'.2 (Or.inr rfl : isRw 439)
    have hK8 := isRw_K hT'.2 (Or.inl rfl : isRw 438)
    have v38 : V 438 = I 438 := by rw [v4 438 (by decide) (by decide) (by decide) (by decide), zo 438 (by decide) (by decide), OT_up ot (by decide) (by decide)]
    rw [E304_28, v1, E304_33 hT'.2, if_neg (by omega), m_psum hK9, up2_oth (by decide), v2] at s2
    simp only [Option.bind_some, psh_i] at s2
    rw [E304_93 hT'.2, m_psum hK8, up2_oth (by decide), v38] at s2
    simp only [Option.bind_some, psh_i] at s2
    have es : σ 840 + σ 841 + σ 842 + σ 843 = fnum (cfM I) σ := served_fn w1.1 hk
    have es8 : I 438 840 + I 438 841 + I 438 842 + I 438 843 = fnum (cfM I) (I 438) := served_fn hD.2.1.1 hk
    generalize hg : updR (updR (updR (fun _ => 0) 0 X) 1 Y) 2 (w (σ 827)) = gg at a2
    have gg0 : gg 0 = X := by rw [← hg]; rfl
    have gg1 : gg 1 = Y := by rw [← hg]; rfl
    have gg2 : gg 2 = w (σ 827) := by rw [← hg]; rfl
    obtain ⟨B, p1, p2, p3⟩ := m_next (d := d + 99) (S := T) (g := gg) (n := 0) (x := X) (I := up2 V 427 1 0) hT'.2 MD_0 (by decide) (by decide) (by rw [gg0])
    obtain ⟨B2, q1, q2, q3⟩ := m_next (d := d + 99) (S := T) (g := gg) (n := 0 + 1) (x := Y) (I := B) hT'.2 p2 (by decide) (by decide) gg1.symm
    obtain ⟨B3, r1, r2, r3⟩ := m_next (d := d + 99) (S := T) (g := gg) (n := 0 + 1 + 1) (x := w (σ 827)) (I := B2) hT'.2 q2 (by decide) (by decide) gg2.symm
    have b39 : B 439 = σ := by rw [p3.2 439 (by decide) (by decide), up2_oth (by decide), v2]
    have b239 : B2 439 = σ := by rw [q3.2 439 (by decide) (by decide), b39]
    have b339 : B3 439 = σ := by rw [r3.2 439 (by decide) (by decide), b239]
    rw [es, es8, E304_100 hT'.2, hX, p1] at s2
    simp only [Option.bind_some, psh_u] at s2
    rw [E304_105 hT'.2, E214_0, m_blk hK9 10 0 0 (by decide) (by decide) (by decide), b39] at s2
    simp only [Option.bind_some, psh_i] at s2
    rw [E304_113 hT'.2, hY, q1] at s2
    simp only [Option.bind_some, psh_u] at s2
    rw [E304_117 hT'.2, b239, r1] at s2
    simp only [Option.bind_some, psh_u] at s2
    rw [E304_130, Int.zero_add] at s2
    have hxx : ∀ y, y ≠ 439 → y ≠ 427 → y ≠ 428 → y ≠ 432 → y ≠ 433 → B3 y = A y := fun y x0 x1 x2 x3 x4 => by rw [r3.2 y x1 x2, q3.2 y x1 x2, p3.2 y x1 x2, up2_oth x1, v4 y x0 x1 x3 x4, zo y x0 x1]
    refine ⟨t, T, A, B3, e1, s2, tri_ST h ot (fun y a0 a1 a2 a3 _ _ _ _ => hxx y a2 a0 a1 (by omega) (by omega)) (fun k hk => by rw [r3.1 k (by omega), q3.1 k (by omega), p3.1 k (by omega), up2_miss (by omega), v3 k (by omega) (by omega) (by omega), zk k (by omega) (by omega)]) (cR_of (TD_congr a2 (hxx 3 (by decide) (by decide) (by decide) (by decide) (by decide)) (hxx 4 (by decide) (by decide) (by decide) (by decide) (by decide))) r2 (by decide) (by decide)) (by rw [b339]; exact BdN_le w3 (by omega)), se, ?_, ?_⟩
    · rw [← hT]; show S.1 + 1 ≤ _; omega
    · rw [← hT]; show S.2.1 + 1 ≤ _; omega
  · refine ⟨-1, S, I, _, ?_, by rw [e2 S I hS0, if_neg gv, E304_14 hM, if_pos (by decide)], ST_le (ST_0 (v := 0) h) (by omega), SE_refl, by omega, by omega⟩
    rw [E183_0 hQ, w_small hv.1 hv.2, E183_11]
    by_cases g : v < 1
    · rw [if_pos g]
    · rw [if_neg g, if_pos (by omega)]
end r97
