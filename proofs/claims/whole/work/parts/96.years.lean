/-! years: drawn by a seed -/
def nxd (s : Int) : Int := s * 1103515245 + 12345
def drw (s m : Int) : Int := iRem (iUshr (nxd s) 16) m
def yst (K : KF) (C : CF) (s : Int) (ρ : RW) : Int × RW × Int :=
  if C.1 = 0 then (nxd s, ρ, 0)
  else if drw s 6 = 2 then (nxd (nxd s), (ringsS C ρ (drw (nxd s) C.1)).2, 0)
  else if drw s 6 = 3 then (nxd (nxd s), tickS K C ρ, 0)
  else if drw s 6 = 4 then (nxd (nxd s), (takesS C ρ (drw (nxd s) C.1)).2, if (takesS C ρ (drw (nxd s) C.1)).1 < 0 then 0 else 1)
  else if drw s 6 = 5 then (nxd (nxd (nxd s)), (callsS C ρ (drw (nxd s) C.1) (drw (nxd (nxd s)) 16)).2, 0)
  else (nxd (nxd (nxd (nxd (nxd s)))), (putsS C ρ (drw (nxd s) C.1) (drw (nxd (nxd s)) 5) (drw (nxd (nxd (nxd s))) 10) (drw (nxd (nxd (nxd (nxd s)))) 100)).2, 0)
section r96
variable {d : Nat} {S : SS} {I J G I2 : II} {C : CF} {K : KF} {ρ σ : RW} {a b u q k v j N r id s m x : Int}
theorem ushr16_b (z : Int) : 0 ≤ iUshr z 16 ∧ iUshr z 16 < 65536 := by
  have e : iUshr z 16 = ((BitVec.ofInt 32 z) >>> 16).toInt := rfl
  have n : ((BitVec.ofInt 32 z) >>> 16).toNat = (BitVec.ofInt 32 z).toNat / 65536 := by rw [BitVec.toNat_ushiftRight, Nat.shiftRight_eq_div_pow]
  have l := (BitVec.ofInt 32 z).isLt
  have l2 : ((BitVec.ofInt 32 z) >>> 16).toNat < 65536 := by rw [n]; omega
  rw [e, bv_int (by omega)]
  omega
theorem drw_b (h0 : 0 < m) (h1 : m ≤ 1000) : 0 ≤ drw s m ∧ drw s m < m := by
  have b := ushr16_b (nxd s)
  unfold drw
  rw [iRem_pos b.1 (by omega) h0 (by omega)]
  exact ⟨Int.emod_nonneg _ (by omega), Int.emod_lt_of_pos _ h0⟩
theorem c_13 (hW : WA S x) (h : I x 0 = s) (h0 : 0 < m) (h1 : m ≤ 1000) : ev d 13 0 [(2, x), (0, m)] [] S I = some ((0, drw s m), S, up2 I x 0 (nxd s)) := by
  rw [E13_0 hW, w_small (z := m) (by omega) (by omega), if_pos h0, gdR_pos (by omega), h, E13_32]
  rfl
theorem m_13 (hM : MA S 427) (h : I 427 41 = s) (h0 : 0 < m) (h1 : m ≤ 1000) : ev d 305 0 [(2, 427), (0, m)] [] S I = some ((0, drw s m), S, up2 I 427 41 (nxd s)) := by
  rw [E305_0 hM, w_small (z := m) (by omega) (by omega), gdR_pos (by omega), h]
  rfl
theorem yst_WF (hk : okC C) (h : WF C ρ) (hl : lftOK 1 ρ) (hN : 100 ≤ N) (hB : BdN N ρ) (hb : N < 79000000) : WF C (yst K C s ρ).2.1 ∧ lftOK 1 (yst K C s ρ).2.1 ∧ BdN (N + 400) (yst K C s ρ).2.1 := by
  have hN1 : N + 1 ≤ N + 400 := by omega
  unfold yst
  split
  · exact ⟨h, hl, BdN_le hB (by omega)⟩
  · split
    · obtain ⟨w1, w2, w3⟩ := ringsS_WF (q := drw (nxd s) C.1) h hk hB hN
      exact ⟨w1, w3 1 hl, BdN_le w2 hN1⟩
    · split
      · obtain ⟨_, w1, w2, w3, _⟩ := tick_WF K hk h hl hN hB (by omega)
        exact ⟨w1, w2, w3⟩
      · split
        · obtain ⟨w1, w2, w3⟩ := takesS_WF (q := drw (nxd s) C.1) h hk hB
          exact ⟨w1, w3 1 hl, BdN_le w2 hN1⟩
        · split
          · obtain ⟨w1, w2, w3, _⟩ := callsS_WF (q := drw (nxd s) C.1) (id := drw (nxd (nxd s)) 16) h hk hB hN
            exact ⟨w1, w3 1 hl, BdN_le w2 hN1⟩
          · obtain ⟨w1, w2, w3⟩ := putsS_WF (q := drw (nxd s) C.1) (op := drw (nxd (nxd s)) 5) (bl := drw (nxd (nxd (nxd s))) 10) (v := drw (nxd (nxd (nxd (nxd s)))) 100) h hk hB hN
            exact ⟨w1, w3 1 hl, BdN_le w2 hN1⟩
theorem rings_6 {q' : Int} (q0 : 0 ≤ q') (q1 : q' < 5) (hn : C.1 ≤ 5) : (ringsS C ρ q).2 (89 * q' + 6) = ρ (89 * q' + 6) := by
  rw [ringsS_eq]
  split
  · rename_i g
    split
    · rfl
    · split
      · show updR (seeR ρ q (C.2.2.2.2 q)) 838 _ _ = _
        unfold seeR rngR; simp (disch := omega) only [updR_miss]
      · show updR (rngR ρ q) 839 _ _ = _
        unfold rngR; simp (disch := omega) only [updR_miss]
  · rfl
theorem puts_6 {q' op bl : Int} (q0 : 0 ≤ q') (q1 : q' < 5) (hn : C.1 ≤ 5) : (putsS C ρ q op bl v).2 (89 * q' + 6) = ρ (89 * q' + 6) := by
  unfold putsS
  split
  · rename_i g
    have rb := rAt_b (q := q) (k := ρ (89 * q)) g.1 (by omega)
    split
    · split
      · rfl
      · simp (disch := omega) only [updR_miss]
    · rfl
  · rfl
theorem calls_6 {q' : Int} (h : WF C ρ) (hk : okC C) (hB : BdN N ρ) (hN : 100 ≤ N) (q0 : 0 ≤ q') (q1 : q' < 5) : (callsS C ρ q id).2 (89 * q' + 6) = ρ (89 * q' + 6) := by
  have hn := hk.2.1
  obtain ⟨s0, s1, _, _⟩ := callsAns_spec (ρ := ρ) (q := q) (id := id) hk
  unfold callsS
  split
  · rename_i g
    obtain ⟨⟨g0, g1, _⟩, _⟩ := s0 g
    have rb := rAt_b (q := q) (k := ρ (89 * q + 3) + ringOfS ρ q id) g0 (by omega)
    show updR ρ _ 1 _ = _
    rw [updR_miss (by omega)]
  · split
    · rename_i g
      obtain ⟨_, _, g2⟩ := s1 g
      have b8 := hB 814
      have r4 := h.1.2.1.2.1
      have o0 := h.1.2.2.1.1
      have o8 := (callsS_WF (q := q) (id := id) h hk hB hN).2.2.2 g
      have e1 : outS ρ q (ρ (446 + 12 * runOfS ρ q id)) 1 0 493 = ρ 493 := outS_oth o0 o8.1 (by decide)
      have l1 : outS ρ q (ρ (446 + 12 * runOfS ρ q id)) 1 0 (89 * q' + 6) = ρ (89 * q' + 6) := outS_l9 b8.1 (by omega)
      have hb2 : -1 ≤ outS ρ q (ρ (446 + 12 * runOfS ρ q id)) 1 0 814 := by rw [outS_814]; omega
      show breakS ρ q (runOfS ρ q id) (89 * q' + 6) = _
      unfold breakS
      split
      · rename_i gs
        rw [runGo_l9 g2 ?_ (Or.inl (by omega)), outS_l9 hb2 (by omega), l1]
        rw [outS_oth (by rw [outS_814]; omega) ?_ (by decide), e1]
        · exact r4
        · rw [outS_814]
          have hs : hasSecS ρ (runOfS ρ q id) = true := by
            unfold hasSecS at *
            rw [outS_oth o0 o8.1 (by have := runOfS_b (ρ := ρ) (q := q) (id := id) h.1.2.1.1; omega)] at gs
            exact gs
          have := o8.2 hs
          omega
      · rw [runGo_l9 g2 (by rw [e1]; exact r4) (Or.inl (by omega)), l1]
    · rfl
theorem yst_us (hk : okC C) (h : WF C ρ) (hl : lftOK 1 ρ) (hN : 100 ≤ N) (hB : BdN N ρ) (hb : N < 79000000) : usum C (yst K C s ρ).2.1 = usum C ρ + (yst K C s ρ).2.2 := by
  have hn0 := hk.1
  have hn5 := hk.2.1
  have same : ∀ σ : RW, (∀ q', 0 ≤ q' → q' < 5 → σ (89 * q' + 6) = ρ (89 * q' + 6)) → usum C σ = usum C ρ + 0 := fun σ hσ => by
    rw [Int.add_zero]; exact sm_congr _ _ (fun q' g0 g1 => hσ q' g0 (by omega))
  unfold yst
  split
  · show usum C ρ = usum C ρ + 0; omega
  · rename_i n0
    have db := drw_b (s := nxd s) (m := C.1) (by omega) (by omega)
    split
    · exact same _ (fun q' g0 g1 => rings_6 g0 g1 hn5)
    · split
      · exact same _ (fun q' g0 g1 => tick_6 hk h hl hN hB (by omega) g0 g1)
      · split
        · show usum C (takesS C ρ (drw (nxd s) C.1)).2 = usum C ρ + (if (takesS C ρ (drw (nxd s) C.1)).1 < 0 then 0 else 1)
          rw [takesS_eq, if_pos db]
          split
          · rw [if_pos (by show (-2 : Int) < 0; decide)]
            show usum C ρ = usum C ρ + 0
            omega
          · have pb := pAt_b (q := drw (nxd s) C.1) (k := ρ (89 * drw (nxd s) C.1 + 6)) db.1 (by omega)
            rw [if_neg (by show ¬ pAt _ _ < 0; omega)]
            show usum C (takR ρ (drw (nxd s) C.1)) = usum C ρ + 1
            unfold usum
            rw [sm_one (f := fun q => ρ (89 * q + 6)) (g := fun q' => takR ρ (drw (nxd s) C.1) (89 * q' + 6)) (q := drw (nxd s) C.1) C.1.toNat 0 db.1 (by omega) (fun i i0 i1 i2 => by
              show takR ρ _ (89 * i + 6) = ρ (89 * i + 6)
              rw [tak_lo (by omega)])]
            rw [tak_6]; omega
        · split
          · exact same _ (fun q' g0 g1 => calls_6 h hk hB hN g0 g1)
          · exact same _ (fun q' g0 g1 => puts_6 g0 g1 hn5)
theorem c_yst (hQ : QA S 0) (hW : WA S x) (hx : 455 ≤ x) (hK : okK K) (hk : okC C) (h : RelD C I 36 ρ) (hu : RuleR I 412 K) (hw : WF C ρ) (hl : lftOK 1 ρ) (hN : 100 ≤ N) (hB : BdN N ρ) (hb : N < 79000000) (hs : I x 0 = s) :
    ∃ J, ev (d + 7) 64 0 [(2, 36), (2, x), (2, 412), (2, 3), uU, uU, uU, uU] [] S I = some (uU, S, J) ∧ RelD C J 36 (yst K C s ρ).2.1 ∧ J x 0 = (yst K C s ρ).1 ∧ ∀ y, ¬ (36 ≤ y ∧ y < 67) → y ≠ x → y ≠ 3 → y ≠ 4 → y ≠ 416 → y ≠ 417 → J y = I y := by
  have hD := DA36 hQ
  have hn0 := hk.1
  have hn5 := hk.2.1
  have e0 : I 36 0 = C.1 := h.1.1
  have b6 := drw_b (s := s) (m := 6) (by decide) (by decide)
  have e := E64_0 (d := d + 6) (a0 := 36) (a1 := x) (a2 := 412) (I := I) hW
  rw [c_13 hW hs (by decide) (by decide)] at e
  simp only [Option.bind_some, psh_i] at e
  rw [E64_6 hD hW, up2_oth (by omega), e0, w_small (z := C.1) (by omega) (by omega)] at e
  unfold yst
  by_cases gn : C.1 = 0
  · rw [if_pos gn] at e
    rw [if_pos gn]
    refine ⟨_, e, RelD_mem h hw.1 (fun y y0 y1 => up2_oth (by omega)), up2_hit rfl rfl, fun y _ y1 _ _ _ _ => up2_oth y1⟩
  rw [if_neg gn, c_13 (s := nxd s) hW (up2_hit rfl rfl) (by omega) (by omega)] at e
  rw [if_neg gn]
  simp only [Option.bind_some, psh_i] at e
  rw [up2_set (r := x) (k := 0), up2_set (r := x) (k := 0), setR_set] at e
  have db := drw_b (s := nxd s) (m := C.1) (by omega) (by omega)
  generalize hq : drw (nxd s) C.1 = q at *
  generalize hG : setR I x (updR (setR I x (updR (I x) 0 (nxd s)) x) 0 (nxd (nxd s))) = G at e
  have gx : G x 0 = nxd (nxd s) := by rw [← hG, setR_same, updR_hit rfl]
  have go : ∀ y, y ≠ x → G y = I y := fun y hy => by rw [← hG, setR_oth hy]
  have gR : RelD C G 36 ρ := RelD_mem h hw.1 (fun y y0 y1 => go y (by omega))
  rw [E64_24 hD hW, w_small (z := drw s 6) (by omega) (by omega)] at e
  have fr : ∀ (J : II) (ρ' : RW), WF C ρ' → RelD C J 36 ρ' → J x 0 = nxd (nxd s) → (∀ y, ¬ (36 ≤ y ∧ y < 67) → y ≠ x → y ≠ 3 → y ≠ 4 → y ≠ 416 → y ≠ 417 → J y = G y) → ∀ y, ¬ (36 ≤ y ∧ y < 67) → y ≠ x → y ≠ 3 → y ≠ 4 → y ≠ 416 → y ≠ 417 → J y = I y := fun J ρ' _ _ _ hh y y0 y1 y2 y3 y4 y5 => by rw [hh y y0 y1 y2 y3 y4 y5, go y y1]
  by_cases g2 : drw s 6 = 2
  · rw [if_pos g2] at e
    rw [if_pos g2]
    obtain ⟨J, j1, j2, j3⟩ := c_bell (d := d + 4) (S := S) (b := 36) (by decide) hD gR hw hk hB (by omega) (q := q) ⟨by omega, by omega⟩
    rw [j1] at e
    simp only [Option.bind_some, psh_i] at e
    rw [E64_66, E64_137] at e
    exact ⟨J, e, j2, by rw [j3 x (by omega)]; exact gx, fun y y0 y1 _ _ _ _ => by rw [j3 y (by omega), go y y1]⟩
  rw [if_neg g2] at e
  rw [if_neg g2]
  by_cases g3 : drw s 6 = 3
  · rw [if_pos g3] at e
    rw [if_pos g3]
    have rG : RuleR G 412 K := by unfold RuleR at *; rw [go 412 (by omega), show (412 : Int) + 1 = 413 from rfl, go 413 (by omega)]; exact hu
    obtain ⟨J, j1, j2, j3⟩ := c_goOn (d := d) (S := S) (b := 36) (u := 412) (by decide) (by decide) hD (UA412 hQ) hK hk gR rG hw hl hN hB (by omega)
    rw [j1] at e
    simp only [Option.bind_some, psh_u] at e
    rw [E64_75, E64_137] at e
    exact ⟨J, e, j2, by rw [j3 x (by omega) (by omega) (by omega)]; exact gx, fun y y0 y1 _ _ y4 y5 => by rw [j3 y (by omega) y4 y5, go y y1]⟩
  rw [if_neg g3] at e
  rw [if_neg g3]
  by_cases g4 : drw s 6 = 4
  · rw [if_pos g4] at e
    rw [if_pos g4]
    obtain ⟨J, j1, j2, _, _, j3⟩ := c_take (d := d + 1) (S := S) (b := 36) (by decide) hD (RA3 hQ) gR hw hk hB (by omega) (q := q) ⟨by omega, by omega⟩
    rw [j1] at e
    simp only [Option.bind_some, psh_i] at e
    rw [E64_85, E64_137] at e
    exact ⟨J, e, j2, by rw [j3 x (by omega) (by omega) (by omega)]; exact gx, fun y y0 y1 y2 y3 _ _ => by rw [j3 y (by omega) y2 y3, go y y1]⟩
  rw [if_neg g4] at e
  rw [if_neg g4]
  by_cases g5 : drw s 6 = 5
  · rw [if_pos g5] at e
    rw [if_pos g5]
    have d16 := drw_b (s := nxd (nxd s)) (m := 16) (by decide) (by decide)
    rw [c_13 hW gx (by decide) (by decide)] at e
    simp only [Option.bind_some, psh_i] at e
    obtain ⟨J, j1, j2, j3⟩ := c_callBack (d := d + 2) (S := S) (I := up2 G x 0 (nxd (nxd (nxd s)))) (b := 36) (by decide) hD (RelD_mem gR hw.1 (fun y y0 y1 => up2_oth (by omega))) hw hk hB (by omega) (q := q) (id := drw (nxd (nxd s)) 16) ⟨by omega, by omega⟩ ⟨by omega, by omega⟩
    rw [E64_98 hD, j1] at e
    simp only [Option.bind_some, psh_i] at e
    rw [E64_101, E64_137] at e
    exact ⟨J, e, j2, by rw [j3 x (by omega)]; exact up2_hit rfl rfl, fun y y0 y1 _ _ _ _ => by rw [j3 y (by omega), up2_oth y1, go y y1]⟩
  rw [if_neg g5] at e
  rw [if_neg g5]
  have d5 := drw_b (s := nxd (nxd s)) (m := 5) (by decide) (by decide)
  have d10 := drw_b (s := nxd (nxd (nxd s))) (m := 10) (by decide) (by decide)
  have d100 := drw_b (s := nxd (nxd (nxd (nxd s)))) (m := 100) (by decide) (by decide)
  rw [c_13 hW gx (by decide) (by decide)] at e
  simp only [Option.bind_some, psh_i] at e
  rw [E64_110 hW, c_13 (s := nxd (nxd (nxd s))) hW (up2_hit rfl rfl) (by decide) (by decide)] at e
  simp only [Option.bind_some, psh_i] at e
  rw [E64_118 hW, c_13 (s := nxd (nxd (nxd (nxd s)))) hW (up2_hit rfl rfl) (by decide) (by decide)] at e
  simp only [Option.bind_some, psh_i] at e
  generalize hH : up2 (up2 (up2 G x 0 (nxd (nxd (nxd s)))) x 0 (nxd (nxd (nxd (nxd s))))) x 0 (nxd (nxd (nxd (nxd (nxd s))))) = H at e
  have ho : ∀ y, y ≠ x → H y = G y := fun y hy => by rw [← hH, up2_oth hy, up2_oth hy, up2_oth hy]
  obtain ⟨J, j1, j2, j3⟩ := c_write (d := d + 2) (S := S) (I := H) (b := 36) (by decide) hD (RelD_mem gR hw.1 (fun y y0 y1 => ho y (by omega))) hw hk hB (by omega) (q := q) (op := drw (nxd (nxd s)) 5) (bl := drw (nxd (nxd (nxd s))) 10) (v := drw (nxd (nxd (nxd (nxd s)))) 100) ⟨by omega, by omega⟩ ⟨by omega, by omega⟩ ⟨by omega, by omega⟩ ⟨by omega, by omega⟩
  rw [E64_133 hD, j1] at e
  simp only [Option.bind_some, psh_i] at e
  rw [E64_136, E64_137] at e
  exact ⟨J, e, j2, by rw [j3 x (by omega), ← hH]; exact up2_hit rfl rfl, fun y y0 y1 _ _ _ _ => by rw [j3 y (by omega), ho y y1, go y y1]⟩
end r96
