/-! which COMMAND fits what was heard -/
def cadS (ρ : RW) (q id : Int) : Int := if 0 ≤ ringOfS ρ q id then rAt q (ρ (89 * q + 3) + ringOfS ρ q id) else if runOfS ρ q id < 0 then -1 else if ρ (446 + 12 * runOfS ρ q id) = id then 446 + 12 * runOfS ρ q id else 451 + 12 * runOfS ρ q id
def prp (ρ : RW) (q id k : Int) : Int := if k = 0 then q else if k = 1 then ρ (cadS ρ q id + 1) else if k = 2 then ρ (cadS ρ q id + 2) else if cadS ρ q id < 445 then 0 else 1
def alls (ρ hk hv : RW) (q id : Int) : Nat → Int → Bool
  | 0, _ => true
  | n + 1, j => decide (prp ρ q id (hk j) = hv j) && alls ρ hk hv q id n (j + 1)
def fitb (ρ hk hv : RW) (m q id : Int) : Bool := decide (0 ≤ cadS ρ q id) && alls ρ hk hv q id m.toNat 0
section r99
variable {d : Nat} {S : SS} {I J G I2 : II} {C : CF} {ρ σ hk hv : RW} {a b q k v j m id N : Int}
theorem fnd_p {p : Int → Bool} {n : Nat} {k : Int} (h : 0 ≤ fnd p n k) (hk : 0 ≤ k) : p (fnd p n k) = true ∧ k ≤ fnd p n k ∧ fnd p n k < k + n := by
  rcases fnd_lo p n k with e | ⟨e1, e2, e3⟩
  · rw [e] at h; omega
  · exact ⟨e3, e1, e2⟩
theorem cad_ok (h : WF C ρ) (h0 : 0 ≤ q) (h1 : q < 5) (hc : 0 ≤ cadS ρ q id) : cmdOK ρ (cadS ρ q id) ∧ (0 ≤ ringOfS ρ q id ∧ cadS ρ q id = rAt q (ρ (89 * q + 3) + ringOfS ρ q id) ∧ runOfS ρ q id = -1 ∨ ringOfS ρ q id < 0 ∧ 0 ≤ runOfS ρ q id ∧ runOfS ρ q id < ρ 493 ∧ (ρ (446 + 12 * runOfS ρ q id) = id ∧ cadS ρ q id = 446 + 12 * runOfS ρ q id ∨ ρ (446 + 12 * runOfS ρ q id) ≠ id ∧ cadS ρ q id = 451 + 12 * runOfS ρ q id ∧ ρ (452 + 12 * runOfS ρ q id) = 3)) := by
  have rb := ringOfS_b (id := id) (h.1.1 q h0 h1)
  have ub := runOfS_b (ρ := ρ) (q := q) (id := id) h.1.2.1.1
  have c := (h.1.1 q h0 h1).1
  unfold cntsOK at c
  unfold cadS at *
  by_cases g : 0 ≤ ringOfS ρ q id
  · rw [if_pos g]
    exact ⟨(h.1.1 q h0 h1).2.1 _ (by omega) (by have := rb.2.1 g; omega), Or.inl ⟨g, rfl, ring_run h h0 h1 g⟩⟩
  · rw [if_neg g] at hc ⊢
    by_cases g2 : runOfS ρ q id < 0
    · rw [if_pos g2] at hc; omega
    · rw [if_neg g2] at hc ⊢
      have rlt : runOfS ρ q id < ρ 493 := by omega
      have ro := h.1.2.1.2.2 (runOfS ρ q id) (by omega) rlt
      unfold run1OK at ro
      by_cases g3 : ρ (446 + 12 * runOfS ρ q id) = id
      · rw [if_pos g3]
        exact ⟨ro.2.2.1, Or.inr ⟨by omega, by omega, rlt, Or.inl ⟨g3, rfl⟩⟩⟩
      · rw [if_neg g3]
        have pp := (fnd_p (p := runIs ρ q id) (n := (ρ 493).toNat) (k := 0) (by show 0 ≤ runOfS ρ q id; omega) (by decide)).1
        have pp' : runIs ρ q id (runOfS ρ q id) = true := pp
        unfold runIs hasSecS at pp'
        simp only [Bool.and_eq_true, Bool.or_eq_true, decide_eq_true_eq] at pp'
        rcases ro.2.2.2.2.2 with ⟨s1, s2⟩ | ⟨s1, s2, s3, s4⟩
        · exfalso
          rcases pp'.2 with e | e
          · exact g3 e
          · omega
        · exact ⟨s2, Or.inr ⟨by omega, by omega, rlt, Or.inr ⟨g3, rfl, s3⟩⟩⟩
theorem cad_b (h : WF C ρ) (h0 : 0 ≤ q) (h1 : q < 5) : -1 ≤ cadS ρ q id ∧ cadS ρ q id ≤ 495 := by
  by_cases hc : 0 ≤ cadS ρ q id
  · obtain ⟨_, e⟩ := cad_ok h h0 h1 hc
    have r4 := h.1.2.1.2.1
    rcases e with ⟨e1, e2, _⟩ | ⟨e1, e2, e3, ⟨_, e4⟩ | ⟨_, e4, _⟩⟩
    · have := rAt_b (q := q) (k := ρ (89 * q + 3) + ringOfS ρ q id) h0 h1; omega
    · omega
    · omega
  · have ub := runOfS_b (ρ := ρ) (q := q) (id := id) h.1.2.1.1
    have : cadS ρ q id = -1 := by
      unfold cadS at *
      by_cases g : 0 ≤ ringOfS ρ q id
      · rw [if_pos g] at hc
        have := rAt_b (q := q) (k := ρ (89 * q + 3) + ringOfS ρ q id) h0 h1; omega
      · rw [if_neg g] at hc ⊢
        by_cases g2 : runOfS ρ q id < 0
        · rw [if_pos g2]
        · rw [if_neg g2] at hc
          split at hc <;> omega
    omega
theorem cad_445 (h : WF C ρ) (h0 : 0 ≤ q) (h1 : q < 5) (hc : 0 ≤ cadS ρ q id) : cadS ρ q id < 445 ↔ runOfS ρ q id = -1 := by
  obtain ⟨_, e⟩ := cad_ok h h0 h1 hc
  rcases e with ⟨e1, e2, e3⟩ | ⟨e1, e2, e3, ⟨_, e4⟩ | ⟨_, e4, _⟩⟩
  · have := rAt_b (q := q) (k := ρ (89 * q + 3) + ringOfS ρ q id) h0 h1; omega
  · omega
  · omega
/-- the class finds it -/
theorem c_cad (hb : 0 ≤ b) (hD : DA S b) (h : RelD C I b ρ) (hw : WF C ρ) (hkC : okC C) (hB : BdN N ρ) (hN : N < 1073741824) (hq : isI q) (hid : isI id) : ev (d + 3) 62 0 [(2, b), (0, q), (0, id), uU, uU, uU] [] S I = some ((0, if (0 ≤ q ∧ q < C.1) ∧ 0 ≤ cadS ρ q id then pkA ρ (cadS ρ q id) else -1), S, I) := by
  have hn5 := hkC.2.1
  have hBd := BdN_Bd hB hN
  rw [E62_0 hD, c_lane hD h.1 hkC hq]
  simp only [Option.bind_some, psh_r]
  by_cases g : 0 ≤ q ∧ q < C.1
  · have q5 : q < 5 := by omega
    have hL := DA_lane hD g.1 q5
    have lR := h.2.2.2.2.1 q g.1 q5
    have qo := hw.1.1 q g.1 q5
    have c := qo.1
    unfold cntsOK at c
    have rb := ringOfS_b (id := id) qo
    have ub := runOfS_b (ρ := ρ) (q := q) (id := id) hw.1.2.1.1
    have r4 := hw.1.2.1.2.1
    have l7 := lan_f lR.1 (f := 7) (by decide) (by decide)
    rw [show (7 : Int) - 4 = 3 from rfl] at l7
    rw [if_pos g, E62_5 (Or.inr hL), if_neg (by omega), c_turnOf (d := d + 1) hL lR qo hBd hid]
    simp only [Option.bind_some, psh_i]
    rw [E62_17 hD hL, w_small (z := ringOfS ρ q id) (by omega) (by omega)]
    by_cases gr : ringOfS ρ q id = -1
    · rw [if_pos gr, c_runOf (d := d + 1) hD h.1 h.2.2.1 hw.1.2.1 hBd hq hid]
      simp only [Option.bind_some, psh_i]
      rw [E62_38 hD, w_small (z := runOfS ρ q id) (by omega) (by omega), E62_51]
      by_cases gu : runOfS ρ q id < 0
      · rw [if_pos gu]
        have e : cadS ρ q id = -1 := by unfold cadS; rw [if_neg (by omega), if_pos gu]
        rw [e, if_neg (by omega)]
      · have ro := hw.1.2.1.2.2 (runOfS ρ q id) (by omega) (by omega)
        unfold run1OK at ro
        obtain ⟨⟨u1, u2, u3⟩, _⟩ := h.2.2.1 (runOfS ρ q id) (by omega) (by omega)
        have cm := ro.2.2.1
        unfold cmdOK at cm
        rw [if_neg gu, if_pos (by omega), gdR_pos (by omega), u2, c_id ro.2.2.1]
        simp only [Option.bind_some, psh_i]
        have hc : 0 ≤ cadS ρ q id := by unfold cadS; rw [if_neg (by omega), if_neg gu]; split <;> omega
        rw [E62_63 hD, w_small (z := ρ (446 + 12 * runOfS ρ q id)) (by omega) (by omega), w_small hid.1 hid.2, w_small (z := runOfS ρ q id) (by omega) (by omega), gdR_pos (by omega), gdR_pos (by omega), E62_84, E62_84, u2, u3, if_pos (show (0 ≤ q ∧ q < C.1) ∧ 0 ≤ cadS ρ q id from ⟨g, hc⟩)]
        obtain ⟨_, e⟩ := cad_ok hw g.1 q5 hc
        rcases e with ⟨e1, _⟩ | ⟨_, _, _, ⟨e3, e4⟩ | ⟨e3, e4, e5⟩⟩
        · omega
        · rw [if_pos e3, e4]
        · rw [if_neg e3, if_neg (show ¬ ρ (452 + 12 * runOfS ρ q id) < 0 by omega), e4]
    · rw [if_neg gr, E86_0 hL, l7, lR.2.1.1 _ (by omega) (by have := rb.2.1 (by omega); omega)]
      simp only [Option.bind_some, psh_i]
      have e : cadS ρ q id = rAt q (ρ (89 * q + 3) + ringOfS ρ q id) := by unfold cadS; rw [if_pos (by omega)]
      have rA := rAt_b (q := q) (k := ρ (89 * q + 3) + ringOfS ρ q id) g.1 q5
      rw [E62_31, if_pos ⟨g, by omega⟩, e]
  · rw [if_neg g, E62_5 (Or.inl rfl), if_pos rfl, if_neg (fun x => g x.1)]
theorem c_prp (hb : 0 ≤ b) (hD : DA S b) (h : RelD C I b ρ) (hw : WF C ρ) (hkC : okC C) (hB : BdN N ρ) (hN : N < 1073741824) (hid : isI id) (h0 : 0 ≤ q) (h1 : q < C.1) (hc : 0 ≤ cadS ρ q id) (k0 : 0 ≤ k) (k1 : k < 4) : ev (d + 4) 71 0 [(2, b), (0, q), (0, id), (0, k)] [] S I = some ((0, prp ρ q id k), S, I) := by
  have hn5 := hkC.2.1
  have cm := (cad_ok hw h0 (by omega : q < 5) hc).1
  have c45 := cad_445 hw h0 (by omega : q < 5) hc
  have ub := runOfS_b (ρ := ρ) (q := q) (id := id) hw.1.2.1.1
  have r4 := hw.1.2.1.2.1
  have cc := c_cad (d := d) hb hD h hw hkC hB hN (q := q) (id := id) ⟨by omega, by omega⟩ hid
  rw [if_pos ⟨⟨h0, h1⟩, hc⟩] at cc
  rw [E71_0 hD, w_small (z := k) (by omega) (by omega), cc]
  simp only [Option.bind_some, psh_i]
  rw [E71_36, E71_46, c_op cm, c_bl cm, E63_0 hD, c_runOf (d := d + 1) hD h.1 h.2.2.1 hw.1.2.1 (BdN_Bd hB hN) ⟨by omega, by omega⟩ hid]
  simp only [Option.bind_some, psh_i]
  rw [E71_39, E71_49, E63_6, w_small (z := runOfS ρ q id) (by omega) (by omega), E63_15 (Or.inl rfl), E63_15 (Or.inr rfl)]
  unfold prp
  by_cases g0 : k = 0
  · rw [if_pos g0, if_pos g0]
  rw [if_neg g0, if_neg g0]
  by_cases g1 : k = 1
  · rw [if_pos g1, if_pos g1]
  rw [if_neg g1, if_neg g1]
  by_cases g2 : k = 2
  · rw [if_pos g2, if_pos g2]
  rw [if_neg g2, if_neg g2]
  by_cases g3 : runOfS ρ q id = -1
  · rw [if_pos g3, if_pos (c45.mpr g3)]
    simp only [Option.bind_some, psh_i]
    rw [E71_56, if_pos (by decide), E71_64]
  · rw [if_neg g3, if_neg (fun x => g3 (c45.mp x))]
    simp only [Option.bind_some, psh_i]
    rw [E71_56, if_neg (by decide), E71_64]
def cHs (I : II) (m : Int) (hk hv : RW) : Prop := I 424 2 = m ∧ 0 ≤ m ∧ m ≤ 12 ∧ (∀ j, 0 ≤ j → j < m → I 425 j = hk j ∧ I 426 j = hv j ∧ 0 ≤ hk j ∧ hk j < 4 ∧ 0 ≤ hv j ∧ hv j < 10)
theorem prp_b (h : WF C ρ) (h0 : 0 ≤ q) (h1 : q < 5) (hc : 0 ≤ cadS ρ q id) : 0 ≤ prp ρ q id k ∧ prp ρ q id k < 10 := by
  have cm := (cad_ok h h0 h1 hc).1
  unfold cmdOK at cm
  unfold prp
  split
  · omega
  · split
    · omega
    · split
      · omega
      · split <;> omega
theorem c_fit1 (hQ : QA S 0) (h : RelD C I 5 ρ) (hw : WF C ρ) (hkC : okC C) (hB : BdN N ρ) (hN : N < 1073741824) (hid : isI id) (h0 : 0 ≤ q) (h1 : q < C.1) (hc : 0 ≤ cadS ρ q id) (hh : cHs I m hk hv) : ∀ (n : Nat) (j : Int), 0 ≤ j → j ≤ m → n = (m - j).toNat → ev (d + 5) 70 15 [(2, 424), (2, 5), (0, q), (0, id), (0, j)] [] S I = some ((0, if alls ρ hk hv q id n j = true then 1 else 0), S, I) := by
  have hn5 := hkC.2.1
  obtain ⟨m1, m2, m3, m4⟩ := hh
  intro n
  induction n with
  | zero =>
    intro j j0 j1 hn
    rw [E70_15 (HA424 hQ), m1, w_small (z := j) (by omega) (by omega), w_small (z := m) (by omega) (by omega), if_neg (by omega), E70_62]
    rfl
  | succ n ih =>
    intro j j0 j1 hn
    obtain ⟨x1, x2, x3, x4, x5, x6⟩ := m4 j j0 (by omega)
    have pb := prp_b (k := hk j) hw h0 (by omega : q < 5) hc
    rw [E70_15 (HA424 hQ), m1, w_small (z := j) (by omega) (by omega), w_small (z := m) (by omega) (by omega), if_pos (by omega), if_pos (by omega), gdR_pos (by omega), x1, c_prp (d := d) (by decide) (DA5 hQ) h hw hkC hB hN hid h0 h1 hc x3 x4]
    simp only [Option.bind_some, psh_i]
    rw [E70_44 (HA424 hQ), w_small (z := j) (by omega) (by omega), gdR_pos (by omega), x2, w_small (z := prp ρ q id (hk j)) (by omega) (by omega), w_small (z := hv j) (by omega) (by omega)]
    have ea : alls ρ hk hv q id (n + 1) j = (decide (prp ρ q id (hk j) = hv j) && alls ρ hk hv q id n (j + 1)) := rfl
    by_cases g : prp ρ q id (hk j) = hv j
    · rw [if_pos g, ih (j + 1) (by omega) (by omega) (by omega), ea, decide_eq_true g, Bool.true_and]
    · rw [if_neg g, ea, decide_eq_false g, Bool.false_and]
      rfl
theorem c_fit (hQ : QA S 0) (h : RelD C I 5 ρ) (hw : WF C ρ) (hkC : okC C) (hB : BdN N ρ) (hN : N < 1073741824) (hq : isI q) (hid : isI id) (hh : cHs I m hk hv) : ev (d + 5) 70 0 [(2, 424), (2, 5), (0, q), (0, id), uU] [] S I = some ((0, if (0 ≤ q ∧ q < C.1) ∧ fitb ρ hk hv m q id = true then 1 else 0), S, I) := by
  have hn5 := hkC.2.1
  rw [E70_0 (DA5 hQ), c_cad (d := d + 1) (by decide) (DA5 hQ) h hw hkC hB hN hq hid]
  simp only [Option.bind_some, psh_i]
  rw [E70_6]
  by_cases g : (0 ≤ q ∧ q < C.1) ∧ 0 ≤ cadS ρ q id
  · have cm := (cad_ok hw g.1.1 (by omega : q < 5) g.2).1
    have pb := pkA_b cm
    rw [if_pos g, w_small (z := pkA ρ (cadS ρ q id)) (by omega) (by omega), if_neg (by omega), c_fit1 (d := d) hQ h hw hkC hB hN hid g.1.1 g.1.2 g.2 hh m.toNat 0 (by decide) hh.2.1 (by rw [Int.sub_zero])]
    unfold fitb
    rw [decide_eq_true g.2, Bool.true_and]
    by_cases g2 : alls ρ hk hv q id m.toNat 0 = true
    · rw [if_pos g2, if_pos ⟨g.1, g2⟩]
    · rw [if_neg g2, if_neg (fun x => g2 x.2)]
  · rw [if_neg g, if_pos (by decide), if_neg (fun x => g ⟨x.1, by
      have := x.2
      unfold fitb at this
      simp only [Bool.and_eq_true, decide_eq_true_eq] at this
      exact this.1⟩)]
/-- the reference finds it -/
theorem m_cad (hM : MA S 427) (hI : I 438 = ρ) (hw : WF C ρ) (hB : BdN N ρ) (hN : N < 1073741824) (h0 : 0 ≤ q) (h1 : q < 5) (hid : isI id) : ev (d + 3) 297 0 [(2, 427), (0, q), (0, id), uU, uU, uU] [] S I = some ((0, cadS ρ q id), S, I) := by
  have hK := isRw_K hM (Or.inl rfl : isRw 438)
  have hC := WF_Cn hw.1 hB hN
  have rb := ringOfS_b (id := id) (hw.1.1 q h0 h1)
  have ub := runOfS_b (ρ := ρ) (q := q) (id := id) hw.1.2.1.1
  have r4 := hw.1.2.1.2.1
  have c := (hw.1.1 q h0 h1).1
  unfold cntsOK at c
  have b3 := hB (89 * q + 3)
  rw [E297_0 hM, m_ringOf (d := d + 1) hK (by rw [hI]; exact hC) h0 h1 hid, hI]
  simp only [Option.bind_some, psh_i]
  unfold cadS
  by_cases g : ringOfS ρ q id < 0
  · rw [E297_9 hM, w_small (z := ringOfS ρ q id) (by omega) (by omega), if_pos g, m_runOf (d := d) hK (by rw [hI]; exact hC) ⟨by omega, by omega⟩ hid, hI]
    simp only [Option.bind_some, psh_i]
    rw [E297_39, w_small (z := runOfS ρ q id) (by omega) (by omega), E224_0]
    simp only [Option.bind_some, psh_i]
    rw [if_neg (show ¬ 0 ≤ ringOfS ρ q id by omega)]
    by_cases g2 : runOfS ρ q id < 0
    · rw [if_pos g2, if_pos g2]
    · have b46 := hB (446 + 12 * runOfS ρ q id)
      rw [if_neg g2, if_neg g2, E297_53 hM, show 445 + 12 * runOfS ρ q id + 1 + 0 = 446 + 12 * runOfS ρ q id by omega, w_small (z := 446 + 12 * runOfS ρ q id) (by omega) (by omega), gdR_pos (by omega), hI, w_small (z := ρ (446 + 12 * runOfS ρ q id)) (by omega) (by omega), w_small hid.1 hid.2, E224_0]
      simp only [Option.bind_some, psh_i]
      rw [E297_80, E297_83, E297_83, show 445 + 12 * runOfS ρ q id + 1 = 446 + 12 * runOfS ρ q id by omega, show 445 + 12 * runOfS ρ q id + 6 = 451 + 12 * runOfS ρ q id by omega]
      by_cases g3 : ρ (446 + 12 * runOfS ρ q id) = id
      · rw [if_pos g3, if_pos g3]
      · rw [if_neg g3, if_neg g3]
  · rw [E297_9 hM, w_small (z := ringOfS ρ q id) (by omega) (by omega), if_neg g, m_of hK (by omega) (by omega), hI]
    simp only [Option.bind_some, psh_i]
    rw [E297_24, m_rAt (by omega) (by omega)]
    simp only [Option.bind_some, psh_i]
    rw [E297_29, if_pos (by omega)]
theorem m_isSo (hM : MA S 427) (hI : I 438 = ρ) (hw : WF C ρ) (hB : BdN N ρ) (hN : N < 1073741824) (h0 : 0 ≤ q) (h1 : q < 5) (hid : isI id) (hc : 0 ≤ cadS ρ q id) (k0 : 0 ≤ k) (k1 : k < 4) (v0 : isI v) : ev (d + 4) 298 0 [(2, 427), (0, q), (0, id), (0, k), (0, v), uU] [] S I = some ((0, if prp ρ q id k = v then 1 else 0), S, I) := by
  have cm := (cad_ok hw h0 h1 hc).1
  unfold cmdOK at cm
  have cb := cad_b (id := id) hw h0 h1
  have f0 : ∀ u : Int, (u = 0 ∨ u = 1) → ev (d + 3) 199 0 [(0, u)] [] S I = some ((0, u), S, I) := fun u hu => m_flag hu
  rw [E298_0 hM, m_cad (d := d) hM hI hw hB hN h0 h1 hid]
  simp only [Option.bind_some, psh_i]
  rw [E298_6 hM, w_small (z := k) (by omega) (by omega), w_small v0.1 v0.2, w_small (z := q) (by omega) (by omega), w_small (z := cadS ρ q id + 1) (by omega) (by omega), w_small (z := cadS ρ q id + 2) (by omega) (by omega), gdR_pos (by omega), gdR_pos (by omega), hI, w_small (z := ρ (cadS ρ q id + 1)) (by omega) (by omega), w_small (z := ρ (cadS ρ q id + 2)) (by omega) (by omega), w_small (z := cadS ρ q id) (by omega) (by omega), E298_47 (Or.inr rfl), E298_47 (Or.inl rfl), E298_67 (Or.inr rfl), E298_67 (Or.inl rfl), E298_87 (Or.inr rfl), E298_87 (Or.inl rfl), E298_101, E298_101, f0 0 (Or.inl rfl), f0 1 (Or.inr rfl)]
  simp only [Option.bind_some, psh_i]
  rw [E298_104, E298_104, w_small v0.1 v0.2, E298_114 (Or.inr rfl), E298_114 (Or.inl rfl), show w 0 = 0 by decide, show w 1 = 1 by decide]
  unfold prp
  by_cases g0 : k = 0
  · rw [if_pos g0, if_pos g0]
    split <;> rfl
  rw [if_neg g0, if_neg g0]
  by_cases g1 : k = 1
  · rw [if_pos g1, if_pos g1]
    split <;> rfl
  rw [if_neg g1, if_neg g1]
  by_cases g2 : k = 2
  · rw [if_pos g2, if_pos g2]
    split <;> rfl
  rw [if_neg g2, if_neg g2]
  by_cases g3 : cadS ρ q id < 445
  · rw [if_pos g3, if_pos g3]
    split <;> rfl
  · rw [if_neg g3, if_neg g3]
    split <;> rfl
def mHs (I : II) (m : Int) (hk hv : RW) : Prop := I 427 36 = m ∧ 0 ≤ m ∧ m ≤ 12 ∧ (∀ j, 0 ≤ j → j < m → I 448 j = hk j ∧ I 449 j = hv j ∧ 0 ≤ hk j ∧ hk j < 4 ∧ 0 ≤ hv j ∧ hv j < 10)
theorem m_fit1 (hM : MA S 427) (hI : I 438 = ρ) (hw : WF C ρ) (hB : BdN N ρ) (hN : N < 1073741824) (h0 : 0 ≤ q) (h1 : q < 5) (hid : isI id) (hc : 0 ≤ cadS ρ q id) (hh : mHs I m hk hv) : ∀ (n : Nat) (j : Int), 0 ≤ j → j ≤ m → n = (m - j).toNat → ev (d + 5) 296 18 [(2, 427), (0, q), (0, id), (0, 1), (0, j)] [] S I = some ((0, if alls ρ hk hv q id n j = true then 1 else 0), S, I) := by
  obtain ⟨m1, m2, m3, m4⟩ := hh
  intro n
  induction n with
  | zero =>
    intro j j0 j1 hn
    rw [E296_18 hM, m1, w_small (z := j) (by omega) (by omega), w_small (z := m) (by omega) (by omega), if_neg (by omega), E296_58 (Or.inr rfl)]
    rfl
  | succ n ih =>
    intro j j0 j1 hn
    obtain ⟨x1, x2, x3, x4, x5, x6⟩ := m4 j j0 (by omega)
    rw [E296_18 hM, m1, w_small (z := j) (by omega) (by omega), w_small (z := m) (by omega) (by omega), if_pos (by omega), if_neg (by decide), gdR_pos (by omega), gdR_pos (by omega), x1, x2, m_isSo (d := d) hM hI hw hB hN h0 h1 hid hc x3 x4 ⟨by omega, by omega⟩]
    simp only [Option.bind_some, psh_i]
    rw [E296_51]
    have ea : alls ρ hk hv q id (n + 1) j = (decide (prp ρ q id (hk j) = hv j) && alls ρ hk hv q id n (j + 1)) := rfl
    by_cases g : prp ρ q id (hk j) = hv j
    · rw [if_pos g, ih (j + 1) (by omega) (by omega) (by omega), ea, decide_eq_true g, Bool.true_and]
    · rw [if_neg g, ea, decide_eq_false g, Bool.false_and, E296_18 hM, E296_58 (Or.inl rfl)]
      split
      · rw [if_pos (by decide)]; rfl
      · rfl
theorem m_fit (hM : MA S 427) (hI : I 438 = ρ) (hw : WF C ρ) (hB : BdN N ρ) (hN : N < 1073741824) (h0 : 0 ≤ q) (h1 : q < 5) (hid : isI id) (hh : mHs I m hk hv) : ev (d + 5) 296 0 [(2, 427), (0, q), (0, id), uU, uU] [] S I = some ((0, if fitb ρ hk hv m q id = true then 1 else 0), S, I) := by
  have cb := cad_b (id := id) hw h0 h1
  rw [E296_0 hM, m_cad (d := d + 1) hM hI hw hB hN h0 h1 hid]
  simp only [Option.bind_some, psh_i]
  rw [E296_6, w_small (z := cadS ρ q id) (by omega) (by omega), E296_14, E296_14]
  unfold fitb
  by_cases g : 0 ≤ cadS ρ q id
  · rw [if_neg (by omega), m_fit1 (d := d) hM hI hw hB hN h0 h1 hid g hh m.toNat 0 (by decide) hh.2.1 (by rw [Int.sub_zero]), decide_eq_true g, Bool.true_and]
  · have s : ev (d + 5) 296 18 [(2, 427), (0, q), (0, id), (0, 0), (0, 0)] [] S I = some ((0, 0), S, I) := by
      rw [E296_18 hM, E296_58 (Or.inl rfl)]
      split
      · rw [if_pos (by decide)]
      · rfl
    rw [if_pos (by omega), s, decide_eq_false g, Bool.false_and]
    rfl
end r99
