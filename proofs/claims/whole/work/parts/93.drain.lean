/-! all that is posted is taken; is all drained; drains -/
def tkqS (q : Int) : Nat → RW → RW
  | 0, ρ => ρ
  | n + 1, ρ => tkqS q n (takR ρ q)
def takAllS : Nat → Int → RW → RW
  | 0, _, ρ => ρ
  | n + 1, q, ρ => takAllS n (q + 1) (tkqS q (ρ (89 * q + 5) - ρ (89 * q + 6)).toNat ρ)
def usum (C : CF) (ρ : RW) : Int := sm (fun q => ρ (89 * q + 6)) C.1.toNat 0
section r93
variable {d : Nat} {S : SS} {I J G I2 : II} {C : CF} {K : KF} {ρ σ : RW} {a b u q k v j N r id : Int}
theorem tak_lo (h : j ≠ 89 * q + 4 ∧ j ≠ 89 * q + 6) : takR ρ q j = ρ j := by unfold takR; rw [updR_miss h.1, updR_miss h.2]
theorem tak_6 : takR ρ q (89 * q + 6) = ρ (89 * q + 6) + 1 := by unfold takR; rw [updR_miss (by omega), updR_hit rfl]
theorem tkq_facts (h0 : 0 ≤ q) (h1 : q < 5) : ∀ (n : Nat) (N : Int) (ρ : RW), WF C ρ → lftOK 1 ρ → BdN N ρ → n = (ρ (89 * q + 5) - ρ (89 * q + 6)).toNat → WF C (tkqS q n ρ) ∧ lftOK 1 (tkqS q n ρ) ∧ BdN (N + n) (tkqS q n ρ) ∧ tkqS q n ρ (89 * q + 6) = ρ (89 * q + 6) + n ∧ ∀ j, j ≠ 89 * q + 4 → j ≠ 89 * q + 6 → tkqS q n ρ j = ρ j := by
  intro n
  induction n with
  | zero => intro N ρ h hl hB hn; exact ⟨h, hl, BdN_le hB (by omega), by show ρ _ = _; omega, fun _ _ _ => rfl⟩
  | succ n ih =>
    intro N ρ h hl hB hn
    obtain ⟨w1, w2, w3⟩ := tak_WF h h0 h1 (by omega)
    have e5 : takR ρ q (89 * q + 5) = ρ (89 * q + 5) := tak_lo (by omega)
    have e6 : takR ρ q (89 * q + 6) = ρ (89 * q + 6) + 1 := tak_6
    obtain ⟨i1, i2, i3, i4, i5⟩ := ih (N + 1) (takR ρ q) w1 (lftOK_congr (fun j j0 j1 => w3 j j0) h.1.2.1.2.1 hl) (BdN_tak hB) (by rw [e5, e6]; omega)
    refine ⟨i1, i2, BdN_le i3 (by omega), ?_, fun j j0 j1 => ?_⟩
    · show tkqS q n (takR ρ q) (89 * q + 6) = _
      rw [i4, e6]; omega
    · show tkqS q n (takR ρ q) j = _
      rw [i5 j j0 j1, tak_lo ⟨j0, j1⟩]
theorem takAll_facts (hn5 : C.1 ≤ 5) : ∀ (n : Nat) (q N : Int) (ρ : RW), WF C ρ → lftOK 1 ρ → BdN N ρ → 0 ≤ q → q + n ≤ 5 → WF C (takAllS n q ρ) ∧ lftOK 1 (takAllS n q ρ) ∧ BdN (N + 7 * n) (takAllS n q ρ) := by
  intro n
  induction n with
  | zero => intro q N ρ h hl hB _ _; exact ⟨h, hl, BdN_le hB (by omega)⟩
  | succ n ih =>
    intro q N ρ h hl hB q0 q1
    have c := (h.1.1 q q0 (by omega)).1
    unfold cntsOK at c
    obtain ⟨t1, t2, t3, _, _⟩ := tkq_facts q0 (by omega : q < 5) (ρ (89 * q + 5) - ρ (89 * q + 6)).toNat N ρ h hl hB rfl
    obtain ⟨i1, i2, i3⟩ := ih (q + 1) (N + 7) _ t1 t2 (BdN_le t3 (by omega)) (by omega) (by omega)
    exact ⟨i1, i2, BdN_le i3 (by omega)⟩
/-- the class: a lane's completions are all taken -/
theorem c_100 (hb : 0 ≤ b) (hD : DA S b) (h0 : 0 ≤ q) (h1 : q < 5) {m : Int} (hm : 0 ≤ m ∧ m ≤ 7) : ∀ (n : Nat) (ρ : RW) (I : II), RelD C I b ρ → WF C ρ → n = (ρ (89 * q + 5) - ρ (89 * q + 6)).toNat → n ≤ m.toNat →
    ∃ J, ev (d + 2) 100 12 [(2, b + 11 + 4 * q), (0, m), (0, m - n)] [] S I = some (uU, S, J) ∧ RelD C J b (tkqS q n ρ) ∧ ∀ x, x ≠ b + 11 + 4 * q → J x = I x := by
  have hL := DA_lane hD h0 h1
  intro n
  induction n with
  | zero =>
    intro ρ I hR hw hn hnm
    refine ⟨I, ?_, hR, fun _ _ => rfl⟩
    rw [E100_12 hL, w_small (z := m - ((0 : Nat) : Int)) (by omega) (by omega), w_small (z := m) (by omega) (by omega), if_neg (by omega)]
  | succ n ih =>
    intro ρ I hR hw hn hnm
    obtain ⟨w1, w2, w3⟩ := tak_WF hw h0 h1 (by omega)
    obtain ⟨J, j1, j2, j3⟩ := c_laneTake (d := d) (S := S) hb hD hR hw h0 h1 (by omega)
    have e5 : takR ρ q (89 * q + 5) = ρ (89 * q + 5) := tak_lo (by omega)
    have e6 : takR ρ q (89 * q + 6) = ρ (89 * q + 6) + 1 := tak_6
    obtain ⟨Z, z1, z2, z3⟩ := ih (takR ρ q) J j2 w1 (by rw [e5, e6]; omega) (by omega)
    refine ⟨Z, ?_, z2, fun x hx => (z3 x hx).trans (j3 x hx)⟩
    rw [E100_12 hL, w_small (z := m - ((n + 1 : Nat) : Int)) (by omega) (by omega), w_small (z := m) (by omega) (by omega), if_pos (by omega), j1]
    simp only [Option.bind_some, psh_u]
    rw [E100_21, show m - ((n + 1 : Nat) : Int) + 1 = m - (n : Int) by omega]
    exact z1
theorem c_takAll {x2 : Int} (hb : 0 ≤ b) (hD : DA S b) (hk : okC C) : ∀ (n : Nat) (q N : Int) (ρ : RW) (I : II), RelD C I b ρ → WF C ρ → lftOK 1 ρ → BdN N ρ → 0 ≤ q → q ≤ C.1 → n = (C.1 - q).toNat →
    ∃ J, ev (d + 3) 56 19 [(2, b), (2, u), (0, x2), (0, q)] [] S I = ev (d + 3) 56 47 [(2, b), (2, u), (0, x2), (0, C.1)] [] S J ∧ RelD C J b (takAllS n q ρ) ∧ OUTB b I J := by
  have hn0 := hk.1
  have hn5 := hk.2.1
  intro n
  induction n with
  | zero =>
    intro q N ρ I hR hw hl hB q0 q1 hn
    have : q = C.1 := by omega
    subst this
    refine ⟨I, ?_, hR, OUTB_refl b I⟩
    rw [E56_19 hD, hR.1.1, if_neg (by omega)]
  | succ n ih =>
    intro q N ρ I hR hw hl hB q0 q1 hn
    have hL := DA_lane hD q0 (by omega : q < 5)
    have c := (hw.1.1 q q0 (by omega)).1
    unfold cntsOK at c
    obtain ⟨lf, -⟩ := hR.2.2.2.2.1 q q0 (by omega)
    have l9 := lan_f lf (f := 9) (by decide) (by decide)
    have l10 := lan_f lf (f := 10) (by decide) (by decide)
    rw [show (9 : Int) - 4 = 5 from rfl] at l9
    rw [show (10 : Int) - 4 = 6 from rfl] at l10
    obtain ⟨t1, t2, t3, _, _⟩ := tkq_facts q0 (by omega : q < 5) (ρ (89 * q + 5) - ρ (89 * q + 6)).toNat N ρ hw hl hB rfl
    obtain ⟨J, j1, j2, j3⟩ := c_100 (d := d) (S := S) (C := C) (q := q) (m := ρ (89 * q + 5) - ρ (89 * q + 6)) hb hD q0 (by omega) (by omega) (ρ (89 * q + 5) - ρ (89 * q + 6)).toNat ρ I hR hw rfl (Nat.le_refl _)
    rw [show ρ (89 * q + 5) - ρ (89 * q + 6) - ((ρ (89 * q + 5) - ρ (89 * q + 6)).toNat : Int) = 0 by omega] at j1
    obtain ⟨Z, z1, z2, z3⟩ := ih (q + 1) _ _ J j2 t1 t2 t3 (by omega) (by omega) (by omega)
    refine ⟨Z, ?_, z2, OUTB_trans (fun x hx => j3 x (by omega)) z3⟩
    rw [E56_19 hD, hR.1.1, w_small (z := q) (by omega) (by omega), w_small (z := C.1) (by omega) (by omega), if_pos (by omega), if_pos (by omega), gdR_pos (by omega), E100_0 hL, l9, l10, j1]
    simp only [Option.bind_some, psh_u]
    rw [E56_41, z1]
theorem c_drained1 (hD : DA S b) (h : RelD C I b ρ) (hW : W0 C ρ) (hk : okC C) (hB : Bd ρ) : ∀ (n : Nat) (q : Int), 0 ≤ q → q ≤ C.1 → n = (C.1 - q).toNat → ev d 57 2 [(2, b), (0, q)] [] S I = some ((0, if (ρ 493 = 0 ∧ ρ 814 = 0) ∧ fnd (idleIs ρ) n q < 0 then 1 else 0), S, I) := by
  have hn0 := hk.1
  have hn5 := hk.2.1
  have e10 : I b 10 = ρ 493 := h.1.2.2.2.2.2.1
  have e15 : I b 15 = ρ 814 := h.1.2.2.2.2.2.2
  have b1 := hB 493
  have b2 := hB 814
  intro n
  induction n with
  | zero =>
    intro q q0 q1 hn
    rw [E57_2 hD, h.1.1, w_small (z := q) (by omega) (by omega), w_small (z := C.1) (by omega) (by omega), if_neg (by omega), E57_44 hD, e10, e15, w_small (z := ρ 493) (by omega) (by omega), w_small (z := ρ 814) (by omega) (by omega), E57_62, E57_63 (Or.inr rfl), E57_63 (Or.inl rfl)]
    have f0 : fnd (idleIs ρ) 0 q < 0 := (by decide : (-1 : Int) < 0)
    by_cases g1 : ρ 493 = 0
    · by_cases g2 : ρ 814 = 0
      · rw [if_pos g1, if_pos g2, if_pos ⟨⟨g1, g2⟩, f0⟩]
      · rw [if_pos g1, if_neg g2, if_neg (fun x => g2 x.1.2)]
    · rw [if_neg g1, if_neg (fun x => g1 x.1.1)]
  | succ n ih =>
    intro q q0 q1 hn
    have c := (hW.1 q q0 (by omega)).1
    unfold cntsOK at c
    have b3 := hB (89 * q + 3)
    have b1' := hB (89 * q + 1)
    obtain ⟨lf, -⟩ := h.2.2.2.2.1 q q0 (by omega)
    rw [E57_2 hD, h.1.1, w_small (z := q) (by omega) (by omega), w_small (z := C.1) (by omega) (by omega), if_pos (by omega), if_pos (by omega), gdR_pos (by omega), gdR_pos (by omega), lf.2.2.2.2.2.1, lf.2.2.2.1, w_small (z := ρ (89 * q + 3)) (by omega) (by omega), w_small (z := ρ (89 * q + 1)) (by omega) (by omega), fnd_succ, ih (q + 1) (by omega) (by omega) (by omega)]
    by_cases g : ρ (89 * q + 3) < ρ (89 * q + 1)
    · rw [if_pos g, if_pos (show idleIs ρ q = true from decide_eq_true (by omega)), if_neg (fun x => by omega)]
    · rw [if_neg g, if_neg (show ¬ idleIs ρ q = true from fun x => by have := of_decide_eq_true x; omega)]
theorem c_drained (hD : DA S b) (h : RelD C I b ρ) (hW : W0 C ρ) (hk : okC C) (hB : Bd ρ) : ev d 57 0 [(2, b), uU] [] S I = some ((0, if drainedS C ρ = true then 1 else 0), S, I) := by
  rw [E57_0, c_drained1 hD h hW hk hB C.1.toNat 0 (by decide) hk.1 (by rw [Int.sub_zero])]
  have e : drainedS C ρ = true ↔ (ρ 493 = 0 ∧ ρ 814 = 0) ∧ fnd (idleIs ρ) C.1.toNat 0 < 0 := by
    unfold drainedS
    simp only [Bool.and_eq_true, decide_eq_true_eq]
  by_cases g : drainedS C ρ = true
  · rw [if_pos (e.mp g), if_pos g]
  · rw [if_neg (fun x => g (e.mpr x)), if_neg g]
theorem m_tkq (hM : MA S 427) (hr : isRw r) (hk : okC C) (h0 : 0 ≤ q) (h1 : q < C.1) : ∀ (n : Nat) (N : Int) (ρ : RW) (I : II), cfM I = C → I r = ρ → WF C ρ → lftOK 1 ρ → BdN N ρ → N + n < 1073741824 → n = (ρ (89 * q + 5) - ρ (89 * q + 6)).toNat →
    ev (d + 3) 286 10 [(2, 427), (2, r), (0, q)] [] S I = ev (d + 3) 286 2 [(2, 427), (2, r), (0, q + 1)] [] S (up2 (setR I r (tkqS q n ρ)) 427 35 (I 427 35 + n)) := by
  have rn : r ≠ 427 := by rcases hr with e | e <;> omega
  have hn5 := hk.2.1
  intro n
  induction n with
  | zero =>
    intro N ρ I hC hI hw hl hB hb hn
    have c := (hw.1.1 q h0 (by omega)).1
    unfold cntsOK at c
    have mt := m_takes (d := d) (S := S) (I := I) (r := r) (q := q) hM hr (by rw [hC]; exact hk) (by rw [hI]; exact WF_Cn hw.1 hB (by omega)) ⟨by omega, by omega⟩
    rw [hC, hI, takesS_eq, if_pos ⟨h0, h1⟩, if_pos (by omega)] at mt
    simp only at mt
    rw [E286_10 hM, mt]
    simp only [Option.bind_some, psh_i]
    rw [E286_16 hM, if_pos (by decide)]
    have e1 : up2 (setR I r (tkqS q 0 ρ)) 427 35 (I 427 35 + ((0 : Nat) : Int)) = setR I r ρ := by
      funext x y
      by_cases e : x = 427 ∧ y = 35
      · rw [e.1, e.2, up2_hit rfl rfl, setR_oth (Ne.symm rn)]; omega
      · rw [up2_miss e]; rfl
    rw [e1]
  | succ n ih =>
    intro N ρ I hC hI hw hl hB hb hn
    have c := (hw.1.1 q h0 (by omega)).1
    unfold cntsOK at c
    obtain ⟨w1, w2, w3⟩ := tak_WF hw h0 (by omega : q < 5) (by omega)
    have e5 : takR ρ q (89 * q + 5) = ρ (89 * q + 5) := tak_lo (by omega)
    have e6 : takR ρ q (89 * q + 6) = ρ (89 * q + 6) + 1 := tak_6
    have mt := m_takes (d := d) (S := S) (I := I) (r := r) (q := q) hM hr (by rw [hC]; exact hk) (by rw [hI]; exact WF_Cn hw.1 hB (by omega)) ⟨by omega, by omega⟩
    rw [hC, hI, takesS_eq, if_pos ⟨h0, h1⟩, if_neg (by omega)] at mt
    simp only at mt
    have pb := pAt_b (q := q) (k := ρ (89 * q + 6)) h0 (by omega)
    rw [E286_10 hM, mt]
    simp only [Option.bind_some, psh_i]
    rw [E286_16 hM, w_small (z := pAt q (ρ (89 * q + 6))) (by omega) (by omega), if_neg (by omega)]
    rw [ih (N + 1) (takR ρ q) (up2 (setR I r (takR ρ q)) 427 35 (setR I r (takR ρ q) 427 35 + 1)) ((cfM_mem (by rw [up2_miss (by decide), setR_oth (Ne.symm rn)]) (by rw [up2_oth (by decide), setR_oth (by rcases hr with e | e <;> omega)]) (by rw [up2_oth (by decide), setR_oth (by rcases hr with e | e <;> omega)]) (by rw [up2_oth (by decide), setR_oth (by rcases hr with e | e <;> omega)]) (by rw [up2_oth (by decide), setR_oth (by rcases hr with e | e <;> omega)])).trans hC) (by rw [up2_oth rn, setR_same]) w1 (lftOK_congr (fun j j0 j1 => w3 j j0) hw.1.2.1.2.1 hl) (BdN_tak hB) (by omega) (by rw [e5, e6]; omega)]
    congr 1
    funext x y
    by_cases e : x = 427 ∧ y = 35
    · rw [e.1, e.2, up2_hit rfl rfl, up2_hit rfl rfl, up2_hit rfl rfl, setR_oth (Ne.symm rn)]; omega
    · rw [up2_miss e, up2_miss e]
      by_cases e2 : x = r
      · rw [e2, setR_same, setR_same]; rfl
      · rw [setR_oth e2, setR_oth e2, up2_miss e, setR_oth e2]
theorem m_takAll (hM : MA S 427) (hr : isRw r) (hk : okC C) : ∀ (n : Nat) (q N : Int) (ρ : RW) (I : II), cfM I = C → I r = ρ → WF C ρ → lftOK 1 ρ → BdN N ρ → N + 7 * n < 1073741824 → 0 ≤ q → q ≤ C.1 → n = (C.1 - q).toNat →
    ∃ J, ev (d + 3) 286 2 [(2, 427), (2, r), (0, q)] [] S I = some (uU, S, J) ∧ J r = takAllS n q ρ ∧ J 427 35 = I 427 35 + (usum C (takAllS n q ρ) - usum C ρ) ∧ (∀ k, k ≠ 35 → J 427 k = I 427 k) ∧ ∀ x, x ≠ r → x ≠ 427 → J x = I x := by
  have rn : r ≠ 427 := by rcases hr with e | e <;> omega
  have hn0 := hk.1
  have hn5 := hk.2.1
  intro n
  induction n with
  | zero =>
    intro q N ρ I hC hI hw hl hB hb q0 q1 hn
    have e14 : I 427 14 = C.1 := by rw [← hC]; rfl
    refine ⟨I, by rw [E286_2 hM, e14, show q = C.1 by omega, if_neg (Int.lt_irrefl _)], hI, by show _ = _ + (usum C ρ - usum C ρ); omega, fun _ _ => rfl, fun _ _ _ => rfl⟩
  | succ n ih =>
    intro q N ρ I hC hI hw hl hB hb q0 q1 hn
    have e14 : I 427 14 = C.1 := by rw [← hC]; rfl
    have c := (hw.1.1 q q0 (by omega)).1
    unfold cntsOK at c
    obtain ⟨t1, t2, t3, t4, t5⟩ := tkq_facts q0 (by omega : q < 5) (ρ (89 * q + 5) - ρ (89 * q + 6)).toNat N ρ hw hl hB rfl
    have e := m_tkq (d := d) (S := S) hM hr hk q0 (by omega : q < C.1) (ρ (89 * q + 5) - ρ (89 * q + 6)).toNat N ρ I hC hI hw hl hB (by omega) rfl
    generalize hG : up2 (setR I r (tkqS q (ρ (89 * q + 5) - ρ (89 * q + 6)).toNat ρ)) 427 35 (I 427 35 + ((ρ (89 * q + 5) - ρ (89 * q + 6)).toNat : Int)) = G at e
    have g0 : G r = tkqS q (ρ (89 * q + 5) - ρ (89 * q + 6)).toNat ρ := by rw [← hG, up2_oth rn, setR_same]
    have g1 : ∀ k, k ≠ 35 → G 427 k = I 427 k := fun k hk => by rw [← hG, up2_miss (by omega), setR_oth (Ne.symm rn)]
    have g2 : ∀ x, x ≠ r → x ≠ 427 → G x = I x := fun x x0 x1 => by rw [← hG, up2_oth x1, setR_oth x0]
    have g3 : G 427 35 = I 427 35 + ((ρ (89 * q + 5) - ρ (89 * q + 6)).toNat : Int) := by rw [← hG, up2_hit rfl rfl]
    have gC : cfM G = C := (cfM_mem (g1 14 (by decide)) (g2 434 (by rcases hr with e | e <;> omega) (by decide)) (g2 435 (by rcases hr with e | e <;> omega) (by decide)) (g2 436 (by rcases hr with e | e <;> omega) (by decide)) (g2 437 (by rcases hr with e | e <;> omega) (by decide))).trans hC
    obtain ⟨J, j1, j2, j3, j4, j5⟩ := ih (q + 1) (N + 7) _ G gC g0 t1 t2 (BdN_le t3 (by omega)) (by omega) (by omega) (by omega) (by omega)
    refine ⟨J, ?_, j2, ?_, fun k hk => (j4 k hk).trans (g1 k hk), fun x x0 x1 => (j5 x x0 x1).trans (g2 x x0 x1)⟩
    · rw [E286_2 hM, e14, w_small (z := q) (by omega) (by omega), w_small (z := C.1) (by omega) (by omega), if_pos (by omega), e, j1]
    · have us : usum C (tkqS q (ρ (89 * q + 5) - ρ (89 * q + 6)).toNat ρ) = usum C ρ + ((ρ (89 * q + 5) - ρ (89 * q + 6)).toNat : Int) := by
        unfold usum
        rw [sm_one (f := fun q => ρ (89 * q + 6)) (g := fun q' => tkqS q (ρ (89 * q + 5) - ρ (89 * q + 6)).toNat ρ (89 * q' + 6)) (q := q) C.1.toNat 0 q0 (by omega) (fun i i0 i1 i2 => by
          show tkqS q _ ρ (89 * i + 6) = ρ (89 * i + 6)
          rw [t5 _ (by omega) (by omega)])]
        rw [t4]; omega
      rw [j3, g3, us]
      show _ = _ + (usum C (takAllS n (q + 1) (tkqS q (ρ (89 * q + 5) - ρ (89 * q + 6)).toNat ρ)) - usum C ρ)
      omega
end r93
