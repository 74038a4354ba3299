/-! a trial: what a call finds out on a copy; next, needs -/
def tau (I : II) : RW := overS 0 (I 438) (I 439)
def OT (I J : II) : Prop := ∀ x, x < 455 → x ≠ 3 → x ≠ 4 → ¬ (36 ≤ x ∧ x < 67) → x ≠ 416 → x ≠ 417 → ¬ (418 ≤ x ∧ x < 424) → J x = I x
section r83
variable {d : Nat} {S : SS} {I J G I2 : II} {C : CF} {ρ σ : RW} {b q f k v N n : Int}
theorem tau_eq {j : Int} (h0 : 0 ≤ j) (h1 : j < 844) : tau I j = I 438 j := by unfold tau overS; rw [if_pos ⟨h0, h1⟩]
theorem tau_B (h : ST N I) : BdN N (tau I) := by
  obtain ⟨b1, b2, _⟩ := h.2.2.2.2.2.2.2
  intro k; unfold tau overS
  split
  · exact b1 k
  · exact b2 k
theorem tau_GD (h : ST N I) : WF (cfM I) (tau I) ∧ lftOK 1 (tau I) := by
  have hD := h.2.2.2.1.2
  exact (GD_row hD (fun j j0 j1 => tau_eq j0 j1)).2
theorem OT_refl : OT I I := fun _ _ _ _ _ _ _ _ => rfl
theorem OT_trans (h : OT I J) (g : OT J G) : OT I G := fun x xl x0 x1 x2 x3 x4 x5 => (g x xl x0 x1 x2 x3 x4 x5).trans (h x xl x0 x1 x2 x3 x4 x5)
theorem OT_36 (h : OUTB 36 I J) : OT I J := fun x _ _ _ x2 _ _ _ => h x (by omega)
theorem OT_TF (h : TF I J) : OT I J := fun x _ x0 x1 _ _ _ _ => h x x0 x1
theorem OT_up (h : OT I J) {x : Int} (h0 : 424 ≤ x) (h1 : x < 455) : J x = I x := h x h1 (by omega) (by omega) (by omega) (by omega) (by omega) (by omega)
theorem OT_lo (h : OT I J) {x : Int} (h0 : 5 ≤ x) (h1 : x < 36) : J x = I x := h x (by omega) (by omega) (by omega) (by omega) (by omega) (by omega) (by omega)
theorem OT_cfM (h : OT I J) : cfM J = cfM I := cfM_mem (by rw [OT_up h (by decide) (by decide)]) (OT_up h (by decide) (by decide)) (OT_up h (by decide) (by decide)) (OT_up h (by decide) (by decide)) (OT_up h (by decide) (by decide))
theorem OT_tau (h : OT I J) : tau J = tau I := by unfold tau; rw [OT_up h (by decide) (by decide), OT_up h (by decide) (by decide)]
theorem tri_beg (hQ : QA S 0) (h : ST N I) : ∃ J, ev (d + 1) 19 0 [(2, 36), (2, 5), uU] [] S I = some (uU, S, J) ∧ RelD (cfM I) J 36 (tau I) ∧ OUTB 36 I J := by
  obtain ⟨J, j1, j2, j3⟩ := c_copy (d := d) (S := S) (a0 := 36) (a1 := 5) (DA5 hQ) (DA36 hQ) (by omega) h.2.2.2.1.2
  exact ⟨J, j1, (GD_row j2 (fun j j0 j1 => tau_eq j0 j1)).1, j3⟩
theorem tri_ST (h : ST N I) (t : OT I J) (r1 : ∀ x, x ≠ 427 → x ≠ 428 → x ≠ 439 → ¬ (431 ≤ x ∧ x ≤ 433) → x ≠ 446 → x ≠ 447 → x ≠ 450 → x ≠ 451 → I2 x = J x) (r2 : ∀ k, (k = 4 ∨ k = 36 ∨ k = 10 ∨ k = 14 ∨ k = 15 ∨ k = 22) → I2 427 k = J 427 k) (hR : cR I2) (hB : BdN (N + 100000) (I2 439)) : ST (N + 100000) I2 :=
  rd_ST h (fun x x0 x1 x2 x3 x4 x5 x6 => by rw [r1 x (by omega) (by omega) (by omega) (by omega) (by omega) (by omega) (by omega) (by omega)]; exact t x (by omega) x1 x2 x3 x4 x5 x6) (fun k hk => by rw [r2 k hk]; rw [OT_up t (by decide) (by decide)]) (fun x hx => by rw [r1 x (by omega) (by omega) (by omega) (by omega) (by omega) (by omega) (by omega) (by omega)]; exact OT_up t (by omega) (by omega)) hR hB
theorem anyS_congr (hn : C.1 ≤ 5) (h : ∀ j, 0 ≤ j → j < 445 → σ j = ρ j) : anyS C σ = anyS C ρ := by
  rw [Bool.eq_iff_iff, anyS_iff, anyS_iff]
  constructor
  · rintro ⟨q, q0, q1, q2⟩
    rw [h _ (by omega) (by omega), h _ (by omega) (by omega)] at q2
    exact ⟨q, q0, q1, q2⟩
  · rintro ⟨q, q0, q1, q2⟩
    exact ⟨q, q0, q1, by rw [h _ (by omega) (by omega), h _ (by omega) (by omega)]; exact q2⟩
theorem any_tau (hk : okC (cfM I)) : anyS (cfM I) (tau I) = anyS (cfM I) (I 438) := anyS_congr hk.2.1 (fun j j0 j1 => tau_eq j0 (by omega))
theorem m_cop (hM : MA S 427) (h : OT I J) (e : ∀ x, x ≠ 427 → G x = J x) : ev d 280 0 [(2, 427), uU] [] S G = some (uU, S, setR G 439 (tau I)) := by
  rw [m_copies hM, e 438 (by decide), e 439 (by decide), OT_up h (by decide) (by decide), OT_up h (by decide) (by decide)]; rfl
theorem call_next (hS : SH S) (h : ST N I) (hN0 : 100 ≤ N) (hN : N < 70000000) : ∃ r I1 I2, ev (d + 100) 167 0 [(2, 0), uU, uU] [] S I = some ((0, r), S, I1) ∧ ev (d + 100) 279 0 [(2, 427), uU] [] S I1 = some ((0, r), S, I2) ∧ ST (N + 100000) I2 := by
  obtain ⟨hQ, hM⟩ := hS
  have hk := h.2.2.2.1.1
  have hn0 := hk.1
  have hn5 := hk.2.1
  have hD := h.2.2.2.1.2
  have hB := h.2.2.2.2.2.2.2.1
  have tB := tau_B h
  obtain ⟨tW, tL⟩ := tau_GD h
  have tBd := BdN_Bd tB (by omega)
  obtain ⟨J, j1, j2, j3⟩ := tri_beg (d := d + 98) (S := S) hQ h
  have e1 := E167_0 (d := d + 99) (I := I) hQ
  rw [j1] at e1
  simp only [Option.bind_some, psh_u] at e1
  rw [E167_11 hQ] at e1
  by_cases ga : anyS (cfM I) (I 438) = true
  · have gt : anyS (cfM I) (tau I) = true := by rw [any_tau hk]; exact ga
    have hc := canS_of tW.1 hk gt
    obtain ⟨sp0, sp1, sp2, sp3⟩ := chosen_spec hc
    obtain ⟨K, k1, k2, k3⟩ := c_choose (d := d + 95) (S := S) (b := 36) (by decide) (DA36 hQ) j2 tW.1 hk tB (by omega) gt
    have cB := chosenS_BdN hc tB (by omega)
    have mc := fun (Z : II) (z1 : cfM Z = cfM I) (z2 : Z 439 = tau I) => m_chosen (d := d + 94) (S := S) (I := Z) (r := 439) hM (Or.inr rfl) (by rw [z1]; exact hk) (by rw [z2]; exact tBd) (by rw [z2]; exact WF_okL tW.1) (by rw [z1, z2]; exact hc)
    generalize hch : (chosenS (cfM I) (tau I)).1 = ch at *
    generalize hσ : (chosenS (cfM I) (tau I)).2 = σ at *
    have kk := hk.2.2 ch sp0 sp1
    have hL := DA_lane (DA36 hQ) sp0 sp2
    obtain ⟨lf, -⟩ := k2.2.2.2.2.1 ch sp0 sp2
    have kf := (lf.1 sp1).2.2.1
    rw [k1] at e1
    simp only [Option.bind_some, psh_i] at e1
    rw [E167_18 hQ, c_lane (DA36 hQ) k2.1 hk ⟨by omega, by omega⟩, if_pos ⟨sp0, sp1⟩] at e1
    simp only [Option.bind_some, psh_r] at e1
    generalize hkd : (cfM I).2.2.2.1 ch = kd at *
    have bc := cB (818 + kd)
    have c53 : ev (d + 99) 53 0 [(2, 36), (0, kd)] [] S K = some ((0, if kd = 0 then 0 else σ (818 + kd)), S, K) := by
      rw [E53_0 (DA36 hQ), w_small (z := kd) (by omega) (by omega), E53_18, E53_19]
      by_cases g : kd = 0
      · rw [if_neg (by omega), if_pos g, E53_19]
      · rw [if_pos (by omega), if_pos (by omega), gdR_pos (by omega), (k2.2.1.2.1 kd (by omega) (by omega)).2, if_neg g]
    rw [E167_27 (Or.inr hL) hQ, if_neg (by omega), kf, c53, w_small (z := kd) (by omega) (by omega)] at e1
    simp only [Option.bind_some, psh_i] at e1
    have bx : -2147483648 ≤ (if kd = 0 then 0 else σ (818 + kd)) ∧ (if kd = 0 then 0 else σ (818 + kd)) < 2147483648 := by split <;> omega
    generalize hx : (if kd = 0 then 0 else σ (818 + kd)) = x at *
    obtain ⟨A, a1, a2, a3⟩ := c_tell2 (d := d + 97) (S := S) (I := K) (x := kd) (y := x) (RA3 hQ)
    rw [E167_55 (RA3 hQ), w_small bx.1 bx.2, a1] at e1
    simp only [Option.bind_some, psh_u] at e1
    rw [E167_59] at e1
    have ot : OT I A := OT_trans (OT_36 (OUTB_trans j3 k3)) (OT_TF a3)
    generalize hg : updR (updR (fun _ => 0) 0 kd) 1 x = gg at a2
    have gg0 : gg 0 = kd := by rw [← hg]; rfl
    have gg1 : gg 1 = x := by rw [← hg]; rfl
    have x0 : cfM (up2 A 427 0 0) = cfM I := (cfM_mem (up2_miss (by decide)) (up2_oth (by decide)) (up2_oth (by decide)) (up2_oth (by decide)) (up2_oth (by decide))).trans (OT_cfM ot)
    have x38 : up2 A 427 0 0 438 = I 438 := by rw [up2_oth (by decide)]; exact OT_up ot (by decide) (by decide)
    have any := m_any (d := d + 97) (S := S) (I := up2 A 427 0 0) (r := 438) hM (Or.inl rfl) (by rw [x0]; exact hk) (by rw [x38]; exact BdN_Bd hB (by omega))
    rw [x0, x38, if_pos ga] at any
    have mc1 := mc (setR (up2 A 427 0 0) 439 (tau I)) ((cfM_setR (Or.inr rfl)).trans x0) setR_same
    rw [(cfM_setR (Or.inr rfl)).trans x0, setR_same, hch, hσ, setR_set] at mc1
    generalize hZ : setR (up2 A 427 0 0) 439 σ = Z at mc1
    have z9 : Z 439 = σ := by rw [← hZ]; exact setR_same
    have zo : ∀ y, y ≠ 439 → Z y = up2 A 427 0 0 y := fun y hy => by rw [← hZ]; exact setR_oth hy
    have z6 : Z 436 ch = kd := by rw [zo 436 (by decide), up2_oth (by decide), OT_up ot (by decide) (by decide)]; exact hkd
    obtain ⟨B, p1, p2, p3⟩ := m_next (d := d + 99) (S := S) (g := gg) (n := 0) (x := kd) (I := up2 Z 427 1 0) hM MD_0 (by decide) (by decide) (by rw [gg0])
    obtain ⟨B2, q1, q2, q3⟩ := m_next (d := d + 99) (S := S) (g := gg) (n := 0 + 1) (x := x) (I := B) hM p2 (by decide) (by decide) (by rw [Int.zero_add, gg1])
    have b39 : B 439 = σ := by rw [p3.2 439 (by decide) (by decide), up2_oth (by decide), z9]
    have b36 : B 436 ch = kd := by rw [p3.2 436 (by decide) (by decide), up2_oth (by decide), z6]
    refine ⟨ch, A, B2, e1, ?_, tri_ST h ot (fun y y0 y1 y2 _ _ _ _ _ => by rw [q3.2 y y0 y1, p3.2 y y0 y1, up2_oth y0, zo y y2, up2_oth y0]) (fun k hk => by rw [q3.1 k (by omega), p3.1 k (by omega), up2_miss (by omega), zo 427 (by decide), up2_miss (by omega)]) (cR_of (TD_congr a2 (by rw [q3.2 3 (by decide) (by decide), p3.2 3 (by decide) (by decide), up2_oth (by decide), zo 3 (by decide), up2_oth (by decide)]) (by rw [q3.2 4 (by decide) (by decide), p3.2 4 (by decide) (by decide), up2_oth (by decide), zo 4 (by decide), up2_oth (by decide)])) q2 (by decide) (by decide)) (by rw [q3.2 439 (by decide) (by decide), b39]; exact BdN_le cB (by omega))⟩
    rw [E279_0 hM, any]
    simp only [Option.bind_some, psh_i]
    rw [E279_13 hM, if_neg (by decide), m_cop hM ot (fun y hy => up2_oth hy)]
    simp only [Option.bind_some, psh_u]
    rw [E279_23 hM, mc1]
    simp only [Option.bind_some, psh_i]
    rw [E279_31 hM, w_small (z := ch) (by omega) (by omega), gdR_pos (by omega), z6, w_small (z := kd) (by omega) (by omega), p1]
    simp only [Option.bind_some, psh_u]
    rw [E279_48 hM, w_small (z := ch) (by omega) (by omega), gdR_pos (by omega), b36, w_small (z := kd) (by omega) (by omega), gdR_pos (by omega), w_small (z := 818 + kd) (by omega) (by omega), gdR_pos (by omega), b39, w_small (z := σ (818 + kd)) (by omega) (by omega), E279_78 hM, E279_78 hM]
    have q1' : ev (d + 99) 255 0 [(2, 427), (1, if kd = 0 then 0 else σ (818 + kd)), uU] [] S B = some (uU, S, B2) := by rw [hx]; exact q1
    by_cases g : kd = 0
    · rw [if_pos g] at q1'
      rw [if_pos g, q1']
      simp only [Option.bind_some, psh_u]
      rw [E279_81]
    · rw [if_neg g] at q1'
      rw [if_neg g, q1']
      simp only [Option.bind_some, psh_u]
      rw [E279_81]
  · have gt : anyS (cfM I) (tau I) ≠ true := by rw [any_tau hk]; exact ga
    rw [c_choose0 (DA36 hQ) j2.1 j2.2.2.2.2.1 hk tBd gt] at e1
    simp only [Option.bind_some, psh_i] at e1
    rw [E167_18 hQ, c_lane (DA36 hQ) j2.1 hk ⟨by decide, by decide⟩, if_neg (by omega)] at e1
    simp only [Option.bind_some, psh_r] at e1
    rw [E167_27 (Or.inl rfl) hQ, if_pos rfl] at e1
    have ot : OT I J := OT_36 j3
    have x0 : cfM (up2 J 427 0 0) = cfM I := (cfM_mem (up2_miss (by decide)) (up2_oth (by decide)) (up2_oth (by decide)) (up2_oth (by decide)) (up2_oth (by decide))).trans (OT_cfM ot)
    have x38 : up2 J 427 0 0 438 = I 438 := by rw [up2_oth (by decide)]; exact OT_up ot (by decide) (by decide)
    have any := m_any (d := d + 97) (S := S) (I := up2 J 427 0 0) (r := 438) hM (Or.inl rfl) (by rw [x0]; exact hk) (by rw [x38]; exact BdN_Bd hB (by omega))
    rw [x0, x38, if_neg ga] at any
    refine ⟨-2, J, up2 J 427 0 0, e1, ?_, tri_ST h ot (fun y y0 _ _ _ _ _ _ _ => by rw [up2_oth y0]) (fun k hk => up2_miss (by omega)) (cR_mem h.2.1 (by rw [up2_oth (by decide), j3 3 (by decide)]) (by rw [up2_oth (by decide), j3 4 (by decide)]) (by rw [up2_oth (by decide), j3 428 (by decide)]) (by rw [up2_miss (by decide), j3 427 (by decide)])) (by rw [up2_oth (by decide), OT_up ot (by decide) (by decide)]; exact BdN_le h.2.2.2.2.2.2.2.2.1 (by omega))⟩
    rw [E279_0 hM, any]
    simp only [Option.bind_some, psh_i]
    rw [E279_13 hM, if_pos (by decide)]
theorem call_needs (hS : SH S) (h : ST N I) (hN0 : 100 ≤ N) (hN : N < 70000000) (hq : isI q) : ∃ r I1 I2, ev (d + 100) 172 0 [(2, 0), (0, q), uU, uU, uU] [] S I = some ((0, r), S, I1) ∧ ev (d + 100) 288 0 [(2, 427), (0, q), uU] [] S I1 = some ((0, r), S, I2) ∧ ST (N + 100000) I2 := by
  obtain ⟨hQ, hM⟩ := hS
  have hk := h.2.2.2.1.1
  have hn5 := hk.2.1
  have hD := h.2.2.2.1.2
  have hB := h.2.2.2.2.2.2.2.1
  have tB := tau_B h
  obtain ⟨tW, tL⟩ := tau_GD h
  have tC := WF_Cn tW.1 tB (by omega)
  obtain ⟨J, j1, j2, j3⟩ := tri_beg (d := d + 98) (S := S) hQ h
  obtain ⟨K, k1, k2, k3⟩ := c_bell (d := d + 97) (S := S) (b := 36) (by decide) (DA36 hQ) j2 tW hk tB (by omega) hq
  have cB := (ringsS_WF (q := q) tW hk tB hN0).2.1
  have rb := ringsS_b (C := cfM I) (ρ := tau I) (q := q)
  have mr := fun (Z : II) (z1 : cfM Z = cfM I) (z2 : Z 439 = tau I) => m_rings (d := d + 97) (S := S) (I := Z) (r := 439) (q := q) hM (Or.inr rfl) (by rw [z1]; exact hk) (by rw [z2]; exact tC) hq
  have rn : ¬ (0 ≤ q ∧ q < (cfM I).1) → (ringsS (cfM I) (tau I) q).1 = -1 := fun g => by rw [ringsS_eq, if_neg g]
  have ot0 : OT I K := OT_36 (OUTB_trans j3 k3)
  have k5 : RelD (cfM I) K 5 (I 438) := RelD_mem hD.1 hD.2.1.1 (fun x x0 x1 => OT_lo ot0 x0 (by omega))
  have e1 := E172_0 (d := d + 99) (I := I) (a1 := q) hQ
  rw [j1] at e1
  simp only [Option.bind_some, psh_u] at e1
  rw [E172_11 hQ, k1] at e1
  simp only [Option.bind_some, psh_i] at e1
  rw [E172_19 hQ, c_lane (DA5 hQ) k5.1 hk hq] at e1
  simp only [Option.bind_some, psh_r] at e1
  rw [E172_28 hQ, c_lane (DA36 hQ) k2.1 hk hq] at e1
  simp only [Option.bind_some, psh_r] at e1
  generalize hr : (ringsS (cfM I) (tau I) q).1 = r at *
  generalize hσ : (ringsS (cfM I) (tau I) q).2 = σ at *
  have rf : ∀ Z : II, OT I Z → ev (d + 100) 288 0 [(2, 427), (0, q), uU] [] S Z = ev (d + 100) 288 10 [(2, 427), (0, q), uU] [(0, if 0 ≤ q ∧ q < (cfM I).1 then 1 else 0)] S (up2 Z 427 0 0) := by
    intro Z hZ
    rw [E288_0 hM, m_isQ0 (d := d + 98) hM (by rw [OT_cfM hZ]; exact hk) hq, OT_cfM hZ]
    simp only [Option.bind_some, psh_i]
  have rg : ∀ Z : II, OT I Z → ev (d + 100) 288 10 [(2, 427), (0, q), uU] [(0, 1)] S (up2 Z 427 0 0) = ev (d + 100) 288 28 [(2, 427), (0, q), uU] [(0, r)] S (setR (up2 Z 427 0 0) 439 σ) := by
    intro Z hZ
    have x0 : cfM (up2 Z 427 0 0) = cfM I := (cfM_mem (up2_miss (by decide)) (up2_oth (by decide)) (up2_oth (by decide)) (up2_oth (by decide)) (up2_oth (by decide))).trans (OT_cfM hZ)
    have m1 := mr (setR (up2 Z 427 0 0) 439 (tau I)) ((cfM_setR (Or.inr rfl)).trans x0) setR_same
    rw [(cfM_setR (Or.inr rfl)).trans x0, setR_same, hr, hσ, setR_set] at m1
    rw [E288_10 hM, if_neg (by decide), m_cop hM hZ (fun y hy => up2_oth hy)]
    simp only [Option.bind_some, psh_u]
    rw [E288_19 hM, m1]
    simp only [Option.bind_some, psh_i]
  have cRK : ∀ Z : II, (∀ x, x ≠ 439 → Z x = up2 K 427 0 0 x) → cR Z := fun Z hZ => cR_mem h.2.1 (by rw [hZ 3 (by decide), up2_oth (by decide), k3 3 (by decide), j3 3 (by decide)]) (by rw [hZ 4 (by decide), up2_oth (by decide), k3 4 (by decide), j3 4 (by decide)]) (by rw [hZ 428 (by decide), up2_oth (by decide), k3 428 (by decide), j3 428 (by decide)]) (by rw [hZ 427 (by decide), up2_miss (by decide), k3 427 (by decide), j3 427 (by decide)])
  by_cases g : 0 ≤ q ∧ q < (cfM I).1
  · have q5 : q < 5 := by omega
    have hL5 := DA_lane (DA5 hQ) g.1 q5
    have hL36 := DA_lane (DA36 hQ) g.1 q5
    have hK := isRw_K hM (Or.inl rfl : isRw 438)
    have hK9 := isRw_K hM (Or.inr rfl : isRw 439)
    rw [if_pos g, if_pos g, E172_37 (Or.inr hL5) (Or.inr hL36) hQ, w_small (z := r) (by omega) (by omega)] at e1
    by_cases gr : r < 0
    · rw [if_pos gr, E172_70] at e1
      refine ⟨r, K, setR (up2 K 427 0 0) 439 σ, e1, ?_, tri_ST h ot0 (fun y y0 _ y2 _ _ _ _ _ => by rw [setR_oth y2, up2_oth y0]) (fun k hk => by rw [setR_oth (by decide)]; exact up2_miss (by omega)) (cRK _ (fun x hx => setR_oth hx)) (by rw [setR_same]; exact BdN_le cB (by omega))⟩
      rw [rf K ot0, if_pos g, rg K ot0, E288_28 hM, w_small (z := r) (by omega) (by omega), if_pos gr]
    · have l5 := (k5.2.2.2.2.1 q g.1 q5).1.2.2.2.2.1
      have l36 := (k2.2.2.2.2.1 q g.1 q5).1.2.2.2.2.1
      obtain ⟨A, a1, a2, a3⟩ := c_tell1 (d := d + 98) (S := S) (I := K) (x := w (σ (89 * q + 2) - I 438 (89 * q + 2))) (RA3 hQ)
      rw [if_neg gr, if_neg (by omega), if_neg (by omega), l5, l36, a1] at e1
      simp only [Option.bind_some, psh_u] at e1
      rw [E172_70] at e1
      have ot : OT I A := OT_trans ot0 (OT_TF a3)
      generalize hZ : up2 (setR (up2 A 427 0 0) 439 σ) 427 1 0 = Z
      have z9 : Z 439 = σ := by rw [← hZ, up2_oth (by decide), setR_same]
      have zo : ∀ y, y ≠ 439 → y ≠ 427 → Z y = A y := fun y hy hy2 => by rw [← hZ, up2_oth hy2, setR_oth hy, up2_oth hy2]
      have zM : MD Z 0 (updR (fun _ => 0) 0 (w (σ (89 * q + 2) - I 438 (89 * q + 2)))) := by rw [← hZ]; exact MD_0
      have zk : ∀ k, k ≠ 0 → k ≠ 1 → Z 427 k = A 427 k := fun k k0 k1 => by rw [← hZ, up2_miss (by omega), setR_oth (by decide), up2_miss (by omega)]
      obtain ⟨B, p1, p2, p3⟩ := m_next (d := d + 99) (S := S) (x := w (σ (89 * q + 2) - I 438 (89 * q + 2))) hM zM (by decide) (by decide) (by rw [updR_hit rfl])
      refine ⟨r, A, B, e1, ?_, tri_ST h ot (fun y y0 y1 y2 _ _ _ _ _ => by rw [p3.2 y y0 y1, zo y y2 y0]) (fun k hk => by rw [p3.1 k (by omega), zk k (by omega) (by omega)]) (cR_of (TD_congr a2 (by rw [p3.2 3 (by decide) (by decide), zo 3 (by decide) (by decide)]) (by rw [p3.2 4 (by decide) (by decide), zo 4 (by decide) (by decide)])) p2 (by decide) (by decide)) (by rw [p3.2 439 (by decide) (by decide), z9]; exact BdN_le cB (by omega))⟩
      rw [rf A ot, if_pos g, rg A ot, E288_28 hM, w_small (z := r) (by omega) (by omega), if_neg gr, hZ, m_of hK9 (by omega) (by omega), z9]
      simp only [Option.bind_some, psh_i]
      rw [E288_50 hM, m_of hK (by omega) (by omega), zo 438 (by decide) (by decide), OT_up ot (by decide) (by decide)]
      simp only [Option.bind_some, psh_i]
      rw [E288_59 hM, p1]
      simp only [Option.bind_some, psh_u]
      rw [E288_64]
  · have r1 := rn g
    subst r1
    rw [if_neg g, if_neg g, E172_37 (Or.inl rfl) (Or.inl rfl) hQ, if_pos (by decide), E172_70] at e1
    refine ⟨-1, K, up2 K 427 0 0, e1, ?_, tri_ST h ot0 (fun y y0 _ _ _ _ _ _ _ => up2_oth y0) (fun k hk => up2_miss (by omega)) (cRK _ (fun x _ => rfl)) (by rw [up2_oth (by decide), OT_up ot0 (by decide) (by decide)]; exact BdN_le h.2.2.2.2.2.2.2.2.1 (by omega))⟩
    rw [rf K ot0, if_neg g, E288_10 hM, if_pos (by decide)]
end r83
