/-! THE ROW told; completions are TAKEN, by the class */ -/
section r68
variable {d : Nat} {S : SS} {I J : II} {C : CF} {ρ σ : RW} {b q id op bl v k a x y z n : Int}
/-- the row told of the class, of the reference: so many, these -/
def TD (I : II) (n : Int) (f : RW) : Prop := I 3 1 = n ∧ ∀ j, 0 ≤ j → j < n → I 4 j = f j
def MD (I : II) (n : Int) (f : RW) : Prop := I 427 1 = n ∧ ∀ j, 0 ≤ j → j < n → I 428 j = f j
theorem cR_of {f : RW} (h : TD I n f) (g : MD I n f) (h0 : 0 ≤ n) (hl : n ≤ 12) : cR I :=
  ⟨by rw [h.1]; exact h0, by rw [h.1]; exact hl, by rw [h.1, g.1], fun j j0 j1 => by rw [h.1] at j1; rw [h.2 j j0 j1, g.2 j j0 j1]⟩
theorem TD_congr {f : RW} (h : TD I n f) (h3 : J 3 = I 3) (h4 : J 4 = I 4) : TD J n f := by unfold TD at *; rw [h3, h4]; exact h
theorem MD_congr {f : RW} (h : MD I n f) (h3 : J 427 1 = I 427 1) (h4 : J 428 = I 428) : MD J n f := by unfold MD at *; rw [h3, h4]; exact h
def TF (I J : II) : Prop := ∀ c, c ≠ 3 → c ≠ 4 → J c = I c
theorem c_tclr (hR : RA S 3) : ∃ J, ev d 111 0 [(2, 3)] [] S I = some (uU, S, J) ∧ TD J 0 (fun _ => 0) ∧ TF I J := by
  rw [E111_0 hR]
  exact ⟨_, rfl, ⟨up2_hit rfl rfl, fun j j0 j1 => by omega⟩, fun c h3 _ => up2_oth h3⟩
theorem c_tadd {f : RW} (hR : RA S 3) (h : TD I n f) (h0 : 0 ≤ n) (h1 : n < 12) : ∃ J, ev d 112 0 [(2, 3), (1, x), uU] [] S I = some (uU, S, J) ∧ TD J (n + 1) (updR f n x) ∧ TF I J := by
  obtain ⟨e1, e2⟩ := h
  rw [E112_0 hR, e1, w_small (z := n) (by omega) (by omega), if_pos h1, gdR_pos (by omega), E112_29]
  refine ⟨_, rfl, ⟨up2_hit rfl rfl, fun j j0 j1 => ?_⟩, fun c h3 h4 => by rw [up2_oth h3, up2_oth h4]⟩
  rw [up2_oth (by decide)]
  by_cases e : j = n
  · rw [up2_hit rfl e, updR_hit e]
  · rw [up2_miss (by omega), updR_miss e]; exact e2 j j0 (by omega)
theorem c_tadd12 {f : RW} (hR : RA S 3) (h : TD I 12 f) : ev d 112 0 [(2, 3), (1, x), uU] [] S I = some (uU, S, I) := by
  rw [E112_0 hR, h.1, w_small (z := 12) (by decide) (by decide), if_neg (by decide), E112_29]
theorem c_tell1 (hR : RA S 3) : ∃ J, ev (d + 1) 110 0 [(2, 3), (1, x), uU] [] S I = some (uU, S, J) ∧ TD J 1 (updR (fun _ => 0) 0 x) ∧ TF I J := by
  obtain ⟨A, a1, a2, a3⟩ := c_tclr (d := d) (I := I) hR
  obtain ⟨B, b1, b2, b3⟩ := c_tadd (d := d) (x := x) hR a2 (by decide) (by decide)
  rw [E110_0 hR, a1]
  simp only [Option.bind_some, psh_u]
  rw [E110_4 hR, b1]
  simp only [Option.bind_some, psh_u]
  rw [E110_9]
  exact ⟨B, rfl, b2, fun c h3 h4 => (b3 c h3 h4).trans (a3 c h3 h4)⟩
theorem c_tell2 (hR : RA S 3) : ∃ J, ev (d + 2) 109 0 [(2, 3), (1, x), uU, (1, y), uU] [] S I = some (uU, S, J) ∧ TD J 2 (updR (updR (fun _ => 0) 0 x) 1 y) ∧ TF I J := by
  obtain ⟨A, a1, a2, a3⟩ := c_tell1 (d := d) (I := I) (x := x) hR
  obtain ⟨B, b1, b2, b3⟩ := c_tadd (d := d + 1) (x := y) hR a2 (by decide) (by decide)
  rw [E109_0 hR, a1]
  simp only [Option.bind_some, psh_u]
  rw [E109_5 hR, b1]
  simp only [Option.bind_some, psh_u]
  rw [E109_10]
  exact ⟨B, rfl, b2, fun c h3 h4 => (b3 c h3 h4).trans (a3 c h3 h4)⟩
theorem c_tell3 (hR : RA S 3) : ∃ J, ev (d + 3) 113 0 [(2, 3), (1, x), uU, (1, y), uU, (1, z), uU] [] S I = some (uU, S, J) ∧ TD J 3 (updR (updR (updR (fun _ => 0) 0 x) 1 y) 2 z) ∧ TF I J := by
  obtain ⟨A, a1, a2, a3⟩ := c_tell2 (d := d) (I := I) (x := x) (y := y) hR
  obtain ⟨B, b1, b2, b3⟩ := c_tadd (d := d + 2) (x := z) hR a2 (by decide) (by decide)
  rw [E113_0 hR, a1]
  simp only [Option.bind_some, psh_u]
  rw [E113_6 hR, b1]
  simp only [Option.bind_some, psh_u]
  rw [E113_12]
  exact ⟨B, rfl, b2, fun c h3 h4 => (b3 c h3 h4).trans (a3 c h3 h4)⟩
/-- the reference enters a number -/
theorem m_ent {f : RW} (hM : MA S 427) (h : MD I n f) (h0 : 0 ≤ n) (h1 : n < 24) : ∃ J, ev d 255 0 [(2, 427), (1, x), uU] [] S I = some (uU, S, J) ∧ MD J (n + 1) (updR f n x) ∧ (∀ k, k ≠ 1 → J 427 k = I 427 k) ∧ ∀ c, c ≠ 427 → c ≠ 428 → J c = I c := by
  obtain ⟨e1, e2⟩ := h
  rw [E255_0 hM, e1, w_small (z := n) (by omega) (by omega), gdR_pos (by omega)]
  refine ⟨_, rfl, ⟨up2_hit rfl rfl, fun j j0 j1 => ?_⟩, fun k hk => by rw [up2_miss (by omega), up2_oth (by decide)], fun c h3 h4 => by rw [up2_oth h3, up2_oth h4]⟩
  rw [up2_oth (by decide)]
  by_cases e : j = n
  · rw [up2_hit rfl e, updR_hit e]
  · rw [up2_miss (by omega), updR_miss e]; exact e2 j j0 (by omega)
/-- one is TAKEN from a QUEUE's places */ -/
theorem tak_WF (h : WF C ρ) (h0 : 0 ≤ q) (h1 : q < 5) (ht : ρ (89 * q + 6) ≠ ρ (89 * q + 5)) : WF C (takR ρ q) ∧ (∀ z, cnt (takR ρ q) z = cnt ρ z - (if 16 * q + ρ (pAt q (ρ (89 * q + 6))) = z then 1 else 0)) ∧ ∀ j, 445 ≤ j → takR ρ q j = ρ j := by
  have cc := fun z => tak_cnt (z := z) h.1 h0 h1 ht
  refine ⟨⟨tak_W0 h.1 h0 h1 ht, fun z => ?_⟩, cc, fun j g => by unfold takR; rw [updR_miss (by omega), updR_miss (by omega)]⟩
  have := h.2 z
  have := @ite01 (16 * q + ρ (pAt q (ρ (89 * q + 6))) = z) _
  rw [cc]; omega
theorem BdN_tak {N : Int} (h : BdN N ρ) : BdN (N + 1) (takR ρ q) := by
  have b6 := h (89 * q + 6)
  have h' := BdN_le h (show N ≤ N + 1 by omega)
  exact BdN_upd (BdN_upd h' (by omega) (by omega)) (h' _).1 (h' _).2
theorem takesS_eq : takesS C ρ q = if 0 ≤ q ∧ q < C.1 then (if ρ (89 * q + 6) = ρ (89 * q + 5) then (-2, ρ) else (pAt q (ρ (89 * q + 6)), takR ρ q)) else (-1, ρ) := rfl
theorem takesS_WF {N : Int} (h : WF C ρ) (hk : okC C) (hB : BdN N ρ) : WF C (takesS C ρ q).2 ∧ BdN (N + 1) (takesS C ρ q).2 ∧ (∀ lo, lftOK lo ρ → lftOK lo (takesS C ρ q).2) := by
  have hn := hk.2.1
  have hB' := BdN_le hB (show N ≤ N + 1 by omega)
  rw [takesS_eq]
  by_cases g : 0 ≤ q ∧ q < C.1
  · rw [if_pos g]
    by_cases g1 : ρ (89 * q + 6) = ρ (89 * q + 5)
    · rw [if_pos g1]; exact ⟨h, hB', fun _ hl => hl⟩
    · rw [if_neg g1]
      obtain ⟨w1, w2, w3⟩ := tak_WF h g.1 (show q < 5 by omega) g1
      exact ⟨w1, BdN_tak hB, fun lo hl => lftOK_congr (fun j j0 j1 => w3 j j0) h.1.2.1.2.1 hl⟩
  · rw [if_neg g]; exact ⟨h, hB', fun _ hl => hl⟩
theorem pkP_bd (hW : W0 C ρ) (h0 : 0 ≤ q) (h1 : q < 5) (k0 : ρ (89 * q + 6) ≤ k) (k1 : k < ρ (89 * q + 5)) : bdD q (ρ (pAt q k)) (ρ (pAt q k + 1)) (ρ (pAt q k + 2)) := by
  have := (hW.1 q h0 h1).2.2 k k0 k1
  unfold bdD; omega
theorem E91_9s {a0 s1 : Int} (h2 : LA S a0) : ev (d + 1) 91 9 [(2, a0)] [(0, s1), (2, a0)] S I = (ev d 88 0 [(2, a0), (0, I a0 10)] [] S (up2 I a0 8 s1)).bind (fun q => ev (d + 1) 91 26 [(2, a0)] (psh q.1 [(0, 1), (0, I a0 13), (2, a0)]) q.2.1 q.2.2) := by
  refine (sx_pfI (q := (3, 8, 0, 95)) (j := 8) D91_9 (by decide +kernel) (by decide) (by decide) (LA_o h2) rfl).trans ?_
  refine (sx_aload_n D91_12 rfl).trans ?_
  refine (sx_dup D91_13 (by decide)).trans ?_
  refine (sx_gfI (q := (3, 13, 0, 103)) (j := 13) D91_14 (by decide +kernel) (by decide +kernel) (by decide) (LA_o h2) rfl (up2_slot (by decide))).trans ?_
  refine (sx_iconst D91_17).trans ?_
  refine (sx_aload_n D91_18 rfl).trans ?_
  refine (sx_aload_n D91_19 rfl).trans ?_
  refine (sx_gfI (q := (3, 10, 0, 98)) (j := 10) D91_20 (by decide +kernel) (by decide +kernel) (by decide) (LA_o h2) rfl (up2_slot (by decide))).trans ?_
  exact sx_virt (c := 5) (ag := [(2, a0), (0, I a0 10)]) (r := [(0, 1), (0, I a0 13), (2, a0)]) (al' := [(2, a0), (0, I a0 10)]) (np := 1) (nl := 2) (q := (1, 88, 772)) D91_23 (by decide +kernel) (by decide) mP_88 mL_88 mC_88 (Nat.le_of_ble_eq_true rfl) rfl rfl (by simp [cat]) (by decide) (LA_o h2) rfl rfl
theorem E91_29s {a0 s1 s2 s3 : Int} (h2 : LA S a0) : ev d 91 29 [(2, a0)] [(0, s3), (0, s2), (0, s1), (2, a0)] S I = some (uU, S, (up2 (up2 I a0 13 (iAnd s1 (iXor (iShl s2 s3) (-1)))) a0 10 ((I a0 10) + 1))) := by
  refine (sx_ishl D91_29).trans ?_
  refine (sx_iconst D91_30).trans ?_
  refine (sx_ixor D91_31).trans ?_
  refine (sx_iand D91_32).trans ?_
  refine (sx_pfI (q := (3, 13, 0, 103)) (j := 13) D91_33 (by decide +kernel) (by decide) (by decide) (LA_o h2) rfl).trans ?_
  refine (sx_aload_n D91_36 rfl).trans ?_
  refine (sx_dup D91_37 (by decide)).trans ?_
  refine (sx_gfI (q := (3, 10, 0, 98)) (j := 10) D91_38 (by decide +kernel) (by decide +kernel) (by decide) (LA_o h2) rfl (up2_slot (by decide))).trans ?_
  refine (sx_iconst D91_41).trans ?_
  refine (sx_iadd D91_42).trans ?_
  refine (sx_pfI (q := (3, 10, 0, 98)) (j := 10) D91_43 (by decide +kernel) (by decide) (by decide) (LA_o h2) rfl).trans ?_
  exact sx_return D91_46 (by decide +kernel)
theorem c_laneTake (hb : 0 ≤ b) (hD : DA S b) (h : RelD C I b ρ) (hw : WF C ρ) (h0 : 0 ≤ q) (h1 : q < 5) (ht : ρ (89 * q + 6) ≠ ρ (89 * q + 5)) :
    ∃ J, ev (d + 1) 91 0 [(2, b + 11 + 4 * q)] [] S I = some (uU, S, J) ∧ RelD C J b (takR ρ q) ∧ (∀ x, x ≠ b + 11 + 4 * q → J x = I x) := by
  have hL := DA_lane hD h0 h1
  have hl := h.2.2.2.2.1 q h0 h1
  have hbit := h.2.2.2.2.2
  have qo := hw.1.1 q h0 h1
  have c1 := qo.1
  unfold cntsOK at c1
  have p0 := qo.2.2 (ρ (89 * q + 6)) (Int.le_refl _) (by omega)
  have bd := pkP_bd hw.1 h0 h1 (Int.le_refl (ρ (89 * q + 6))) (by omega)
  obtain ⟨⟨l0, l3, f4, f5, f6, f7, f8, f9, f10, f11, f12⟩, lr, lp, l13⟩ := id hl
  obtain ⟨e2, e3⟩ := lp _ (Int.le_refl _) (show ρ (89 * q + 6) < ρ (89 * q + 5) by omega)
  obtain ⟨t1, t2, t3⟩ := tak_WF hw h0 h1 ht
  have oth : ∀ j, j ≠ 89 * q + 4 → j ≠ 89 * q + 6 → takR ρ q j = ρ j := fun j h2 h3 => by unfold takR; rw [updR_miss h2, updR_miss h3]
  have r4 : takR ρ q (89 * q + 4) = ρ (pAt q (ρ (89 * q + 6)) + 3) := by unfold takR; exact updR_hit rfl
  have r6 : takR ρ q (89 * q + 6) = ρ (89 * q + 6) + 1 := by unfold takR; simp (disch := omega) only [updR_miss, updR_hit]
  rw [E91_0 hL, E89_0 hL, f10, e3]
  simp only [Option.bind_some, psh_i]
  have k8 : ∀ v k : Int, k ≠ 8 → up2 I (b + 11 + 4 * q) 8 v (b + 11 + 4 * q) k = I (b + 11 + 4 * q) k := fun v k hk => up2_miss (by omega)
  rw [E91_9s hL, E88_0 hL, f10, up2_oth (show b + 11 + 4 * q + 2 ≠ b + 11 + 4 * q by omega), e2]
  simp only [Option.bind_some, psh_i]
  unfold pkP
  rw [E91_26, c_did bd]
  simp only [Option.bind_some, psh_i]
  rw [E91_29s hL, k8 _ 10 (by decide), f10]
  have id0 : 0 ≤ ρ (pAt q (ρ (89 * q + 6))) ∧ ρ (pAt q (ρ (89 * q + 6))) < 16 := ⟨p0.1, p0.2.1⟩
  obtain ⟨u0, u1, u2⟩ := bit_clr l13.1 l13.2 id0.1 id0.2
  generalize hG : up2 (up2 (up2 I (b + 11 + 4 * q) 8 (ρ (pAt q (ρ (89 * q + 6)) + 3))) (b + 11 + 4 * q) 13 (iAnd (I (b + 11 + 4 * q) 13) (iXor (iShl 1 (ρ (pAt q (ρ (89 * q + 6))))) (-1)))) (b + 11 + 4 * q) 10 (ρ (89 * q + 6) + 1) = G
  have gx : ∀ x, x ≠ b + 11 + 4 * q → G x = I x := fun x hx => by rw [← hG, up2_oth hx, up2_oth hx, up2_oth hx]
  have gk : ∀ k, k ≠ 8 → k ≠ 10 → k ≠ 13 → G (b + 11 + 4 * q) k = I (b + 11 + 4 * q) k := fun k x0 x1 x2 => by rw [← hG, up2_miss (by omega), up2_miss (by omega), up2_miss (by omega)]
  have g8 : G (b + 11 + 4 * q) 8 = ρ (pAt q (ρ (89 * q + 6)) + 3) := by rw [← hG, up2_miss (by omega), up2_miss (by omega), up2_hit rfl rfl]
  have g10 : G (b + 11 + 4 * q) 10 = ρ (89 * q + 6) + 1 := by rw [← hG, up2_hit rfl rfl]
  have g13 : G (b + 11 + 4 * q) 13 = iAnd (I (b + 11 + 4 * q) 13) (iXor (iShl 1 (ρ (pAt q (ρ (89 * q + 6))))) (-1)) := by rw [← hG, up2_miss (by omega), up2_hit rfl rfl]
  refine ⟨G, rfl, RelD_q h hw.1 h0 h1 (fun x x0 x1 x2 => gx x (by omega)) (fun j hj => oth j (by omega) (by omega)) ⟨?_, ⟨fun k k0 k1 => ?_, by rw [gx _ (by omega)]; exact lr.2⟩, fun k k0 k1 => ?_, by rw [g13]; exact ⟨u0, u1⟩⟩ (fun q' id q0 q1 i0 i1 => ?_), gx⟩
  · unfold lanfR
    rw [g8, g10, gk 0 (by decide) (by decide) (by decide), gk 1 (by decide) (by decide) (by decide), gk 2 (by decide) (by decide) (by decide), gk 3 (by decide) (by decide) (by decide), gk 4 (by decide) (by decide) (by decide), gk 5 (by decide) (by decide) (by decide), gk 6 (by decide) (by decide) (by decide), gk 7 (by decide) (by decide) (by decide), gk 9 (by decide) (by decide) (by decide), gk 11 (by decide) (by decide) (by decide), gk 12 (by decide) (by decide) (by decide), r4, r6, oth _ (by omega) (by omega), oth _ (by omega) (by omega), oth _ (by omega) (by omega), oth _ (by omega) (by omega), oth _ (by omega) (by omega), oth _ (by omega) (by omega), oth _ (by omega) (by omega)]
    exact ⟨l0, l3, f4, f5, f6, f7, rfl, f9, rfl, f11, f12⟩
  · rw [oth _ (by omega) (by omega)] at k0 k1
    have rb := rAt_b (q := q) (k := k) h0 h1
    rw [gx _ (by omega), lr.1 k k0 k1, pkA_congr (fun j j0 j1 => oth _ (by omega) (by omega))]
  · rw [r6] at k0
    rw [oth _ (by omega) (by omega)] at k1
    have pb := pAt_b (q := q) (k := k) h0 h1
    have := lp k (by omega) k1
    unfold pkP at *
    rw [gx _ (by omega), gx _ (by omega), oth _ (by omega) (by omega), oth _ (by omega) (by omega), oth _ (by omega) (by omega), oth _ (by omega) (by omega)]
    exact this
  · rw [t2]
    by_cases e : q' = q
    · subst e
      rw [g13, u2 _ (by omega), hbit q' id q0 q1 i0 i1]
      by_cases e2 : ρ (pAt q' (ρ (89 * q' + 6))) = id
      · have := hw.2 (16 * q' + id)
        rw [e2, if_pos rfl]
        simp; omega
      · have ne : ¬ (ρ (pAt q' (ρ (89 * q' + 6)))).toNat = id.toNat := by omega
        rw [if_neg (by omega)]
        simp [ne]
    · rw [gx _ (by omega), hbit q' id q0 q1 i0 i1, if_neg (by omega), Int.sub_zero]
/-- a completion is TAKEN: what is told of it */ -/
theorem c_take {N : Int} (hb : 5 ≤ b) (hD : DA S b) (hR : RA S 3) (h : RelD C I b ρ) (hw : WF C ρ) (hk : okC C) (hB : BdN N ρ) (hN : N < 1073741824) (hq : isI q) :
    ∃ J, ev (d + 5) 39 0 [(2, b), (0, q), (2, 3), uU, uU] [] S I = some ((0, if (takesS C ρ q).1 < 0 then (takesS C ρ q).1 else 10 * ρ (takesS C ρ q).1 + ρ ((takesS C ρ q).1 + 1)), S, J) ∧ RelD C J b (takesS C ρ q).2 ∧
      ((takesS C ρ q).1 < 0 → J = I) ∧ (0 ≤ (takesS C ρ q).1 → TD J 3 (updR (updR (updR (fun _ => 0) 0 (ρ ((takesS C ρ q).1 + 2))) 1 (ρ ((takesS C ρ q).1 + 3))) 2 (ρ ((takesS C ρ q).1 + 4)))) ∧ (∀ x, (x < b ∨ b + 31 ≤ x) → x ≠ 3 → x ≠ 4 → J x = I x) := by
  have hn := hk.2.1
  rw [E39_0 hD, c_lane hD h.1 hk hq, takesS_eq]
  simp only [Option.bind_some, psh_r]
  by_cases g : 0 ≤ q ∧ q < C.1
  · have q5 : q < 5 := by omega
    have hL := DA_lane hD g.1 q5
    have hl := h.2.2.2.2.1 q g.1 q5
    have kk := hk.2.2 q g.1 g.2
    have qo := hw.1.1 q g.1 q5
    have c1 := qo.1
    unfold cntsOK at c1
    have b5 := hB (89 * q + 5)
    have b6 := hB (89 * q + 6)
    obtain ⟨⟨l0, l3, f4, f5, f6, f7, f8, f9, f10, f11, f12⟩, lr, lp, l13⟩ := id hl
    obtain ⟨k0, k1, k2, k3⟩ := l0 g.2
    rw [if_pos g, if_pos g, E39_5 (Or.inr hL), if_neg (by omega), f10, f9, w_small (z := ρ (89 * q + 6)) (by omega) (by omega), w_small (z := ρ (89 * q + 5)) (by omega) (by omega)]
    by_cases g1 : ρ (89 * q + 6) = ρ (89 * q + 5)
    · rw [if_pos g1, if_neg (by omega), if_pos (show ((-2 : Int), ρ).1 < 0 from (by decide : (-2 : Int) < 0))]
      exact ⟨I, rfl, h, fun _ => rfl, fun e => absurd e (show ¬ (0 : Int) ≤ -2 by decide), fun _ _ _ _ => rfl⟩
    · have bd := pkP_bd hw.1 g.1 q5 (Int.le_refl (ρ (89 * q + 6))) (by omega)
      have p0 := qo.2.2 (ρ (89 * q + 6)) (Int.le_refl _) (by omega)
      obtain ⟨e2, e3⟩ := lp _ (Int.le_refl _) (show ρ (89 * q + 6) < ρ (89 * q + 5) by omega)
      have pb := pAt_b (q := q) (k := ρ (89 * q + 6)) g.1 q5
      have ph : ev (d + 4) 90 0 [(2, b + 11 + 4 * q), (0, ρ (89 * q + 6))] [] S I = some ((0, ρ (pAt q (ρ (89 * q + 6)) + 4)), S, I) := by
        have dv0 : 0 ≤ ρ (89 * q + 6) / C.2.2.1 q := Int.ediv_nonneg (by omega) (by omega)
        have dv1 : ρ (89 * q + 6) / C.2.2.1 q ≤ ρ (89 * q + 6) := Int.ediv_le_self _ (by omega)
        rw [E90_0 hL, k1, w_small (z := C.2.2.1 q) (by omega) (by omega), if_pos (by omega), gdR_pos (by omega), iDiv_pos (by omega) (by omega) (by omega) (by omega), iRem_pos dv0 (by omega) (by decide) (by decide), E90_22, E90_23, E90_23, p0.2.2.2.2.2.2.2.2.1]
        by_cases e : ρ (89 * q + 6) / C.2.2.1 q % 2 = 0
        · rw [if_pos e, if_pos e]
        · rw [if_neg e, if_neg e]
      have b3 := hB (pAt q (ρ (89 * q + 6)) + 3)
      have b4 := hB (pAt q (ρ (89 * q + 6)) + 4)
      have b2 := hB (pAt q (ρ (89 * q + 6)) + 2)
      rw [if_neg g1, if_pos (by omega), if_neg (by omega), E88_0 hL, e2]
      simp only [Option.bind_some, psh_i]
      unfold pkP
      rw [E39_34, c_dre bd]
      simp only [Option.bind_some, psh_i]
      rw [E39_42 hL, E89_0 hL, f10, e3, w_small (z := ρ (pAt q (ρ (89 * q + 6)) + 2)) (by omega) (by omega)]
      simp only [Option.bind_some, psh_i]
      rw [E39_51 hL, f10, ph, w_small (z := ρ (pAt q (ρ (89 * q + 6)) + 3)) (by omega) (by omega)]
      simp only [Option.bind_some, psh_i]
      obtain ⟨A, a1, a2, a3⟩ := c_tell3 (d := d + 1) (S := S) (I := I) (x := ρ (pAt q (ρ (89 * q + 6)) + 2)) (y := ρ (pAt q (ρ (89 * q + 6)) + 3)) (z := ρ (pAt q (ρ (89 * q + 6)) + 4)) hR
      have hA := RelD_mem h hw.1 (J := A) (fun a a0 a1 => a3 a (by omega) (by omega))
      obtain ⟨G, g2, g3, g4⟩ := c_laneTake (d := d + 3) (S := S) (by omega) hD hA hw g.1 q5 g1
      rw [E39_60 hR, w_small (z := ρ (pAt q (ρ (89 * q + 6)) + 4)) (by omega) (by omega), a1]
      simp only [Option.bind_some, psh_u]
      rw [E39_64 hL, g2]
      simp only [Option.bind_some, psh_u]
      rw [E39_68, c_did bd]
      simp only [Option.bind_some, psh_i]
      rw [E39_75, c_dst bd]
      simp only [Option.bind_some, psh_i]
      rw [E39_81]
      exact ⟨G, rfl, g3, fun e => absurd e (show ¬ pAt q (ρ (89 * q + 6)) < 0 by omega), fun _ => TD_congr a2 (g4 3 (by omega)) (g4 4 (by omega)), fun x hx h3 h4 => (g4 x (by omega)).trans (a3 x h3 h4)⟩
  · rw [if_neg g, if_neg g, E39_5 (Or.inl rfl), if_pos rfl, if_pos (show ((-1 : Int), ρ).1 < 0 from (by decide : (-1 : Int) < 0))]
    exact ⟨I, rfl, h, fun _ => rfl, fun e => absurd e (show ¬ (0 : Int) ≤ -1 by decide), fun _ _ _ _ => rfl⟩
end r68
