/-! what ends is done, by the class */ -/
section r60
variable {d : Nat} {S : SS} {I : II} {C : CF} {ρ σ τ : RW} {b q id op bl va ca st res k a : Int}
/-- what completions and blocks are -/
def DV (I : II) (b : Int) (τ : RW) : Prop := I b 15 = τ 814 ∧ arR I b τ ∧ boxR I b τ
def CK (b : Int) (I J : II) : Prop := (∀ k, k ≠ 15 → J b k = I b k) ∧ ∀ x, x ≠ b → x ≠ b + 2 → x ≠ b + 10 → J x = I x
theorem CK_refl (b : Int) (I : II) : CK b I I := ⟨fun _ _ => rfl, fun _ _ _ _ => rfl⟩
theorem CK_trans {I J G : II} (h : CK b I J) (g : CK b J G) : CK b I G := ⟨fun k hk => (g.1 k hk).trans (h.1 k hk), fun x h1 h2 h3 => (g.2 x h1 h2 h3).trans (h.2 x h1 h2 h3)⟩
theorem arR_out (h : arR I b τ) (h0 : 0 ≤ τ 814) (h8 : τ 814 < 80) {J : II} (hI : ∀ a, b + 2 ≤ a → a ≤ b + 5 → J a = I a) : arR J b (outS τ q id st res) := arR_congr hI (fun j g0 g1 => outS_oth h0 h8 (by omega)) h
theorem c_deliver (hD : DA S b) (h : DV I b τ) (h0 : 0 ≤ τ 814) (h8 : τ 814 < 80) (hc : bdC id op bl va ca) (hd : bdD q id st res) :
    ∃ J, ev (d + 1) 30 0 [(2, b), (0, q), (0, pkC id op bl va ca), (0, st), (0, res)] [] S I = some (uU, S, J) ∧ DV J b (outS τ q id st res) ∧ CK b I J := by
  obtain ⟨e15, ha, hbx⟩ := h
  have hd' := hd
  unfold bdD at hd'
  rw [E30_0 hD, e15, w_small (by omega) (by omega), if_neg (by omega), if_pos (by omega), c_cid hc]
  simp only [Option.bind_some, psh_i]
  rw [E30_29, E7_0, pack_done hd'.1 hd'.2.1 hd'.2.2.1 hd'.2.2.2.1 hd'.2.2.2.2.1 hd'.2.2.2.2.2.1 hd'.2.2.2.2.2.2.1 hd'.2.2.2.2.2.2.2]
  simp only [Option.bind_some, psh_i]
  rw [E30_35 (DA_k16 hD) hD, w_small (by omega) (by omega), gdR_pos (by omega), E30_46, up2_oth (show b ≠ b + 10 by omega), e15]
  refine ⟨_, rfl, ⟨?_, ?_, fun k g0 g1 => ?_⟩, fun k hk => ?_, fun x g0 g1 g2 => ?_⟩
  · rw [up2_hit rfl rfl, outS_814]
  · exact arR_out ha h0 h8 (fun a a0 a1 => by rw [up2_oth (by omega), up2_oth (by omega)])
  · rw [outS_814] at g1
    rw [up2_oth (by omega)]
    by_cases e : k = τ 814
    · subst e
      rw [up2_hit rfl rfl]
      unfold pkO
      rw [outS_q h8, outS_id h8, outS_st h8, outS_re h8]
    · rw [up2_miss (by omega), hbx k g0 (by omega)]
      unfold pkO
      rw [outS_lo h8 (by omega), outS_lo h8 (by omega), outS_lo h8 (by omega), outS_lo h8 (by omega)]
  · rw [up2_miss (by omega), up2_oth (by omega)]
  · rw [up2_oth g0, up2_oth g2]
theorem c_hold {v : Int} (hD : DA S b) (h : DV I b τ) (h0 : 0 ≤ bl) (h1 : bl ≤ 9) (h8 : τ 814 ≤ 80) : ∃ J, ev d 31 0 [(2, b), (0, bl), (0, v)] [] S I = some (uU, S, J) ∧ DV J b (updR τ (828 + bl) v) ∧ CK b I J := by
  obtain ⟨e15, ⟨a1, a2, a3⟩, hbx⟩ := h
  rw [E31_0 hD, w_small (by omega) (by omega), if_neg (by omega), if_pos (by omega), gdR_pos (by omega), E31_17]
  have oo : ∀ j, j ≠ 828 + bl → updR τ (828 + bl) v j = τ j := fun j g => updR_miss g
  refine ⟨_, rfl, ⟨?_, ⟨fun j g0 g1 => ?_, fun c g0 g1 => ?_, fun c g0 g1 => ?_⟩, boxR_congr h8 (up2_oth (by omega)) (fun j g0 g1 => oo j (by omega)) hbx⟩, fun k hk => by rw [up2_oth (by omega)], fun x g0 g1 g2 => up2_oth g1⟩
  · rw [up2_oth (by omega), oo 814 (by omega)]; exact e15
  · by_cases e : j = bl
    · rw [up2_hit rfl e, updR_hit (by omega)]
    · rw [up2_miss (by omega), oo _ (by omega)]; exact a1 j g0 g1
  · rw [up2_oth (by omega), up2_oth (by omega), oo _ (by omega), oo _ (by omega)]; exact a2 c g0 g1
  · rw [up2_oth (by omega), oo _ (by omega)]; exact a3 c g0 g1
theorem c_held (hD : DA S b) (ha : arR I b τ) (h0 : 0 ≤ bl) (h1 : bl ≤ 9) : ev d 29 0 [(2, b), (0, bl)] [] S I = some ((0, τ (828 + bl)), S, I) := by
  rw [E29_0 hD, w_small (by omega) (by omega), if_neg (by omega), if_pos (by omega), gdR_pos (by omega), E29_20, ha.1 bl h0 (by omega)]
/-- one that runs alone is done -/
theorem c_complete (hD : DA S b) (h : DV I b τ) (hW : W0 C τ) (hn : C.1 ≤ 5) (h0 : 0 ≤ k) (h1 : k < τ 493) (h8 : τ 814 < 80) (hs : τ (452 + 12 * k) < 0) :
    ∃ J, ev (d + 2) 28 0 [(2, b), (0, τ (445 + 12 * k)), (0, pkA τ (446 + 12 * k)), uU] [] S I = some (uU, S, J) ∧ DV J b (doneS τ k) ∧ CK b I J := by
  have o0 := hW.2.2.1.1
  have r := hW.2.1.2.2 k h0 h1
  unfold run1OK at r
  obtain ⟨q0, q1, c1, n3, cz, hp⟩ := r
  have c1' := c1
  unfold cmdOK at c1'
  have pc := pkA_bd c1
  have u1 : 445 + 12 * k + 1 = 446 + 12 * k := by omega
  have u2 : 445 + 12 * k + 2 = 447 + 12 * k := by omega
  have u3 : 445 + 12 * k + 3 = 448 + 12 * k := by omega
  have u4 : 445 + 12 * k + 4 = 449 + 12 * k := by omega
  have u6 : 445 + 12 * k + 6 = 451 + 12 * k := by omega
  have u8 : 445 + 12 * k + 8 = 453 + 12 * k := by omega
  have u9 : 445 + 12 * k + 9 = 454 + 12 * k := by omega
  have e1 : 446 + 12 * k + 1 = 447 + 12 * k := by omega
  have e2 : 446 + 12 * k + 2 = 448 + 12 * k := by omega
  have e3 : 446 + 12 * k + 3 = 449 + 12 * k := by omega
  have e4 : 446 + 12 * k + 4 = 450 + 12 * k := by omega
  rw [E28_0, c_bl c1]
  simp only [Option.bind_some, psh_i]
  rw [E28_4, c_op c1]
  simp only [Option.bind_some, psh_i]
  rw [e1, e2, e3, e4] at c1' pc
  rw [e1, e2]
  have bb := hW.2.2.2.1.1 (828 + τ (448 + 12 * k)) (by omega) (by omega)
  rw [E28_9 hD, w_small (z := τ (447 + 12 * k)) (by omega) (by omega)]
  unfold doneS
  simp only [u1, u2, u3, u4, u6, u8, u9]
  have pk : pkA τ (446 + 12 * k) = pkC (τ (446 + 12 * k)) (τ (447 + 12 * k)) (τ (448 + 12 * k)) (τ (449 + 12 * k)) (τ (450 + 12 * k)) := by unfold pkA; rw [e1, e2, e3, e4]
  by_cases p0 : τ (447 + 12 * k) = 0
  · rw [if_pos p0, if_pos p0, c_held hD h.2.1 (by omega) (by omega)]
    simp only [Option.bind_some, psh_i]
    rw [E28_45 hD, pk]
    obtain ⟨J, j1, j2, j3⟩ := c_deliver (d := d) (q := τ (445 + 12 * k)) (st := 0) (res := τ (828 + τ (448 + 12 * k))) hD h o0 h8 pc (by unfold bdD; omega)
    rw [j1]
    simp only [Option.bind_some, psh_u]
    rw [E28_48, E28_82]
    exact ⟨J, rfl, j2, j3⟩
  rw [if_neg p0, if_neg p0]
  by_cases p1 : τ (447 + 12 * k) = 1
  · rw [if_pos p1, if_pos p1, c_va c1, e3]
    simp only [Option.bind_some, psh_i, psh_r]
    obtain ⟨G, g1, g2, g3⟩ := c_hold (d := d + 1) (v := τ (449 + 12 * k)) hD h (bl := τ (448 + 12 * k)) (by omega) (by omega) (by omega)
    rw [E28_57 hD, g1]
    simp only [Option.bind_some, psh_u]
    rw [E28_60, c_va c1, e3]
    simp only [Option.bind_some, psh_i, psh_r]
    rw [E28_68 hD, pk]
    obtain ⟨J, j1, j2, j3⟩ := c_deliver (d := d) (q := τ (445 + 12 * k)) (st := 0) (res := τ (449 + 12 * k)) hD g2 (by rw [updR_miss (by omega)]; exact o0) (by rw [updR_miss (by omega)]; exact h8) pc (by unfold bdD; omega)
    rw [j1]
    simp only [Option.bind_some, psh_u]
    rw [E28_71, E28_82]
    exact ⟨J, rfl, j2, CK_trans g3 j3⟩
  have p4 : τ (447 + 12 * k) = 4 := by omega
  rw [if_neg p1, if_neg p1, if_pos p4, pk]
  obtain ⟨J, j1, j2, j3⟩ := c_deliver (d := d) (q := τ (445 + 12 * k)) (st := 0) (res := 0) hD h o0 h8 pc (by unfold bdD; omega)
  rw [j1]
  simp only [Option.bind_some, psh_u]
  rw [E28_82]
  exact ⟨J, rfl, j2, j3⟩
/-- a pair is done -/
theorem c_compPair (hD : DA S b) (h : DV I b τ) (hW : W0 C τ) (hn : C.1 ≤ 5) (h0 : 0 ≤ k) (h1 : k < τ 493) (h8 : τ 814 < 79) (hs : 0 ≤ τ (452 + 12 * k)) :
    ∃ J, ev (d + 2) 32 0 [(2, b), (0, τ (445 + 12 * k)), (0, pkA τ (446 + 12 * k)), (0, pkA τ (451 + 12 * k)), uU] [] S I = some (uU, S, J) ∧ DV J b (doneS τ k) ∧ CK b I J := by
  have o0 := hW.2.2.1.1
  have r := hW.2.1.2.2 k h0 h1
  unfold run1OK at r
  obtain ⟨q0, q1, c1, n3, cz, hp⟩ := r
  rcases hp with hp | ⟨p2, c2, s3, sz⟩
  · omega
  have c1' := c1
  have c2' := c2
  unfold cmdOK at c1' c2'
  have pc := pkA_bd c1
  have pd := pkA_bd c2
  have u1 : 445 + 12 * k + 1 = 446 + 12 * k := by omega
  have u2 : 445 + 12 * k + 2 = 447 + 12 * k := by omega
  have u3 : 445 + 12 * k + 3 = 448 + 12 * k := by omega
  have u4 : 445 + 12 * k + 4 = 449 + 12 * k := by omega
  have u6 : 445 + 12 * k + 6 = 451 + 12 * k := by omega
  have u8 : 445 + 12 * k + 8 = 453 + 12 * k := by omega
  have u9 : 445 + 12 * k + 9 = 454 + 12 * k := by omega
  have e2 : 446 + 12 * k + 2 = 448 + 12 * k := by omega
  have e3 : 446 + 12 * k + 3 = 449 + 12 * k := by omega
  have f2 : 451 + 12 * k + 2 = 453 + 12 * k := by omega
  have f3 : 451 + 12 * k + 3 = 454 + 12 * k := by omega
  rw [e2, e3] at c1'
  rw [f2, f3] at c2'
  have bb := hW.2.2.2.1.1 (828 + τ (448 + 12 * k)) (by omega) (by omega)
  rw [E32_0, c_bl c1, e2]
  simp only [Option.bind_some, psh_i]
  rw [E32_5 hD, c_held hD h.2.1 (by omega) (by omega)]
  simp only [Option.bind_some, psh_i]
  rw [E32_8, c_va c1, e3]
  simp only [Option.bind_some, psh_i]
  rw [E32_16 hD, w_small (z := τ (828 + τ (448 + 12 * k))) (by omega) (by omega), w_small (z := τ (449 + 12 * k)) (by omega) (by omega)]
  unfold doneS
  simp only [u1, u2, u3, u4, u6, u8, u9]
  rw [if_neg (show ¬ τ (447 + 12 * k) = 0 by omega), if_neg (show ¬ τ (447 + 12 * k) = 1 by omega), if_neg (show ¬ τ (447 + 12 * k) = 4 by omega)]
  by_cases p5 : τ (828 + τ (448 + 12 * k)) = τ (449 + 12 * k)
  · rw [if_pos p5, if_pos p5, c_bl c2, f2]
    simp only [Option.bind_some, psh_i, psh_r]
    rw [E32_24, c_va c2, f3]
    simp only [Option.bind_some, psh_i, psh_r]
    obtain ⟨G, g1, g2, g3⟩ := c_hold (d := d + 1) (v := τ (454 + 12 * k)) hD h (bl := τ (453 + 12 * k)) (by omega) (by omega) (by omega)
    rw [E32_28 hD, g1]
    simp only [Option.bind_some, psh_u]
    obtain ⟨J, j1, j2, j3⟩ := c_deliver (d := d) (q := τ (445 + 12 * k)) (st := 0) (res := τ (828 + τ (448 + 12 * k))) hD g2 (by rw [updR_miss (by omega)]; exact o0) (by rw [updR_miss (by omega)]; omega) pc (by unfold bdD; omega)
    rw [E32_31 hD]
    unfold pkA at *
    rw [j1]
    simp only [Option.bind_some, psh_u]
    have vv : ev (d + 1) 4 0 [(0, pkC (τ (451 + 12 * k)) (τ (451 + 12 * k + 1)) (τ (451 + 12 * k + 2)) (τ (451 + 12 * k + 3)) (τ (451 + 12 * k + 4)))] [] S J = some ((0, τ (454 + 12 * k)), S, J) := by
      have := c_va (d := d + 1) (S := S) (I := J) c2
      unfold pkA at this
      rw [this, f3]
    rw [E32_40, vv]
    simp only [Option.bind_some, psh_i, psh_r]
    -- the block was laid down ahead of the first completion: the same row
    have sw : outS (updR τ (828 + τ (453 + 12 * k)) (τ (454 + 12 * k))) (τ (445 + 12 * k)) (τ (446 + 12 * k)) 0 (τ (828 + τ (448 + 12 * k))) = updR (outS τ (τ (445 + 12 * k)) (τ (446 + 12 * k)) 0 (τ (828 + τ (448 + 12 * k)))) (828 + τ (453 + 12 * k)) (τ (454 + 12 * k)) := by
      funext j
      by_cases e : j = 828 + τ (453 + 12 * k)
      · subst e
        rw [updR_hit rfl, outS_oth (by rw [updR_miss (by omega)]; exact o0) (by rw [updR_miss (by omega)]; omega) (by omega), updR_hit rfl]
      · rw [updR_miss e]
        unfold outS
        rw [updR_miss (show (814 : Int) ≠ 828 + τ (453 + 12 * k) by omega)]
        unfold updR
        simp only [if_neg e]
    rw [sw] at j2
    obtain ⟨J2, l1, l2, l3⟩ := c_deliver (d := d) (q := τ (445 + 12 * k)) (st := 0) (res := τ (454 + 12 * k)) hD j2 (by rw [updR_miss (by omega), outS_814]; omega) (by rw [updR_miss (by omega), outS_814]; omega) pd (by unfold bdD; omega)
    rw [E32_48 hD, l1]
    simp only [Option.bind_some, psh_u]
    rw [E32_51, E32_71]
    exact ⟨J2, rfl, l2, CK_trans g3 (CK_trans j3 l3)⟩
  · rw [if_neg p5, if_neg p5]
    unfold pkA at *
    obtain ⟨J, j1, j2, j3⟩ := c_deliver (d := d) (q := τ (445 + 12 * k)) (st := 2) (res := τ (828 + τ (448 + 12 * k))) hD h o0 (by omega) pc (by unfold bdD; omega)
    rw [j1]
    simp only [Option.bind_some, psh_u]
    obtain ⟨J2, l1, l2, l3⟩ := c_deliver (d := d) (q := τ (445 + 12 * k)) (st := 3) (res := 0) hD j2 (by rw [outS_814]; omega) (by rw [outS_814]; omega) pd (by unfold bdD; omega)
    rw [E32_63 hD, l1]
    simp only [Option.bind_some, psh_u]
    rw [E32_71]
    exact ⟨J2, rfl, l2, CK_trans j3 l3⟩
end r60
