/-! when -/
def wnS (K : KF) (C : CF) (q id : Int) : Nat → Int → RW → Int × RW
  | 0, _, ρ => (-2, ρ)
  | n + 1, a, ρ => if 0 ≤ postOfS (tickS K C ρ) q id then (a, tickS K C ρ) else wnS K C q id n (a + 1) (tickS K C ρ)
def twS (σ : RW) (q id : Int) : RW := updR (updR (fun _ => 0) 0 (σ (pAt q (postOfS σ q id) + 1))) 1 (σ (pAt q (postOfS σ q id) + 2))
section r92
variable {d : Nat} {S : SS} {I J G I2 : II} {C : CF} {K : KF} {ρ σ : RW} {a b u q k v j N r id : Int}
theorem quec_ge {z : Int} (h0 : 0 ≤ q) (h1 : q < 5) : rngc ρ q z + pstc ρ q z ≤ quec ρ z := by
  unfold quec
  have := sm_one (f := fun q' => if q' = q then (0 : Int) else rngc ρ q' z + pstc ρ q' z) (g := fun q' => rngc ρ q' z + pstc ρ q' z) (q := q) 5 0 h0 (by omega) (fun j _ _ hj => by rw [if_neg hj])
  rw [this, if_pos rfl]
  have nn : 0 ≤ sm (fun q' => if q' = q then (0 : Int) else rngc ρ q' z + pstc ρ q' z) 5 0 := sm_nonneg _ _ (fun j _ _ => by
    split
    · exact Int.le_refl 0
    · have := rngc_nn ρ j z; have := pstc_nn ρ j z; omega)
  omega
theorem posts_cnt (hq : qOK C ρ q) (h : 0 ≤ postOfS ρ q id) : 0 < pstc ρ q (16 * q + id) := by
  have c := hq.1
  unfold cntsOK at c
  unfold postOfS at h
  obtain ⟨j, j0, j1, j2⟩ := (fnd_pos (by omega)).mp h
  unfold pstc
  rw [sm_pos (fun _ => ite01)]
  exact ⟨j, j0, j1, by rw [if_pos (by have := of_decide_eq_true j2; omega)]; decide⟩
theorem outs_cnt (h : 0 ≤ outOfS ρ q id) : 0 < outc ρ (16 * q + id) := by
  unfold outOfS at h
  obtain ⟨j, j0, j1, j2⟩ := (fnd_pos (Int.le_refl 0)).mp h
  unfold outc
  rw [sm_pos (f := out1c ρ (16 * q + id)) (fun j => by unfold out1c; exact ite01)]
  simp only [outIs, Bool.and_eq_true, decide_eq_true_eq] at j2
  exact ⟨j, j0, j1, by unfold out1c; rw [if_pos (by omega)]; decide⟩
theorem post_un (h : WF C ρ) (h0 : 0 ≤ q) (h1 : q < 5) (hp : 0 ≤ postOfS ρ q id) : ringOfS ρ q id < 0 ∧ runOfS ρ q id < 0 ∧ outOfS ρ q id < 0 := by
  have c := posts_cnt (h.1.1 q h0 h1) hp
  have u := h.2 (16 * q + id)
  have qg := quec_ge (ρ := ρ) (z := 16 * q + id) h0 h1
  have n1 := rngc_nn ρ q (16 * q + id)
  have n2 := runc_nn ρ (16 * q + id)
  have n3 := outc_nn ρ (16 * q + id)
  unfold cnt at u
  refine ⟨?_, ?_, ?_⟩
  · by_cases g : ringOfS ρ q id < 0
    · exact g
    · have := rings_cnt (h.1.1 q h0 h1) (show 0 ≤ ringOfS ρ q id by omega); omega
  · by_cases g : runOfS ρ q id < 0
    · exact g
    · have := runs_cnt h.1.2.1 (show 0 ≤ runOfS ρ q id by omega); omega
  · by_cases g : outOfS ρ q id < 0
    · exact g
    · have := outs_cnt (show 0 ≤ outOfS ρ q id by omega); omega
theorem c_pidx1 (hL : LA S a) (hl : laneR C I a ρ q) (hW : W0 C ρ) (h0 : 0 ≤ q) (h1 : q < 5) (hid : isI id) (b5 : ρ (89 * q + 5) < 2147483648) : ∀ (n : Nat) (k : Int), ρ (89 * q + 6) ≤ k → k ≤ ρ (89 * q + 5) → n = (ρ (89 * q + 5) - k).toNat → ev (d + 1) 99 5 [(2, a), (0, id), (0, k)] [] S I = some ((0, fnd (fun k => decide (ρ (pAt q k) = id)) n k), S, I) := by
  have c := (hW.1 q h0 h1).1
  unfold cntsOK at c
  have l9 := lan_f hl.1 (f := 9) (by decide) (by decide)
  rw [show (9 : Int) - 4 = 5 from rfl] at l9
  intro n
  induction n with
  | zero =>
    intro k k0 k1 hn
    rw [E99_5 hL, l9, w_small (z := k) (by omega) (by omega), w_small (z := ρ (89 * q + 5)) (by omega) b5, if_neg (by omega)]
    rfl
  | succ n ih =>
    intro k k0 k1 hn
    have bd := pkP_bd hW h0 h1 k0 (by omega : k < ρ (89 * q + 5))
    have cm := (hW.1 q h0 h1).2.2 k k0 (by omega)
    rw [E99_5 hL, l9, w_small (z := k) (by omega) (by omega), w_small (z := ρ (89 * q + 5)) (by omega) b5, if_pos (by omega), (hl.2.2.1 k k0 (by omega)).1]
    have e10 : ev d 10 0 [(0, pkP ρ q k)] [] S I = some ((0, ρ (pAt q k)), S, I) := c_did bd
    rw [e10]
    simp only [Option.bind_some, psh_i]
    rw [E99_25, w_small (z := ρ (pAt q k)) (by omega) (by omega), w_small hid.1 hid.2, ih (k + 1) (by omega) (by omega) (by omega), fnd_succ]
    by_cases g : ρ (pAt q k) = id
    · rw [if_pos g, if_pos (decide_eq_true g)]
    · rw [if_neg g, if_neg (show ¬ decide (ρ (pAt q k) = id) = true by simpa using g)]
theorem c_pidx (hL : LA S a) (hl : laneR C I a ρ q) (hW : W0 C ρ) (h0 : 0 ≤ q) (h1 : q < 5) (hid : isI id) (b5 : ρ (89 * q + 5) < 2147483648) : ev (d + 1) 99 0 [(2, a), (0, id), uU] [] S I = some ((0, postOfS ρ q id), S, I) := by
  have c := (hW.1 q h0 h1).1
  unfold cntsOK at c
  have l10 := lan_f hl.1 (f := 10) (by decide) (by decide)
  rw [show (10 : Int) - 4 = 6 from rfl] at l10
  rw [E99_0 hL, l10, c_pidx1 hL hl hW h0 h1 hid b5 (ρ (89 * q + 5) - ρ (89 * q + 6)).toNat (ρ (89 * q + 6)) (Int.le_refl _) (by omega) rfl]
  rfl
theorem postOf_rng (hW : W0 C ρ) (h0 : 0 ≤ q) (h1 : q < 5) (hp : 0 ≤ postOfS ρ q id) : ρ (89 * q + 6) ≤ postOfS ρ q id ∧ postOfS ρ q id < ρ (89 * q + 5) := by
  have c := (hW.1 q h0 h1).1
  unfold cntsOK at c
  unfold postOfS at *
  rcases fnd_lo (fun k => decide (ρ (pAt q k) = id)) (ρ (89 * q + 5) - ρ (89 * q + 6)).toNat (ρ (89 * q + 6)) with e | ⟨e1, e2, _⟩
  · rw [e] at hp; omega
  · omega
theorem postOf_b (hW : W0 C ρ) (h0 : 0 ≤ q) (h1 : q < 5) (hB : BdN N ρ) : -1 ≤ postOfS ρ q id ∧ postOfS ρ q id ≤ N := by
  have b5 := hB (89 * q + 5)
  have b6 := hB (89 * q + 6)
  by_cases hp : 0 ≤ postOfS ρ q id
  · have := postOf_rng hW h0 h1 hp; omega
  · unfold postOfS at *
    rcases fnd_lo (fun k => decide (ρ (pAt q k) = id)) (ρ (89 * q + 5) - ρ (89 * q + 6)).toNat (ρ (89 * q + 6)) with e | ⟨e1, e2, _⟩
    · rw [e]; omega
    · have c := (hW.1 q h0 h1).1
      unfold cntsOK at c
      omega
theorem c_wn (hQ : QA S 0) (hK : okK K) (hk : okC C) (h0 : 0 ≤ q) (h1 : q < 5) (hid : isI id) : ∀ (n : Nat) (N a : Int) (ρ : RW) (I : II) (a7 : AV), RelD C I 36 ρ → RuleR I 412 K → WF C ρ → lftOK 1 ρ → 100 ≤ N → BdN N ρ → N + 400 * n < 80000000 → 1 ≤ a → a ≤ 100 → n = (100 - a).toNat →
    ∃ J, ev (d + 8) 55 17 [(2, 36), (0, q), (0, id), (2, 412), (2, 3), (2, 36 + 11 + 4 * q), (0, a), a7, uU] [] S I = some ((0, (wnS K C q id n a ρ).1), S, J) ∧ OT I J ∧ ((wnS K C q id n a ρ).1 < 0 → J 3 = I 3 ∧ J 4 = I 4) ∧ (0 ≤ (wnS K C q id n a ρ).1 → TD J 2 (twS (wnS K C q id n a ρ).2 q id)) ∧ (wnS K C q id n a ρ).1 ≤ 99 ∧ -2 ≤ (wnS K C q id n a ρ).1 := by
  have hD := DA36 hQ
  have hL := DA_lane hD h0 h1
  intro n
  induction n with
  | zero =>
    intro N a ρ I a7 hR hu hw hl hN hB hb8 k0 k1 hn
    refine ⟨I, ?_, OT_refl, fun _ => ⟨rfl, rfl⟩, fun h => ?_, by show (-2 : Int) ≤ 99; decide, by show (-2 : Int) ≤ -2; decide⟩
    · rw [E55_17 hD, w_small (z := a) (by omega) (by omega), if_pos (by omega)]; rfl
    · exact absurd (show (0 : Int) ≤ -2 from h) (by decide)
  | succ n ih =>
    intro N a ρ I a7 hR hu hw hl hN hB hb8 k0 k1 hn
    obtain ⟨J, j1, j2, j3⟩ := c_goOn (d := d + 1) (S := S) (b := 36) (u := 412) (by decide) (by decide) hD (UA412 hQ) hK hk hR hu hw hl hN hB (by omega)
    obtain ⟨_, w1, w2, w3, _⟩ := tick_WF K hk hw hl hN hB (by omega)
    have lR := j2.2.2.2.2.1 q h0 h1
    have b5 := w3 (89 * q + 5)
    have pb := postOf_b (id := id) w1.1 h0 h1 w3
    have pr := fun hp => postOf_rng (id := id) w1.1 h0 h1 hp
    have otJ : OT I J := fun x _ _ _ x2 x3 x4 _ => j3 x (by omega) (by omega) (by omega)
    have e : ev (d + 8) 55 17 [(2, 36), (0, q), (0, id), (2, 412), (2, 3), (2, 36 + 11 + 4 * q), (0, a), a7, uU] [] S I = if w (postOfS (tickS K C ρ) q id) = -1 then ev (d + 8) 55 17 [(2, 36), (0, q), (0, id), (2, 412), (2, 3), (2, 36 + 11 + 4 * q), (0, a + 1), (0, postOfS (tickS K C ρ) q id), uU] [] S J else (ev (d + 7) 88 0 [(2, 36 + 11 + 4 * q), (0, postOfS (tickS K C ρ) q id)] [] S J).bind (fun z => ev (d + 8) 55 50 [(2, 36), (0, q), (0, id), (2, 412), (2, 3), (2, 36 + 11 + 4 * q), (0, a), (0, postOfS (tickS K C ρ) q id), uU] (psh z.1 []) z.2.1 z.2.2) := by
      rw [E55_17 hD, w_small (z := a) (by omega) (by omega), if_neg (by omega), j1]
      simp only [Option.bind_some, psh_u]
      rw [E55_29 hL, c_pidx (d := d + 6) hL lR w1.1 h0 h1 hid (by omega)]
      simp only [Option.bind_some, psh_i]
      rw [E55_35 hL]
    have ew : wnS K C q id (n + 1) a ρ = if 0 ≤ postOfS (tickS K C ρ) q id then (a, tickS K C ρ) else wnS K C q id n (a + 1) (tickS K C ρ) := rfl
    generalize hσ : tickS K C ρ = σ at *
    rw [w_small (z := postOfS σ q id) (by omega) (by omega)] at e
    by_cases g : 0 ≤ postOfS σ q id
    · obtain ⟨p0, p1⟩ := pr g
      rw [if_pos g] at ew
      rw [if_neg (by omega), E88_0 hL, (lR.2.2.1 _ p0 p1).1] at e
      simp only [Option.bind_some, psh_i] at e
      have bd := pkP_bd w1.1 h0 h1 p0 p1
      have cm := (w1.1.1 q h0 h1).2.2 _ p0 p1
      have c11 : ev (d + 7) 11 0 [(0, pkP σ q (postOfS σ q id))] [] S J = some ((0, σ (pAt q (postOfS σ q id) + 1)), S, J) := c_dst bd
      have c9 : ev (d + 7) 9 0 [(0, pkP σ q (postOfS σ q id))] [] S J = some ((0, σ (pAt q (postOfS σ q id) + 2)), S, J) := c_dre bd
      rw [E55_50, c11] at e
      simp only [Option.bind_some, psh_i] at e
      rw [E55_59, c9] at e
      simp only [Option.bind_some, psh_i] at e
      obtain ⟨A, a1, a2, a3⟩ := c_tell2 (d := d + 5) (S := S) (I := J) (x := σ (pAt q (postOfS σ q id) + 1)) (y := σ (pAt q (postOfS σ q id) + 2)) (RA3 hQ)
      rw [E55_65 (RA3 hQ), w_small (z := σ (pAt q (postOfS σ q id) + 1)) (by omega) (by omega), w_small (z := σ (pAt q (postOfS σ q id) + 2)) (by omega) (by omega), a1] at e
      simp only [Option.bind_some, psh_u] at e
      rw [E55_69] at e
      rw [ew]
      exact ⟨A, e, OT_trans otJ (OT_TF a3), fun h => by have : a < 0 := h; omega, fun _ => a2, by show a ≤ 99; omega, by show -2 ≤ a; omega⟩
    · rw [if_neg g] at ew
      rw [if_pos (by omega)] at e
      obtain ⟨Z, z1, z2, z3, z4, z5, z6⟩ := ih (N + 400) (a + 1) σ J (0, postOfS σ q id) j2 (RuleR_OUTR (by decide) hu j3) w1 w2 (by omega) w3 (by omega) (by omega) (by omega) (by omega)
      rw [ew]
      exact ⟨Z, e.trans z1, OT_trans otJ z2, fun h => by rw [(z3 h).1, (z3 h).2, j3 3 (by decide) (by decide) (by decide), j3 4 (by decide) (by decide) (by decide)]; exact ⟨rfl, rfl⟩, z4, z5, z6⟩
theorem m_pidx {a3 : Int} (hM : MA S 427) (hC : Cn (I 439)) (h0 : 0 ≤ q) (h1 : q < 5) (hid : isI id) : ∀ (n : Nat) (k : Int) (a5 : AV), 0 ≤ k → k ≤ I 439 (89 * q + 5) → n = (I 439 (89 * q + 5) - k).toNat →
    ∃ z z', ev (d + 1) 282 98 [(2, 427), (0, q), (0, id), (0, a3), (0, k), a5] [] S I = if fnd (fun k => decide (I 439 (pAt q k) = id)) n k < 0 then ev (d + 1) 282 72 [(2, 427), (0, q), (0, id), (0, a3 + 1), z, z'] [] S I else (ev d 255 0 [(2, 427), (1, w (I 439 (pAt q (fnd (fun k => decide (I 439 (pAt q k) = id)) n k) + 1))), uU] [] S (up2 I 427 1 0)).bind (fun y => ev (d + 1) 282 152 [(2, 427), (0, q), (0, id), (0, a3), (0, fnd (fun k => decide (I 439 (pAt q k) = id)) n k), (0, pAt q (fnd (fun k => decide (I 439 (pAt q k) = id)) n k))] (psh y.1 []) y.2.1 y.2.2) := by
  have hK := isRw_K hM (Or.inr rfl : isRw 439)
  intro n
  induction n with
  | zero =>
    intro k a5 k0 k1 hn
    have b5 := hC.1 (89 * q + 5)
    refine ⟨(0, k), a5, ?_⟩
    rw [E282_98 hM, m_of hK (by omega) (by omega)]
    simp only [Option.bind_some, psh_i]
    rw [E282_109, w_small (z := k) (by omega) (by omega), w_small (z := I 439 (89 * q + 5)) (by omega) (by omega), if_neg (by omega), if_pos (show fnd (fun k => decide (I 439 (pAt q k) = id)) 0 k < 0 from (by decide : (-1 : Int) < 0))]
  | succ n ih =>
    intro k a5 k0 k1 hn
    have b5 := hC.1 (89 * q + 5)
    have pb := pAt_b (q := q) (k := k) h0 h1
    have bv := hC.1 (pAt q k)
    have st : ev (d + 1) 282 98 [(2, 427), (0, q), (0, id), (0, a3), (0, k), a5] [] S I = if I 439 (pAt q k) = id then (ev d 255 0 [(2, 427), (1, w (I 439 (pAt q k + 1))), uU] [] S (up2 I 427 1 0)).bind (fun y => ev (d + 1) 282 152 [(2, 427), (0, q), (0, id), (0, a3), (0, k), (0, pAt q k)] (psh y.1 []) y.2.1 y.2.2) else ev (d + 1) 282 98 [(2, 427), (0, q), (0, id), (0, a3), (0, k + 1), (0, pAt q k)] [] S I := by
      rw [E282_98 hM, m_of hK (by omega) (by omega)]
      simp only [Option.bind_some, psh_i]
      rw [E282_109, w_small (z := k) (by omega) (by omega), w_small (z := I 439 (89 * q + 5)) (by omega) (by omega), if_pos (by omega), m_pAt k0 (by omega)]
      simp only [Option.bind_some, psh_i]
      rw [E282_118 hM, Int.add_zero, w_small (z := pAt q k) (by omega) (by omega), gdR_pos (by omega), w_small (z := I 439 (pAt q k)) (by omega) (by omega), w_small hid.1 hid.2, w_small (z := pAt q k + 1) (by omega) (by omega), gdR_pos (by omega)]
    rw [st, fnd_succ]
    by_cases g : I 439 (pAt q k) = id
    · refine ⟨(0, 0), (0, 0), ?_⟩
      rw [if_pos g, if_pos (decide_eq_true g), if_neg (by omega)]
    · obtain ⟨z, z', e⟩ := ih (k + 1) (0, pAt q k) (by omega) (by omega) (by omega)
      refine ⟨z, z', ?_⟩
      rw [if_neg g, if_neg (show ¬ decide (I 439 (pAt q k) = id) = true by simpa using g), e]
theorem m_wn (hM : MA S 427) (hK : okK K) (hk : okC C) (h0 : 0 ≤ q) (h1 : q < 5) (hid : isI id) : ∀ (n : Nat) (N a : Int) (ρ : RW) (I : II) (a4 a5 : AV), cfM I = C → kfM I = K → I 439 = ρ → WF C ρ → lftOK 1 ρ → 100 ≤ N → BdN N ρ → N + 400 * n < 80000000 → 1 ≤ a → a ≤ 100 → n = (100 - a).toNat →
    ∃ J, ev (d + 8) 282 72 [(2, 427), (0, q), (0, id), (0, a), a4, a5] [] S I = some ((0, (wnS K C q id n a ρ).1), S, J) ∧ BdN (N + 400 * n) (J 439) ∧ (∀ x, x ≠ 439 → x ≠ 427 → x ≠ 428 → x ≠ 432 → x ≠ 433 → J x = I x) ∧ (∀ k, k ≠ 1 → k ≠ 24 → k ≠ 25 → J 427 k = I 427 k) ∧ ((wnS K C q id n a ρ).1 < 0 → J 427 1 = I 427 1 ∧ J 428 = I 428) ∧ (0 ≤ (wnS K C q id n a ρ).1 → MD J 2 (twS (wnS K C q id n a ρ).2 q id)) := by
  have hKr := isRw_K hM (Or.inr rfl : isRw 439)
  intro n
  induction n with
  | zero =>
    intro N a ρ I a4 a5 hC hKF hI hw hl hN hB hb8 k0 k1 hn
    refine ⟨I, ?_, by rw [hI]; exact BdN_le hB (by omega), fun _ _ _ _ _ _ => rfl, fun _ _ _ _ => rfl, fun _ => ⟨rfl, rfl⟩, fun h => ?_⟩
    · rw [E282_72 hM, w_small (z := a) (by omega) (by omega), if_pos (by omega)]; rfl
    · exact absurd (show (0 : Int) ≤ -2 from h) (by decide)
  | succ n ih =>
    intro N a ρ I a4 a5 hC hKF hI hw hl hN hB hb8 k0 k1 hn
    obtain ⟨ok, w1, w2, w3, _⟩ := tick_WF K hk hw hl hN hB (by omega)
    obtain ⟨J, j1, j2, j3, j4, j5, j6⟩ := m_tick (d := d) (S := S) (I := I) (r := 439) hM (Or.inr rfl) (by rw [hC]; exact hk) (by rw [hKF]; exact hK) (by rw [hC, hKF, hI]; exact ok)
    rw [hC, hKF, hI] at j2
    have gC : cfM J = C := by
      rw [← hC]
      exact cfM_mem (j5 14 (by decide) (by decide)) (j6 434 (by decide) (by decide) (by decide) (by decide)) (j6 435 (by decide) (by decide) (by decide) (by decide)) (j6 436 (by decide) (by decide) (by decide) (by decide)) (j6 437 (by decide) (by decide) (by decide) (by decide))
    have gK : kfM J = K := by
      rw [← hKF]; unfold kfM
      rw [j6 430 (by decide) (by decide) (by decide) (by decide), j5 10 (by decide) (by decide)]
    have b5 := w3 (89 * q + 5)
    have c := (w1.1.1 q h0 h1).1
    unfold cntsOK at c
    have pb := postOf_b (id := id) w1.1 h0 h1 w3
    have pr := fun hp => postOf_rng (id := id) w1.1 h0 h1 hp
    obtain ⟨z, z', e⟩ := m_pidx (d := d + 7) (S := S) (I := J) (a3 := a) hM (by rw [j2]; exact WF_Cn w1.1 w3 (by omega)) h0 h1 hid (tickS K C ρ (89 * q + 5) - tickS K C ρ (89 * q + 6)).toNat (tickS K C ρ (89 * q + 6)) a5 (by omega) (by rw [j2]; omega) (by rw [j2])
    rw [j2] at e
    have ep : fnd (fun k => decide (tickS K C ρ (pAt q k) = id)) (tickS K C ρ (89 * q + 5) - tickS K C ρ (89 * q + 6)).toNat (tickS K C ρ (89 * q + 6)) = postOfS (tickS K C ρ) q id := rfl
    rw [ep] at e
    have e0 : ev (d + 8) 282 72 [(2, 427), (0, q), (0, id), (0, a), a4, a5] [] S I = ev (d + 8) 282 98 [(2, 427), (0, q), (0, id), (0, a), (0, tickS K C ρ (89 * q + 6)), a5] [] S J := by
      rw [E282_72 hM, w_small (z := a) (by omega) (by omega), if_neg (by omega), j1]
      simp only [Option.bind_some, psh_u]
      rw [E282_86 hM, m_of hKr (by omega) (by omega), j2]
      simp only [Option.bind_some, psh_i]
      rw [E282_96]
    rw [e] at e0
    have ew : wnS K C q id (n + 1) a ρ = if 0 ≤ postOfS (tickS K C ρ) q id then (a, tickS K C ρ) else wnS K C q id n (a + 1) (tickS K C ρ) := rfl
    generalize hσ : tickS K C ρ = σ at *
    by_cases g : 0 ≤ postOfS σ q id
    · obtain ⟨p0, p1⟩ := pr g
      have cm := (w1.1.1 q h0 h1).2.2 _ p0 p1
      have pa := pAt_b (q := q) (k := postOfS σ q id) h0 h1
      rw [if_pos g] at ew
      rw [if_neg (by omega), w_small (z := σ (pAt q (postOfS σ q id) + 1)) (by omega) (by omega)] at e0
      have t0 : twS σ q id 0 = σ (pAt q (postOfS σ q id) + 1) := by unfold twS; rw [updR_miss (by decide), updR_hit rfl]
      have t1 : twS σ q id 1 = σ (pAt q (postOfS σ q id) + 2) := by unfold twS; rw [updR_hit rfl]
      obtain ⟨B, p1', p2', p3'⟩ := m_next (d := d + 7) (S := S) (g := twS σ q id) (n := 0) (x := σ (pAt q (postOfS σ q id) + 1)) (I := up2 J 427 1 0) hM MD_0 (by decide) (by decide) (by rw [t0])
      obtain ⟨B2, q1, q2, q3⟩ := m_next (d := d + 7) (S := S) (g := twS σ q id) (n := 0 + 1) (x := σ (pAt q (postOfS σ q id) + 2)) (I := B) hM p2' (by decide) (by decide) (by rw [Int.zero_add, t1])
      have b39 : B 439 = σ := by rw [p3'.2 439 (by decide) (by decide), up2_oth (by decide), j2]
      rw [p1'] at e0
      simp only [Option.bind_some, psh_u] at e0
      rw [E282_152 hM, w_small (z := pAt q (postOfS σ q id) + 2) (by omega) (by omega), gdR_pos (by omega), b39, w_small (z := σ (pAt q (postOfS σ q id) + 2)) (by omega) (by omega), q1] at e0
      simp only [Option.bind_some, psh_u] at e0
      rw [E282_166] at e0
      rw [ew]
      exact ⟨B2, e0, by rw [q3.2 439 (by decide) (by decide), b39]; exact BdN_le w3 (by omega), fun x x0 x1 x2 x3 x4 => by rw [q3.2 x x1 x2, p3'.2 x x1 x2, up2_oth x1, j6 x x0 x1 x3 x4], fun k k0 k1 k2 => by rw [q3.1 k k0, p3'.1 k k0, up2_miss (by omega), j5 k k1 k2], fun h => by have : a < 0 := h; omega, fun _ => q2⟩
    · rw [if_neg g] at ew
      rw [if_pos (by omega)] at e0
      obtain ⟨Z, z1, z2, z3, z4, z5, z6⟩ := ih (N + 400) (a + 1) σ J z z' gC gK j2 w1 w2 (by omega) w3 (by omega) (by omega) (by omega) (by omega)
      rw [ew]
      exact ⟨Z, e0.trans z1, BdN_le z2 (by omega), fun x x0 x1 x2 x3 x4 => by rw [z3 x x0 x1 x2 x3 x4, j6 x x0 x1 x3 x4], fun k k0 k1 k2 => by rw [z4 k k0 k1 k2, j5 k k1 k2], fun h => by rw [(z5 h).1, (z5 h).2, j5 1 (by decide) (by decide), j6 428 (by decide) (by decide) (by decide) (by decide)]; exact ⟨rfl, rfl⟩, z6⟩
theorem call_when (hS : SH S) (h : ST N I) (hN0 : 100 ≤ N) (hN : N < 70000000) (hq : isI q) (hid : isI id) : ∃ r I1 I2, ev (d + 100) 169 0 [(2, 0), (0, q), (0, id), uU] [] S I = some ((0, r), S, I1) ∧ ev (d + 100) 282 0 [(2, 427), (0, q), (0, id), uU, uU, uU] [] S I1 = some ((0, r), S, I2) ∧ ST (N + 100000) I2 := by
  obtain ⟨hQ, hM⟩ := hS
  have hk := h.2.2.2.1.1
  have hn5 := hk.2.1
  have hD := h.2.2.2.1.2
  obtain ⟨hKF, hRu⟩ := h.2.2.2.2.1
  have hB := h.2.2.2.2.2.2.2.1
  have hK := isRw_K hM (Or.inl rfl : isRw 438)
  have tB := tau_B h
  obtain ⟨tW, tL⟩ := tau_GD h
  have hC := WF_Cn hD.2.1.1 hB (by omega)
  have e1 := E169_0 (d := d + 99) (I := I) (a1 := q) (a2 := id) hQ
  rw [c_lane (DA5 hQ) hD.1.1 hk hq] at e1
  simp only [Option.bind_some, psh_r] at e1
  have fin0 : ST (N + 100000) (up2 I 427 0 0) := ST_le (ST_0 (v := 0) h) (by omega)
  have e2 : ∀ J : II, OT I J → ev (d + 100) 282 0 [(2, 427), (0, q), (0, id), uU, uU, uU] [] S J = if (0 ≤ q ∧ q < (cfM I).1) ∧ 0 ≤ id ∧ id ≤ 15 then (ev (d + 99) 221 0 [(2, 438), (0, q), (0, id), uU] [] S (up2 J 427 0 0)).bind (fun z => ev (d + 99 + 1) 282 36 [(2, 427), (0, q), (0, id), uU, uU, uU] (psh z.1 []) z.2.1 z.2.2) else some ((0, -1), S, up2 J 427 0 0) := by
    intro J hJ
    rw [E282_0 hM, m_isQ0 (d := d + 98) hM (by rw [OT_cfM hJ]; exact hk) hq, OT_cfM hJ]
    simp only [Option.bind_some, psh_i]
    rw [E282_10, w_small hid.1 hid.2, m_in (by have := hid.1; omega) (by have := hid.2; omega) (by decide) (by decide) (by decide) (by decide)]
    simp only [Option.bind_some, psh_i]
    rw [E282_22 hM, E282_25]
    by_cases g1 : 0 ≤ q ∧ q < (cfM I).1
    · rw [if_pos g1, if_neg (by decide)]
      by_cases g2 : 0 ≤ id ∧ id ≤ 15
      · rw [if_pos g2, if_neg (by decide), if_pos ⟨g1, g2⟩]
      · rw [if_neg g2, if_pos (by decide), if_neg (fun x => g2 x.2)]
    · rw [if_neg g1, if_pos (by decide), if_neg (fun x => g1 x.1)]
  by_cases g : (0 ≤ q ∧ q < (cfM I).1) ∧ 0 ≤ id ∧ id ≤ 15
  · obtain ⟨g1, g2⟩ := g
    have q5 : q < 5 := by omega
    have hL := DA_lane (DA5 hQ) g1.1 q5
    have lR := hD.1.2.2.2.2.1 q g1.1 q5
    have b5 := hB (89 * q + 5)
    have cu := c_used (d := d + 99) hL lR.2.2.2 (hD.1.2.2.2.2.2 q id g1.1 q5 g2.1 (by omega)) hD.2.1.1 g1.1 q5 g2.1 (by omega)
    have cp := c_pidx (d := d + 98) (S := S) hL lR hD.2.1.1 g1.1 q5 hid (by omega)
    have pb := postOf_b (id := id) hD.2.1.1 g1.1 q5 hB
    rw [if_pos g1, E169_8 (Or.inr hL), if_neg (by omega), w_small hid.1 hid.2, if_neg (by omega), if_pos (by omega), cu] at e1
    simp only [Option.bind_some, psh_i] at e1
    rw [E169_30 hL, cp] at e1
    simp only [Option.bind_some, psh_i] at e1
    rw [E169_38 hQ, w_small (z := postOfS (I 438) q id) (by omega) (by omega), E169_42] at e1
    have rb := ringOf_b (I 438) q id (hC.2.1 q g1.1 q5).1 hC.1
    have r0 := hD.2.1.1.2.1.1
    have r4 := hD.2.1.1.2.1.2.1
    have rub := runOfS_b (ρ := I 438) (q := q) (id := id) r0
    have ob := fnd_b (p := outIs (I 438) q id) (n := (I 438 814).toNat) (N := 80) (by have := hD.2.1.1.2.2.1.2.1; omega)
    have ob' : -1 ≤ outOfS (I 438) q id ∧ (outOfS (I 438) q id = -1 ∨ outOfS (I 438) q id < 80) := ob
    have un := fun hp => post_un (id := id) hD.2.1 g1.1 q5 hp
    have e3 : ∀ J : II, OT I J → ev (d + 100) 282 0 [(2, 427), (0, q), (0, id), uU, uU, uU] [] S J = if 0 ≤ ringOfS (I 438) q id ∨ 0 ≤ runOfS (I 438) q id ∨ 0 ≤ outOfS (I 438) q id then ev (d + 100) 282 66 [(2, 427), (0, q), (0, id), uU, uU, uU] [] S (up2 J 427 0 0) else some ((0, -3), S, up2 J 427 0 0) := by
      intro J hJ
      have x38 : up2 J 427 0 0 438 = I 438 := by rw [up2_oth (by decide), OT_up hJ (by decide) (by decide)]
      rw [e2 J hJ, if_pos ⟨g1, g2⟩, m_ringOf (d := d + 98) hK (by rw [x38]; exact hC) g1.1 q5 hid, x38]
      simp only [Option.bind_some, psh_i]
      rw [E282_36 hM, w_small (z := ringOfS (I 438) q id) (by omega) (by omega), m_runOf (d := d + 97) hK (by rw [x38]; exact hC) hq hid, x38]
      simp only [Option.bind_some, psh_i]
      rw [E282_48 hM, w_small (z := runOfS (I 438) q id) (by omega) (by omega), m_outOf (d := d + 98) hK (by rw [x38]; exact hC) hq hid, x38]
      simp only [Option.bind_some, psh_i]
      rw [E282_60, w_small (z := outOfS (I 438) q id) (by omega) (by omega)]
      by_cases y1 : ringOfS (I 438) q id < 0
      · rw [if_pos y1]
        by_cases y2 : runOfS (I 438) q id < 0
        · rw [if_pos y2]
          by_cases y3 : outOfS (I 438) q id < 0
          · rw [if_pos y3, if_neg (by omega)]
          · rw [if_neg y3, if_pos (by omega)]
        · rw [if_neg y2, if_pos (by omega)]
      · rw [if_neg y1, if_pos (by omega)]
    have ue : usedS (I 438) q id = (decide (0 ≤ ringOfS (I 438) q id) || decide (0 ≤ runOfS (I 438) q id) || decide (0 ≤ outOfS (I 438) q id) || decide (0 ≤ postOfS (I 438) q id)) := rfl
    by_cases gw : 0 ≤ ringOfS (I 438) q id ∨ 0 ≤ runOfS (I 438) q id ∨ 0 ≤ outOfS (I 438) q id
    · have np : postOfS (I 438) q id = -1 := by
        by_cases hp : 0 ≤ postOfS (I 438) q id
        · have := un hp; omega
        · omega
      have us : usedS (I 438) q id = true := by
        rw [ue]
        simp only [Bool.or_eq_true, decide_eq_true_eq]
        omega
      obtain ⟨J, j1, j2, j3⟩ := tri_beg (d := d + 98) (S := S) hQ h
      rw [if_pos us, if_neg (by decide), if_pos np, j1] at e1
      simp only [Option.bind_some, psh_u] at e1
      have lJ : ev (d + 98) 21 0 [(2, 36), (0, q)] [] S J = some ((2, 36 + 11 + 4 * q), S, J) := by rw [c_lane (DA36 hQ) j2.1 hk hq, if_pos g1]
      have hL36 := DA_lane (DA36 hQ) g1.1 q5
      have rJ : RuleR J 412 (kfM I) := by unfold RuleR at *; rw [j3 412 (by omega), show (412 : Int) + 1 = 413 from rfl, j3 413 (by omega)]; exact hRu
      obtain ⟨H, k1, k2, k3, k4, k5, k6⟩ := c_wn (d := d + 91) (S := S) (K := kfM I) (C := cfM I) (q := q) (id := id) hQ hKF hk g1.1 q5 hid 99 N 1 (tau I) J uU j2 rJ tW tL hN0 tB (by omega) (by decide) (by decide) rfl
      rw [E169_56 hQ, E55_0 (DA36 hQ), lJ] at e1
      simp only [Option.bind_some, psh_r] at e1
      rw [E55_5 (Or.inr hL36), if_neg (by omega), k1] at e1
      simp only [Option.bind_some, psh_i] at e1
      rw [E169_73] at e1
      have ot : OT I H := OT_trans (OT_36 j3) k2
      have x0 : cfM (up2 H 427 0 0) = cfM I := (cfM_mem (up2_miss (by decide)) (up2_oth (by decide)) (up2_oth (by decide)) (up2_oth (by decide)) (up2_oth (by decide))).trans (OT_cfM ot)
      have s2 := e3 H ot
      rw [if_pos gw, E282_66 hM, m_cop hM ot (fun y hy => up2_oth hy)] at s2
      simp only [Option.bind_some, psh_u] at s2
      generalize hZ : setR (up2 H 427 0 0) 439 (tau I) = Z at s2
      have z9 : Z 439 = tau I := by rw [← hZ]; exact setR_same
      have zo : ∀ y, y ≠ 439 → Z y = up2 H 427 0 0 y := fun y hy => by rw [← hZ]; exact setR_oth hy
      have zC : cfM Z = cfM I := (cfM_mem (by rw [zo 427 (by decide)]) (zo 434 (by decide)) (zo 435 (by decide)) (zo 436 (by decide)) (zo 437 (by decide))).trans x0
      have zK : kfM Z = kfM I := by unfold kfM; rw [zo 430 (by decide), zo 427 (by decide), up2_oth (by decide), up2_miss (by decide), OT_up ot (by decide) (by decide), OT_up ot (by decide) (by decide)]
      obtain ⟨T, t1, t2, t3, t4, t5, t6⟩ := m_wn (d := d + 92) (S := S) (K := kfM I) (C := cfM I) (q := q) (id := id) hM hKF hk g1.1 q5 hid 99 N 1 (tau I) Z uU uU zC zK z9 tW tL hN0 tB (by omega) (by decide) (by decide) rfl
      rw [E282_70, t1] at s2
      have hx : ∀ x, x ≠ 427 → x ≠ 428 → x ≠ 439 → ¬ (431 ≤ x ∧ x ≤ 433) → T x = H x := fun x a0 a1 a2 a3 => by rw [t3 x a2 a0 a1 (by omega) (by omega), zo x a2, up2_oth a0]
      refine ⟨_, H, T, e1, s2, tri_ST h ot (fun x a0 a1 a2 a3 _ _ _ _ => hx x a0 a1 a2 a3) (fun k hk => by rw [t4 k (by omega) (by omega) (by omega), zo 427 (by decide), up2_miss (by omega)]) ?_ (BdN_le t2 (by omega))⟩
      by_cases gn : (wnS (kfM I) (cfM I) q id 99 1 (tau I)).1 < 0
      · obtain ⟨u3, u4⟩ := k3 gn
        obtain ⟨v3, v4⟩ := t5 gn
        exact cR_mem h.2.1 (by rw [hx 3 (by decide) (by decide) (by decide) (by decide), u3, j3 3 (by decide)]) (by rw [hx 4 (by decide) (by decide) (by decide) (by decide), u4, j3 4 (by decide)]) (by rw [v4, zo 428 (by decide), up2_oth (by decide), OT_up ot (by decide) (by decide)]) (by rw [v3, zo 427 (by decide), up2_miss (by decide), OT_up ot (by decide) (by decide)])
      · exact cR_of (TD_congr (k4 (by omega)) (hx 3 (by decide) (by decide) (by decide) (by decide)) (hx 4 (by decide) (by decide) (by decide) (by decide))) (t6 (by omega)) (by decide) (by decide)
    · refine ⟨-3, I, up2 I 427 0 0, ?_, by rw [e3 I OT_refl, if_neg gw], fin0⟩
      rw [e1]
      by_cases us : usedS (I 438) q id = true
      · rw [ue] at us
        simp only [Bool.or_eq_true, decide_eq_true_eq] at us
        rw [if_neg (by omega : ¬ postOfS (I 438) q id = -1)]
        split <;> rfl
      · rw [if_neg us, if_pos (by decide)]
  · refine ⟨-1, I, _, ?_, by rw [e2 I OT_refl, if_neg g], fin0⟩
    rw [e1]
    by_cases g1 : 0 ≤ q ∧ q < (cfM I).1
    · have hL := DA_lane (DA5 hQ) g1.1 (by omega : q < 5)
      rw [if_pos g1, E169_8 (Or.inr hL), if_neg (by omega), w_small hid.1 hid.2, E169_23]
      by_cases g3 : id < 0
      · rw [if_pos g3]
      · rw [if_neg g3, if_neg (by omega)]
    · rw [if_neg g1, E169_8 (Or.inl rfl), if_pos rfl, E169_23]
end r92
