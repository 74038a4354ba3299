/-! calls that only look: waiting, recall, served */ -/
section r78
variable {d : Nat} {S : SS} {I J G I2 : II} {C : CF} {ρ σ τ : RW} {b a q id k c v x n N M : Int}
theorem c_wait1 {g : RW} (hQ : QA S 0) (hL : LA S (5 + 11 + 4 * q)) (hq : qOK C ρ q) (hg : ∀ j, g j = w (10 * ρ (rAt q (ρ (89 * q + 3) + j)) + ρ (rAt q (ρ (89 * q + 3) + j) + 1))) : ∀ (n : Nat) (k m : Int) (I : II) (y : AV), laneR C I (5 + 11 + 4 * q) ρ q → TD I k g → 0 ≤ q → q < 5 → 0 ≤ k → k ≤ m → m = ρ (89 * q) - ρ (89 * q + 3) → n = (m - k).toNat →
    ∃ J, ev (d + 1) 161 30 [(2, 0), (0, q), (2, 5 + 11 + 4 * q), (0, m), (0, k), y] [] S I = some ((0, m), S, J) ∧ TD J m g ∧ TF I J := by
  have c := hq.1
  unfold cntsOK at c
  intro n
  induction n with
  | zero =>
    intro k m I y h t q0 q5 k0 k1 hm hn
    have : k = m := by omega
    subst this
    refine ⟨I, ?_, t, TF_refl⟩
    rw [E161_30 hL, w_small (z := k) (by omega) (by omega), if_neg (by omega)]
  | succ n ih =>
    intro k m I y h t q0 q5 k0 k1 hm hn
    have cm := hq.2.1 (ρ (89 * q + 3) + k) (by omega) (by omega)
    obtain ⟨A, a1, a2, a3⟩ := c_tnext (d := d) (S := S) (I := I) (g := g) (n := k) (x := g k) (RA3 hQ) t k0 (by omega) rfl
    rw [E161_30 hL, w_small (z := k) (by omega) (by omega), w_small (z := m) (by omega) (by omega), if_pos (by omega), E86_0 hL, h.1.2.2.2.2.2.1, h.2.1.1 _ (by omega) (by omega)]
    simp only [Option.bind_some, psh_i]
    rw [E161_42 hQ, c_id cm]
    simp only [Option.bind_some, psh_i]
    rw [E161_55, c_op cm]
    simp only [Option.bind_some, psh_i]
    rw [E161_61 (RA3 hQ), ← hg k, a1]
    simp only [Option.bind_some, psh_u]
    obtain ⟨J, j1, j2, j3⟩ := ih (k + 1) m A (0, pkA ρ (rAt q (ρ (89 * q + 3) + k))) (laneR_congr q0 q5 (fun x x0 x1 => a3 x (by omega) (by omega)) (fun _ _ _ => rfl) h) a2 q0 q5 (by omega) (by omega) hm (by omega)
    rw [E161_66]
    exact ⟨J, j1, j2, TF_trans a3 j3⟩
theorem m_wait1 {g : RW} (hM : MA S 427) (hq : qOK C ρ q) (hB : BdN N ρ) (hN : N < 70000000) (hg : ∀ j, g j = w (10 * ρ (rAt q (ρ (89 * q + 3) + j)) + ρ (rAt q (ρ (89 * q + 3) + j) + 1))) : ∀ (n : Nat) (k m : Int) (I : II), I 438 = ρ → MD I k g → 0 ≤ q → q < 5 → 0 ≤ k → k ≤ m → m = ρ (89 * q) - ρ (89 * q + 3) → n = (m - k).toNat →
    ∃ J, ev (d + 1) 271 30 [(2, 427), (0, q), (0, ρ (89 * q + 3) + k)] [] S I = some ((0, m), S, J) ∧ MD J m g ∧ MF I J := by
  have c := hq.1
  unfold cntsOK at c
  have b0 := hB (89 * q)
  have hK := isRw_K hM (Or.inl rfl : isRw 438)
  intro n
  induction n with
  | zero =>
    intro k m I h t q0 q5 k0 k1 hm hn
    have : k = m := by omega
    subst this
    refine ⟨I, ?_, t, MF_refl⟩
    rw [E271_30 hM, m_of hK (by omega) (by omega), h]
    simp only [Option.bind_some, psh_i, Int.add_zero]
    rw [E271_40 hM, w_small (z := ρ (89 * q)) (by omega) (by omega), w_small (z := ρ (89 * q + 3) + k) (by omega) (by omega), if_neg (by omega), t.1]
  | succ n ih =>
    intro k m I h t q0 q5 k0 k1 hm hn
    have rb := rAt_b (q := q) (k := ρ (89 * q + 3) + k) q0 q5
    obtain ⟨A, a1, a2, a3⟩ := m_next (d := d) (S := S) (I := I) (g := g) (n := k) (x := g k) hM t k0 (by omega) rfl
    rw [E271_30 hM, m_of hK (by omega) (by omega), h]
    simp only [Option.bind_some, psh_i, Int.add_zero]
    rw [E271_40 hM, w_small (z := ρ (89 * q)) (by omega) (by omega), w_small (z := ρ (89 * q + 3) + k) (by omega) (by omega), if_pos (by omega), m_rAt (by omega) (by omega)]
    simp only [Option.bind_some, psh_i]
    rw [E271_55 hK hM, Int.add_zero, w_small (z := rAt q _) (by omega) (by omega), gdR_pos (by omega), m_rAt (by omega) (by omega)]
    simp only [Option.bind_some, psh_i]
    rw [E271_68 hK hM, w_small (z := rAt q _ + 1) (by omega) (by omega), gdR_pos (by omega), h, ← hg k, a1]
    simp only [Option.bind_some, psh_u]
    obtain ⟨J, j1, j2, j3⟩ := ih (k + 1) m A (by rw [a3.2 438 (by decide) (by decide)]; exact h) a2 q0 q5 (by omega) (by omega) hm (by omega)
    rw [E271_76, Int.add_assoc]
    exact ⟨J, j1, j2, MF_trans a3 j3⟩
theorem m_isQ0 (hM : MA S 427) (hk : okC (cfM I)) (hq : isI q) : ev (d + 1) 210 0 [(2, 427), (0, q)] [] S (up2 I 427 0 0) = some ((0, if 0 ≤ q ∧ q < (cfM I).1 then 1 else 0), S, up2 I 427 0 0) := by
  have e : up2 I 427 0 0 427 14 = I 427 14 := up2_miss (by omega)
  have h0 : 0 ≤ I 427 14 := hk.1
  have h1 : I 427 14 ≤ 5 := hk.2.1
  rw [m_isQ hM hq (by rw [e]; exact h0) (by rw [e]; exact h1), e]
  rfl
theorem TF_hi (h : TF I J) {x : Int} (hx : 4 < x) : J x = I x := h x (by omega) (by omega)
theorem TF_cfM (h : TF I J) : cfM J = cfM I := cfM_mem (by rw [TF_hi h (by decide)]) (TF_hi h (by decide)) (TF_hi h (by decide)) (TF_hi h (by decide)) (TF_hi h (by decide))
theorem call_waiting (hS : SH S) (h : ST N I) (hN : N < 70000000) (hq : isI q) : ∃ r I1 I2, ev (d + 100) 161 0 [(2, 0), (0, q), uU, uU, uU, uU] [] S I = some ((0, r), S, I1) ∧ ev (d + 100) 271 0 [(2, 427), (0, q), uU] [] S I1 = some ((0, r), S, I2) ∧ ST (N + 100000) I2 := by
  obtain ⟨hQ, hM⟩ := hS
  have hk := h.2.2.2.1.1
  have hn5 := hk.2.1
  have hD := h.2.2.2.1.2
  have hB := h.2.2.2.2.2.2.2.1
  have hK := isRw_K hM (Or.inl rfl : isRw 438)
  have e1 := E161_0 (d := d + 99) (I := I) (a1 := q) hQ
  rw [c_lane (DA5 hQ) hD.1.1 hk hq] at e1
  simp only [Option.bind_some, psh_r] at e1
  have rf : ∀ J : II, TF I J → ev (d + 100) 271 0 [(2, 427), (0, q), uU] [] S J = ev (d + 100) 271 10 [(2, 427), (0, q), uU] [(0, if 0 ≤ q ∧ q < (cfM I).1 then 1 else 0)] S (up2 J 427 0 0) := by
    intro J hJ
    rw [E271_0 hM, m_isQ0 (d := d + 98) hM (by rw [TF_cfM hJ]; exact hk) hq, TF_cfM hJ]
    simp only [Option.bind_some, psh_i]
  by_cases g : 0 ≤ q ∧ q < (cfM I).1
  · have q5 : q < 5 := by omega
    have hL := DA_lane (DA5 hQ) g.1 q5
    have hl := hD.1.2.2.2.2.1 q g.1 q5
    have qo := hD.2.1.1.1 q g.1 q5
    have c := qo.1
    unfold cntsOK at c
    obtain ⟨A, a1, a2, a3⟩ := c_tclr (d := d + 99) (S := S) (I := I) (RA3 hQ)
    have hlA : laneR (cfM I) A (5 + 11 + 4 * q) (I 438) q := laneR_congr g.1 q5 (fun x x0 x1 => a3 x (by omega) (by omega)) (fun _ _ _ => rfl) hl
    obtain ⟨J, j1, j2, j3⟩ := c_wait1 (d := d + 99) (S := S) (g := fun j => w (10 * I 438 (rAt q (I 438 (89 * q + 3) + j)) + I 438 (rAt q (I 438 (89 * q + 3) + j) + 1))) hQ hL qo (fun _ => rfl) (I 438 (89 * q) - I 438 (89 * q + 3)).toNat 0 (I 438 (89 * q) - I 438 (89 * q + 3)) A uU hlA ⟨a2.1, fun j j0 j1 => by omega⟩ g.1 q5 (by decide) (by omega) rfl (by rw [Int.sub_zero])
    have tf := TF_trans a3 j3
    have x38 : up2 (up2 J 427 0 0) 427 1 0 438 = I 438 := by rw [up2_oth (by decide), up2_oth (by decide), TF_hi tf (by decide)]
    obtain ⟨K, k1, k2, k3⟩ := m_wait1 (d := d + 99) (S := S) (g := fun j => w (10 * I 438 (rAt q (I 438 (89 * q + 3) + j)) + I 438 (rAt q (I 438 (89 * q + 3) + j) + 1))) hM qo hB hN (fun _ => rfl) (I 438 (89 * q) - I 438 (89 * q + 3)).toNat 0 (I 438 (89 * q) - I 438 (89 * q + 3)) (up2 (up2 J 427 0 0) 427 1 0) x38 MD_0 g.1 q5 (by decide) (by omega) rfl (by rw [Int.sub_zero])
    rw [Int.add_zero] at k1
    refine ⟨I 438 (89 * q) - I 438 (89 * q + 3), J, K, ?_, ?_, tl_ST h tf j2 (fun x x0 x1 => by rw [k3.2 x x0 x1, up2_oth x0, up2_oth x0]) (fun k k0 k1 => by rw [k3.1 k k1, up2_miss (by omega), up2_miss (by omega)]) k2 (by omega) (by omega)⟩
    · rw [e1, if_pos g, E161_8 (Or.inr hL) hQ, if_neg (by omega), a1]
      simp only [Option.bind_some, psh_u]
      rw [E161_22 hL, E93_0 hL, hlA.1.2.2.1, hlA.1.2.2.2.2.2.1]
      simp only [Option.bind_some, psh_i]
      rw [E161_26, j1]
    · rw [rf J tf, E271_10 hM, if_pos g, if_neg (by decide), m_of hK (by omega) (by omega), x38]
      simp only [Option.bind_some, psh_i]
      rw [E271_29, k1]
  · refine ⟨-1, I, _, ?_, ?_, ST_le (ST_0 (v := 0) h) (by omega)⟩
    · rw [e1, if_neg g, E161_8 (Or.inl rfl) hQ, if_pos rfl]
    · rw [rf I TF_refl, E271_10 hM, if_neg g, if_pos (by decide)]
theorem rings_cnt (hq : qOK C ρ q) (h : 0 ≤ ringOfS ρ q id) : 0 < rngc ρ q (16 * q + id) := by
  have c := hq.1
  unfold cntsOK at c
  have f : 0 ≤ fnd (fun k => decide (ρ (rAt q k) = id)) (ρ (89 * q) - ρ (89 * q + 3)).toNat (ρ (89 * q + 3)) := by
    unfold ringOfS at h
    rcases fnd_lo (fun k => decide (ρ (rAt q k) = id)) (ρ (89 * q) - ρ (89 * q + 3)).toNat (ρ (89 * q + 3)) with e | ⟨e, _, _⟩
    · rw [e, if_pos (by decide)] at h; omega
    · omega
  obtain ⟨j, j0, j1, j2⟩ := (fnd_pos (by omega)).mp f
  unfold rngc
  rw [sm_pos (fun _ => ite01)]
  exact ⟨j, j0, j1, by rw [if_pos (by have := of_decide_eq_true j2; omega)]; decide⟩
theorem runs_cnt (hr : runsOK C ρ) (h : 0 ≤ runOfS ρ q id) : 0 < runc ρ (16 * q + id) := by
  unfold runOfS at h
  obtain ⟨j, j0, j1, j2⟩ := (fnd_pos (Int.le_refl 0)).mp h
  unfold runc
  rw [sm_pos (run1c_nn ρ _)]
  refine ⟨j, j0, j1, ?_⟩
  simp only [runIs, hasSecS, Bool.and_eq_true, Bool.or_eq_true, decide_eq_true_eq] at j2
  unfold run1c
  have i1 := @ite01 (16 * ρ (445 + 12 * j) + ρ (446 + 12 * j) = 16 * q + id) _
  have i2 := @ite01 (0 ≤ ρ (452 + 12 * j) ∧ 16 * ρ (445 + 12 * j) + ρ (451 + 12 * j) = 16 * q + id) _
  rcases j2.2 with e | e
  · rw [if_pos (by omega)]; omega
  · rw [if_pos (show 0 ≤ ρ (452 + 12 * j) ∧ 16 * ρ (445 + 12 * j) + ρ (451 + 12 * j) = 16 * q + id by omega)]; omega
theorem ring_run (h : WF C ρ) (h0 : 0 ≤ q) (h1 : q < 5) (hr : 0 ≤ ringOfS ρ q id) : runOfS ρ q id = -1 := by
  have b := runOfS_b (ρ := ρ) (q := q) (id := id) h.1.2.1.1
  by_cases g : 0 ≤ runOfS ρ q id
  · have c1 := rings_cnt (h.1.1 q h0 h1) hr
    have c2 := runs_cnt h.1.2.1 g
    have u := h.2 (16 * q + id)
    have o := outc_nn ρ (16 * q + id)
    have qc : rngc ρ q (16 * q + id) ≤ quec ρ (16 * q + id) := by
      unfold quec
      have := sm_one (f := fun q' => if q' = q then (0 : Int) else rngc ρ q' (16 * q + id) + pstc ρ q' (16 * q + id)) (g := fun q' => rngc ρ q' (16 * q + id) + pstc ρ q' (16 * q + id)) (q := q) 5 0 h0 (by omega) (fun j _ _ hj => by rw [if_neg hj])
      rw [this, if_pos rfl]
      have nn : 0 ≤ sm (fun q' => if q' = q then (0 : Int) else rngc ρ q' (16 * q + id) + pstc ρ q' (16 * q + id)) 5 0 := sm_nonneg _ _ (fun j _ _ => by
        split
        · exact Int.le_refl 0
        · have := rngc_nn ρ j (16 * q + id); have := pstc_nn ρ j (16 * q + id); omega)
      have := pstc_nn ρ q (16 * q + id)
      omega
    unfold cnt at u
    omega
  · omega
theorem call_recall (hS : SH S) (h : ST N I) (hN : N < 70000000) (hq : isI q) (hid : isI id) : ∃ r I1 I2, ev (d + 100) 174 0 [(2, 0), (0, q), (0, id), uU] [] S I = some ((0, r), S, I1) ∧ ev (d + 100) 290 0 [(2, 427), (0, q), (0, id), uU, uU] [] S I1 = some ((0, r), S, I2) ∧ ST (N + 100000) I2 := by
  obtain ⟨hQ, hM⟩ := hS
  have hk := h.2.2.2.1.1
  have hn5 := hk.2.1
  have hD := h.2.2.2.1.2
  have hB := h.2.2.2.2.2.2.2.1
  have hK := isRw_K hM (Or.inl rfl : isRw 438)
  have hBd := BdN_Bd hB (by omega)
  have Cn1 := WF_Cn hD.2.1.1 hB (by omega)
  have e1 := E174_0 (d := d + 99) (I := I) (a1 := q) (a2 := id) hQ
  rw [c_judge (d := d + 96) (by decide) (DA5 hQ) hD.1 hD.2.1.1 hk hBd hq hid] at e1
  simp only [Option.bind_some, psh_i] at e1
  obtain ⟨s0, s1, s2, s3⟩ := callsAns_spec (ρ := I 438) (q := q) (id := id) hk
  rw [E174_9 hQ, w_small (z := callsAnsS (cfM I) (I 438) q id) (by omega) (by omega)] at e1
  have rf : ∀ J : II, TF I J → ev (d + 100) 290 0 [(2, 427), (0, q), (0, id), uU, uU] [] S J = ev (d + 100) 290 15 [(2, 427), (0, q), (0, id), uU, uU] [(0, callsAnsS (cfM I) (I 438) q id)] S (up2 J 427 0 0) := by
    intro J hJ
    have ec : cfM (up2 J 427 0 0) = cfM I := (cfM_mem (up2_miss (by omega)) (up2_oth (by decide)) (up2_oth (by decide)) (up2_oth (by decide)) (up2_oth (by decide))).trans (TF_cfM hJ)
    have e38 : up2 J 427 0 0 438 = I 438 := by rw [up2_oth (by decide), TF_hi hJ (by decide)]
    rw [E290_0 hM, m_callsAns (d := d + 96) hM (Or.inl rfl) (by rw [ec]; exact hk) (by rw [e38]; exact Cn1) hq hid, ec, e38]
    simp only [Option.bind_some, psh_i]
  by_cases g : callsAnsS (cfM I) (I 438) q id < 0
  · rw [if_pos g, E174_41] at e1
    refine ⟨_, I, _, e1, ?_, ST_le (ST_0 (v := 0) h) (by omega)⟩
    rw [rf I TF_refl, E290_15 hM, w_small (z := callsAnsS (cfM I) (I 438) q id) (by omega) (by omega), if_pos g]
  · rw [if_neg g] at e1
    have r := runOfS_b (ρ := I 438) (q := q) (id := id) hD.2.1.1.2.1.1
    have r4 := hD.2.1.1.2.1.2.1
    have hqq : 0 ≤ q ∧ q < (cfM I).1 := by
      rcases (by omega : callsAnsS (cfM I) (I 438) q id = 0 ∨ callsAnsS (cfM I) (I 438) q id = 1) with e | e
      · exact ⟨(s0 e).1.1, (s0 e).1.2.1⟩
      · exact ⟨(s1 e).1.1, (s1 e).1.2.1⟩
    have qo := hD.2.1.1.1 q hqq.1 (by omega)
    have rb := ringOfS_b (id := id) qo
    -- LEFT and which
    obtain ⟨L, T, hL, hT⟩ : ∃ L T, L = (if callsAnsS (cfM I) (I 438) q id = 0 then 0 else w (I 438 (456 + 12 * runOfS (I 438) q id))) ∧ T = (if callsAnsS (cfM I) (I 438) q id = 0 then ringOfS (I 438) q id else runOfS (I 438) q id) := ⟨_, _, rfl, rfl⟩
    have b6 := hB (456 + 12 * runOfS (I 438) q id)
    have lf : ∃ L', ev (d + 99) 59 0 [(2, 5), (0, q), (0, id), uU] [] S I = some ((0, L'), S, I) ∧ w L' = L := by
      rw [E59_0 (DA5 hQ), c_runOf (d := d + 97) (DA5 hQ) hD.1.1 hD.1.2.2.1 hD.2.1.1.2.1 hBd hq hid]
      simp only [Option.bind_some, psh_i]
      rw [E59_6 (DA5 hQ), w_small (z := runOfS (I 438) q id) (by omega) (by omega), E59_25, E59_26, E59_26]
      by_cases e0 : callsAnsS (cfM I) (I 438) q id = 0
      · have rr := ring_run hD.2.1 hqq.1 (by omega) (s0 e0).2.1
        rw [if_pos (by omega), hL, if_pos e0]
        exact ⟨0, rfl, by decide⟩
      · have e1' : callsAnsS (cfM I) (I 438) q id = 1 := by omega
        have rr := (s1 e1').2.2
        rw [if_neg (by omega), if_pos (by omega), gdR_pos (by omega), (hD.1.2.2.1 _ rr (by omega)).2, hL, if_neg e0]
        exact ⟨_, rfl, rfl⟩
    have tf : ev (d + 99) 60 0 [(2, 5), (0, q), (0, id), uU, uU] [] S I = some ((0, T), S, I) := by
      have hLl := DA_lane (DA5 hQ) hqq.1 (show q < 5 by omega)
      rw [E60_0 (DA5 hQ), c_lane (DA5 hQ) hD.1.1 hk hq, if_pos hqq]
      simp only [Option.bind_some, psh_r]
      rw [E60_5 (Or.inr hLl), if_neg (by omega), c_turnOf (d := d + 97) hLl (hD.1.2.2.2.2.1 q hqq.1 (by omega)) qo hBd hid]
      simp only [Option.bind_some, psh_i]
      rw [E60_19 (DA5 hQ), w_small (z := ringOfS (I 438) q id) (by omega) (by omega), c_runOf (d := d + 97) (DA5 hQ) hD.1.1 hD.1.2.2.1 hD.2.1.1.2.1 hBd hq hid, E60_38]
      simp only [Option.bind_some, psh_i]
      rw [E60_38]
      by_cases e0 : callsAnsS (cfM I) (I 438) q id = 0
      · have := (s0 e0).2.1
        rw [if_neg (by omega), hT, if_pos e0]
      · have e1' : callsAnsS (cfM I) (I 438) q id = 1 := by omega
        have := (s1 e1').2.1
        rw [if_pos (by omega), hT, if_neg e0]
    obtain ⟨L', l1, l2⟩ := lf
    have Tb : w T = T := by
      rw [hT]; split
      · exact w_small (by omega) (by omega)
      · exact w_small (by omega) (by omega)
    rw [l1] at e1
    simp only [Option.bind_some, psh_i] at e1
    rw [E174_27 hQ, tf] at e1
    simp only [Option.bind_some, psh_i] at e1
    obtain ⟨A, a1, a2, a3⟩ := c_tell2 (d := d + 97) (S := S) (I := I) (x := L) (y := T) (RA3 hQ)
    rw [E174_37 (RA3 hQ), l2, Tb, a1] at e1
    simp only [Option.bind_some, psh_u, E174_41] at e1
    have a38 : A 438 = I 438 := TF_hi a3 (by decide)
    have x38 : up2 (up2 A 427 0 0) 427 1 0 438 = I 438 := by rw [up2_oth (by decide), up2_oth (by decide), a38]
    obtain ⟨B, b1, b2, b3⟩ := m_next (d := d + 99) (S := S) (g := updR (updR (fun _ => 0) 0 L) 1 T) (n := 0) (x := L) (I := up2 (up2 A 427 0 0) 427 1 0) hM MD_0 (by decide) (by decide) (by rw [updR_miss (by decide), updR_hit rfl])
    obtain ⟨B2, b4, b5, b6'⟩ := m_next (d := d + 99) (S := S) (g := updR (updR (fun _ => 0) 0 L) 1 T) (n := 1) (x := T) (I := B) hM b2 (by decide) (by decide) (by rw [updR_hit rfl])
    have B38 : B 438 = I 438 := by rw [b3.2 438 (by decide) (by decide), x38]
    refine ⟨_, A, B2, e1, ?_, tl_ST h a3 a2 (fun x x0 x1 => by rw [b6'.2 x x0 x1, b3.2 x x0 x1, up2_oth x0, up2_oth x0]) (fun k k0 k1 => by rw [b6'.1 k k1, b3.1 k k1, up2_miss (by omega), up2_miss (by omega)]) b5 (by decide) (by decide)⟩
    rw [rf A a3, E290_15 hM, w_small (z := callsAnsS (cfM I) (I 438) q id) (by omega) (by omega), if_neg g, m_runOf (d := d + 97) hK (by rw [x38]; exact Cn1) hq hid, x38]
    simp only [Option.bind_some, psh_i]
    rw [E290_36 hM, w_small (z := callsAnsS (cfM I) (I 438) q id) (by omega) (by omega), E224_0]
    simp only [Option.bind_some, psh_i, psh_r]
    have mid : ev (d + 100) 290 61 [(2, 427), (0, q), (0, id), (0, callsAnsS (cfM I) (I 438) q id), (0, runOfS (I 438) q id)] [(1, L), (2, 427)] S (up2 (up2 A 427 0 0) 427 1 0) = some ((0, callsAnsS (cfM I) (I 438) q id), S, B2) := by
      rw [E290_61 hM, b1]
      simp only [Option.bind_some, psh_u]
      rw [E290_64 hM, w_small (z := callsAnsS (cfM I) (I 438) q id) (by omega) (by omega)]
      by_cases e0 : callsAnsS (cfM I) (I 438) q id = 0
      · have hTT : T = ringOfS (I 438) q id := by rw [hT, if_pos e0]
        rw [if_pos e0, m_ringOf (d := d + 98) hK (by rw [B38]; exact Cn1) hqq.1 (by omega) hid, B38]
        simp only [Option.bind_some, psh_i]
        rw [E290_78, w_small (z := ringOfS (I 438) q id) (by omega) (by omega), ← hTT, E290_85 hM, b4]
        simp only [Option.bind_some, psh_u]
        rw [E290_88, e0]
      · have hTT : T = runOfS (I 438) q id := by rw [hT, if_neg e0]
        rw [if_neg e0, w_small (z := runOfS (I 438) q id) (by omega) (by omega), ← hTT, E290_85 hM, b4]
        simp only [Option.bind_some, psh_u]
        rw [E290_88]
    by_cases e0 : callsAnsS (cfM I) (I 438) q id = 0
    · have hLL : L = 0 := by rw [hL, if_pos e0]
      rw [hLL] at mid
      rw [if_pos e0, mid]
    · have e1' : callsAnsS (cfM I) (I 438) q id = 1 := by omega
      have rr := (s1 e1').2.2
      have hLL : L = w (I 438 (456 + 12 * runOfS (I 438) q id)) := by rw [hL, if_neg e0]
      have e45 : 445 + 12 * runOfS (I 438) q id + 11 = 456 + 12 * runOfS (I 438) q id := by omega
      rw [if_neg e0, E290_56 hK, e45, w_small (z := 456 + 12 * runOfS (I 438) q id) (by omega) (by omega), gdR_pos (by omega), x38, ← hLL, mid]
end r78
