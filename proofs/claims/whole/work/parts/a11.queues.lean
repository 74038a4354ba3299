/-! queues: a QUEUE more -/
theorem E207_142s {d : Nat} {a1 a2 a3 a4 s0 s1 s2 ln0 : Int} {S : SS} {I : II} (h0 : KA S s0 20 ln0) (h1 : s0 = 437) (h2 : MA S 427) : ev d 207 142 [(2, 427), (0, a1), (0, a2), (0, a3), (0, a4)] [(0, s2), (0, s1), (2, s0)] S I = gdR (0 ≤ w s1 ∧ w s1 < ln0) (some ((0, ((I 427 14) + 1) - 1), S, (up2 (up2 (up2 (up2 I s0 (w s1) s2) 427 14 ((I 427 14) + 1)) 427 22 0) 427 15 ((I 427 15) + 1)))) := by
  refine (sx_is D207_142 h0).trans (gdR_to fun g1 => ?_)
  refine (sx_aload_n D207_143 rfl).trans ?_
  refine (sx_dup D207_144 (by decide)).trans ?_
  refine (sx_gfI (q := (9, 14, 0, 1382)) (j := 14) D207_145 (by decide +kernel) (by decide +kernel) (by decide) (MA_o h2) rfl (up2_cell (by omega))).trans ?_
  refine (sx_iconst D207_148).trans ?_
  refine (sx_iadd D207_149).trans ?_
  refine (sx_pfI (q := (9, 14, 0, 1382)) (j := 14) D207_150 (by decide +kernel) (by decide) (by decide) (MA_o h2) rfl).trans ?_
  refine (sx_aload_n D207_153 rfl).trans ?_
  refine (sx_iconst D207_154).trans ?_
  refine (sx_pfI (q := (9, 22, 0, 1390)) (j := 22) D207_155 (by decide +kernel) (by decide) (by decide) (MA_o h2) rfl).trans ?_
  refine (sx_aload_n D207_158 rfl).trans ?_
  refine (sx_dup D207_159 (by decide)).trans ?_
  refine (sx_gfI (q := (9, 15, 0, 1383)) (j := 15) D207_160 (by decide +kernel) (by decide +kernel) (by decide) (MA_o h2) rfl ((up2_slot (by decide)).trans ((up2_slot (by decide)).trans (up2_cell (by omega))))).trans ?_
  refine (sx_iconst D207_163).trans ?_
  refine (sx_iadd D207_164).trans ?_
  refine (sx_pfI (q := (9, 15, 0, 1383)) (j := 15) D207_165 (by decide +kernel) (by decide) (by decide) (MA_o h2) rfl).trans ?_
  refine (sx_aload_n D207_168 rfl).trans ?_
  refine (sx_gfI (q := (9, 14, 0, 1382)) (j := 14) D207_169 (by decide +kernel) (by decide +kernel) (by decide) (MA_o h2) rfl ((up2_slot (by decide)).trans ((up2_slot (by decide)).trans (up2_same _ _ _ _)))).trans ?_
  refine (sx_iconst D207_172).trans ?_
  refine (sx_isub D207_173).trans ?_
  exact sx_ireturn D207_174 (by decide +kernel)
section ra11
variable {d : Nat} {S : SS} {I J K G I2 : II} {t u : Int → Int} {L p q r b s c ok v n a k N lo hi : Int} {C D : CF} {ρ : RW}
theorem WF_cf (h : WF C ρ) (h0 : 0 ≤ C.1) (h1 : C.1 ≤ D.1) (h5 : D.1 ≤ 5) (hp : ∀ q, 0 ≤ q → q < C.1 → D.2.2.1 q = C.2.2.1 q ∧ D.2.2.2.1 q = C.2.2.2.1 q) : WF D ρ := by
  obtain ⟨⟨w1, w2, w3, w4, w5⟩, wu⟩ := h
  refine ⟨⟨fun q q0 q1 => ?_, ⟨w2.1, w2.2.1, fun k k0 k1 => ?_⟩, ⟨w3.1, w3.2.1, fun k k0 k1 => ?_⟩, w4, fun c c0 c1 => ?_⟩, wu⟩
  · obtain ⟨a, b, e⟩ := w1 q q0 q1
    obtain ⟨a1, a2, a3, a4, a5, a6, a7, a8, a9, a10, a11⟩ := a
    refine ⟨⟨a1, a2, a3, a4, a5, a6, a7, a8, a9, a10, fun x => a11 (by omega)⟩, b, fun k k0 k1 => ?_⟩
    by_cases g : q < C.1
    · rw [(hp q q0 g).1]; exact e k k0 k1
    · have := a11 (by omega); omega
  · obtain ⟨r1, r2, r3⟩ := w2.2.2 k k0 k1
    exact ⟨r1, by omega, r3⟩
  · obtain ⟨r1, r2, r3⟩ := w3.2.2 k k0 k1
    exact ⟨r1, by omega, r3⟩
  · rw [w5 c c0 c1]
    refine sm_congr _ _ (fun j j0 j1 => ?_)
    show (if j < C.1 ∧ C.2.2.2.1 j = c then ρ (89 * j + 3) else 0) = (if j < D.1 ∧ D.2.2.2.1 j = c then ρ (89 * j + 3) else 0)
    by_cases g : j < C.1
    · rw [(hp j j0 g).2]
      by_cases g2 : C.2.2.2.1 j = c
      · rw [if_pos ⟨g, g2⟩, if_pos ⟨by omega, g2⟩]
      · rw [if_neg (fun x => g2 x.2), if_neg (fun x => g2 x.2)]
    · obtain ⟨a, _, _⟩ := w1 j j0 (by omega)
      unfold cntsOK at a
      have z := a.2.2.2.2.2.2.2.2.2.2 (by omega)
      have e3 : ρ (89 * j + 3) = 0 := by omega
      rw [if_neg (fun x => g x.1), e3]
      split <;> rfl
theorem GD_cf (h : GD C I b ρ) (h0 : 0 ≤ C.1) (h1 : D.1 = C.1) (h5 : C.1 ≤ 5) (hp : ∀ q, 0 ≤ q → q < C.1 → D.2.1 q = C.2.1 q ∧ D.2.2.1 q = C.2.2.1 q ∧ D.2.2.2.1 q = C.2.2.2.1 q ∧ D.2.2.2.2 q = C.2.2.2.2 q) : GD D I b ρ := by
  obtain ⟨⟨r1, r2, r3, r4, r5, r6⟩, hw, hl⟩ := h
  refine ⟨⟨⟨by rw [h1]; exact r1.1, r1.2⟩, r2, r3, r4, fun q q0 q1 => ?_, r6⟩, WF_cf hw h0 (by omega) (by omega) (fun q q0 q1 => ⟨(hp q q0 q1).2.1, (hp q q0 q1).2.2.1⟩), hl⟩
  obtain ⟨⟨f1, f2⟩, l2⟩ := r5 q q0 q1
  refine ⟨⟨fun x => ?_, f2⟩, l2⟩
  rw [h1] at x
  obtain ⟨p1, p2, p3, p4⟩ := hp q q0 x
  rw [p1, p2, p3, p4]
  exact f1 x
theorem RelD_new (h : RelD C I b ρ) (hw : WF C ρ) (hk : okC C) (hn : C.1 < 5) (h1 : D.1 = C.1 + 1) (hJ : ∀ x, b ≤ x → x < b + 31 → x ≠ b → x ≠ b + 11 + 4 * C.1 → J x = I x) (hb : ∀ k, k ≠ 0 → J b k = I b k) (hb0 : J b 0 = C.1 + 1) (ha : ∀ k, 4 ≤ k → J (b + 11 + 4 * C.1) k = I (b + 11 + 4 * C.1) k)
    (hv : J (b + 11 + 4 * C.1) 0 = D.2.1 C.1 ∧ J (b + 11 + 4 * C.1) 1 = D.2.2.1 C.1 ∧ J (b + 11 + 4 * C.1) 2 = D.2.2.2.1 C.1 ∧ J (b + 11 + 4 * C.1) 3 = D.2.2.2.2 C.1) (h3 : D.2.2.2.2 C.1 = 0 ∨ D.2.2.2.2 C.1 = 1)
    (hp : ∀ q, 0 ≤ q → q < C.1 → D.2.1 q = C.2.1 q ∧ D.2.2.1 q = C.2.2.1 q ∧ D.2.2.2.1 q = C.2.2.2.1 q ∧ D.2.2.2.2 q = C.2.2.2.2 q) : RelD D J b ρ := by
  have hn0 := hk.1
  obtain ⟨r1, r2, r3, r4, r5, r6⟩ := h
  obtain ⟨a0, a1⟩ := r1
  refine ⟨⟨by rw [hb0, h1], by rw [hb 6 (by decide), hb 7 (by decide), hb 8 (by decide), hb 9 (by decide), hb 10 (by decide), hb 15 (by decide)]; exact a1⟩, arR_congr (fun a x0 x1 => hJ a (by omega) (by omega) (by omega) (by omega)) (fun _ _ _ => rfl) r2, runsR_congr hw.1.2.1.2.1 (fun a x0 x1 => hJ a (by omega) (by omega) (by omega) (by omega)) (fun _ _ _ => rfl) r3, boxR_congr hw.1.2.2.1.2.1 (hJ _ (by omega) (by omega) (by omega) (by omega)) (fun _ _ _ => rfl) r4, fun q q0 q1 => ?_, bitsR_congr (fun q q0 q1 => ?_) (fun _ => rfl) r6⟩
  · obtain ⟨⟨f1, f2⟩, ⟨l2, l2'⟩, l3, l4⟩ := r5 q q0 q1
    by_cases g : q = C.1
    · subst g
      obtain ⟨v0, v1, v2, v3⟩ := hv
      refine ⟨⟨fun _ => ⟨v0, v1, v2, v3⟩, by rw [v3]; exact h3, by rw [ha 4 (by decide), ha 5 (by decide), ha 6 (by decide), ha 7 (by decide), ha 8 (by decide), ha 9 (by decide), ha 10 (by decide), ha 11 (by decide), ha 12 (by decide)]; exact f2.2⟩, ⟨by rw [hJ (b + 11 + 4 * C.1 + 1) (by omega) (by omega) (by omega) (by omega)]; exact l2, by rw [hJ (b + 11 + 4 * C.1 + 1) (by omega) (by omega) (by omega) (by omega)]; exact l2'⟩, fun k k0 k1 => by rw [hJ (b + 11 + 4 * C.1 + 2) (by omega) (by omega) (by omega) (by omega), hJ (b + 11 + 4 * C.1 + 3) (by omega) (by omega) (by omega) (by omega)]; exact l3 k k0 k1, by rw [ha 13 (by decide)]; exact l4⟩
    · have e : ∀ x, b + 11 + 4 * q ≤ x → x ≤ b + 11 + 4 * q + 3 → J x = I x := fun x x0 x1 => hJ x (by omega) (by omega) (by omega) (by omega)
      refine ⟨⟨fun x => ?_, by rw [e _ (by omega) (by omega)]; exact f2⟩, ⟨by rw [e _ (by omega) (by omega)]; exact l2, by rw [e _ (by omega) (by omega)]; exact l2'⟩, fun k k0 k1 => by rw [e (b + 11 + 4 * q + 2) (by omega) (by omega), e (b + 11 + 4 * q + 3) (by omega) (by omega)]; exact l3 k k0 k1, by rw [e _ (by omega) (by omega)]; exact l4⟩
      rw [h1] at x
      obtain ⟨p1, p2, p3, p4⟩ := hp q q0 (by omega)
      rw [e _ (by omega) (by omega), p1, p2, p3, p4]
      exact f1 (by omega)
  · by_cases g : q = C.1
    · subst g; exact ha 13 (by decide)
    · rw [hJ _ (by omega) (by omega) (by omega) (by omega)]
theorem rkq_n {c : Int} (h : 0 ≤ rkq c) : rkq c ≤ 3 := (rkq_b c).2
theorem wqS_ok (h : wqS n t < 0) : 2 < n ∧ 50 ≤ t 0 ∧ t 0 ≤ 56 ∧ 50 ≤ t 1 ∧ t 1 ≤ 56 ∧ 0 ≤ rkq (t 2) := by
  unfold wqS at h
  split at h
  · omega
  · rename_i g0
    split at h
    · omega
    · rename_i g1
      split at h
      · omega
      · rename_i g2
        have g0' : 0 < n ∧ 50 ≤ t 0 ∧ t 0 ≤ 56 := Classical.byContradiction g0
        have g1' : 1 < n ∧ 50 ≤ t 1 ∧ t 1 ≤ 56 := Classical.byContradiction g1
        have g2' : 2 < n ∧ 0 ≤ rkq (t 2) := Classical.byContradiction g2
        omega
theorem wqS_b : -1 ≤ wqS n t ∧ wqS n t ≤ 4 := by
  unfold wqS
  repeat' split
  all_goals omega
theorem call_queues (hS : SH S) (h : ST N I) : ∃ r I1 I2, ev (d + 100) 142 0 [(2, 0), uU, uU] [] S I = some ((0, r), S, I1) ∧ ev (d + 100) 207 0 [(2, 427), uU, uU, uU, uU] [] S I1 = some ((0, r), S, I2) ∧ ST (N + 100000) I2 := by
  obtain ⟨hQ, hM⟩ := hS
  have hT := h.1
  obtain ⟨t0, t1, t2, t3⟩ := hT
  have hk := h.2.2.2.1.1
  have hn0 := hk.1
  have hn5 := hk.2.1
  have hD := h.2.2.2.1.2
  have hB := h.2.2.2.2.2.2.2
  have nn : I 5 0 = (cfM I).1 := hD.1.1.1
  have nm : I 427 14 = (cfM I).1 := rfl
  have ht2 : ∀ j, 0 ≤ j → j < I 1 1 → 0 ≤ I 2 j ∧ I 2 j < 256 := fun j j0 j1 => (t3 j j0 j1).2
  have ht : ∀ j, 0 ≤ j → j < I 1 1 → 0 ≤ I 429 j ∧ I 429 j < 256 := fun j j0 j1 => by rw [(t3 j j0 j1).1]; exact (t3 j j0 j1).2
  have wc : wqS (I 1 1) (I 429) = wqS (I 1 1) (I 2) := wqS_congr (fun j j0 j1 => (t3 j j0 j1).1)
  have wb := wqS_b (n := I 1 1) (t := I 2)
  have e1 := E142_0 (d := d + 99) (S := S) (I := I) hQ
  rw [c_wq (d := d + 97) hQ t0 t1 ht2] at e1
  simp only [Option.bind_some, psh_i] at e1
  rw [E142_4 hQ, w_small (z := wqS (I 1 1) (I 2)) (by omega) (by omega)] at e1
  have mq := fun (J : II) (j1 : J 429 = I 429) (j2 : J 427 4 = I 427 4) => m_qs (d := d + 94) (S := S) (J := J) (n := I 1 1) hM (j2.trans t2) t0 t1 (by rw [j1]; exact ht)
  by_cases gw : wqS (I 1 1) (I 2) = -1
  · rw [if_pos gw] at e1
    obtain ⟨o1, o2, o3, o4, o5, o6⟩ := wqS_ok (show wqS (I 1 1) (I 2) < 0 by omega)
    have rb := rkq_b (I 2 2)
    have ca := fun (d' : Nat) (p : Int) (hp : 0 ≤ p) (hp2 : p < 3) => c_at (d := d') (S := S) (I := I) (p := p) (TA1 hQ) hp (by omega) t1
    have dg : ∀ (d' : Nat) (p : Int), 0 ≤ p → p < 3 → ev (d' + 1) 136 0 [(2, 1), (0, p)] [] S I = some ((0, I 2 p - 48), S, I) := fun d' p hp hp2 => by
      rw [E136_0 (TA1 hQ), ca _ p hp hp2]
      simp only [Option.bind_some, psh_i]
      rw [E136_5]
    rw [dg (d + 98) 0 (by decide) (by decide)] at e1
    simp only [Option.bind_some, psh_i] at e1
    rw [E142_26 hQ, dg (d + 98) 1 (by decide) (by decide)] at e1
    simp only [Option.bind_some, psh_i] at e1
    rw [E142_34 hQ, ca _ 2 (by decide) (by decide)] at e1
    simp only [Option.bind_some, psh_i] at e1
    have b2 := ht2 2 (by decide) o1
    rw [E142_42, c_rk ⟨by omega, by omega⟩] at e1
    simp only [Option.bind_some, psh_i] at e1
    have e61 : ev (d + 99 + 1) 142 45 [(2, 0), (0, wqS (I 1 1) (I 2)), (0, -1 - wqS (I 1 1) (I 2))] [(0, rkq (I 2 2)), (0, I 2 1 - 48), (0, I 2 0 - 48), (2, 5)] S I = ev (d + 99 + 1) 142 61 [(2, 0), (0, wqS (I 1 1) (I 2)), (0, -1 - wqS (I 1 1) (I 2))] [(0, if 3 < I 1 1 then 1 else 0), (0, rkq (I 2 2)), (0, I 2 1 - 48), (0, I 2 0 - 48), (2, 5)] S I := by
      rw [E142_45 hQ, w_small (z := I 1 1) (by omega) (by omega)]
      by_cases g : 3 < I 1 1
      · rw [if_pos g, if_pos g]
      · rw [if_neg g, if_neg g]
    have shb : (if 3 < I 1 1 then (1 : Int) else 0) = 0 ∨ (if 3 < I 1 1 then (1 : Int) else 0) = 1 := by split <;> omega
    generalize hsh : (if 3 < I 1 1 then (1 : Int) else 0) = sh at *
    rw [e61, E142_61 (DA5 hQ), E15_0 (DA5 hQ), nn, w_small (z := (cfM I).1) (by omega) (by omega), if_neg (by omega), E15_15] at e1
    by_cases g5 : (cfM I).1 < 5
    · rw [if_pos g5, gdR_pos (by omega), gdR_pos shb] at e1
      generalize hB1 : up2 (up2 (up2 (up2 (up2 I 5 0 ((cfM I).1 + 1)) (5 + 11 + 4 * (cfM I).1) 0 (I 2 0 - 48)) (5 + 11 + 4 * (cfM I).1) 1 (I 2 1 - 48)) (5 + 11 + 4 * (cfM I).1) 2 (rkq (I 2 2))) (5 + 11 + 4 * (cfM I).1) 3 sh = B at e1
      have b50 : B 5 0 = (cfM I).1 + 1 := by rw [← hB1]; simp (disch := omega) only [up2_miss, up2_hit]
      simp only [Option.bind_some, psh_i] at e1
      rw [E142_64, E142_65 hQ, E137_0 (TA1 hQ)] at e1
      simp only [Option.bind_some, psh_u] at e1
      rw [b50, E142_72 hQ, w_small (z := (cfM I).1 + 1 - 1) (by omega) (by omega), if_neg (by omega), E102_0 (PA67 hQ)] at e1
      simp only [Option.bind_some, psh_u] at e1
      rw [E142_83] at e1
      generalize hA : up2 (up2 B 1 1 0) 67 2 0 = A at e1
      have ao : ∀ x, x ≠ 1 → x ≠ 67 → x ≠ 5 → x ≠ 5 + 11 + 4 * (cfM I).1 → A x = I x := fun x h1 h2 h3 h4 => by rw [← hA, up2_oth h2, up2_oth h1, ← hB1, up2_oth h4, up2_oth h4, up2_oth h4, up2_oth h4, up2_oth h3]
      have ab : ∀ x, x ≠ 1 → x ≠ 67 → A x = B x := fun x h1 h2 => by rw [← hA, up2_oth h2, up2_oth h1]
      obtain ⟨K, k1, k2, k3, k4, k5⟩ := mq A (ao 429 (by decide) (by decide) (by decide) (by omega)) (by rw [ao 427 (by decide) (by decide) (by decide) (by omega)])
      rw [ao 429 (by decide) (by decide) (by decide) (by omega)] at k4 k5
      obtain ⟨k6, k7, k8⟩ := k5 (by rw [wc]; omega)
      have k14 : K 427 14 = (cfM I).1 := by rw [k2 14 (by decide) (by decide) (by decide) (by decide) (by decide), ao 427 (by decide) (by decide) (by decide) (by omega)]; exact nm
      rw [E207_68 hM, k7, k8, if_neg (Int.lt_irrefl _), k14, w_small (z := (cfM I).1) (by omega) (by omega), if_neg (by omega), gdR_pos (by omega), gdR_pos (by omega), gdR_pos (by omega), m_flag shb] at k6
      simp only [Option.bind_some, psh_i] at k6
      rw [E207_142s (show KA S 437 20 5 from MA_k19 hM) rfl hM, w_small (z := (cfM I).1) (by omega) (by omega), gdR_pos (by omega)] at k6
      generalize hP : up2 (up2 (up2 K 434 (cfM I).1 (I 429 0 - 48)) 435 (cfM I).1 (I 429 1 - 48)) 436 (cfM I).1 (rkq (I 429 2)) = P at k6
      have p14 : P 427 14 = (cfM I).1 := by rw [← hP]; simp (disch := omega) only [up2_miss]; exact k14
      have p15 : P 427 15 = I 427 15 := by rw [← hP]; simp (disch := omega) only [up2_miss]; rw [k2 15 (by decide) (by decide) (by decide) (by decide) (by decide), ao 427 (by decide) (by decide) (by decide) (by omega)]
      rw [p14, p15] at k6
      generalize hZ : up2 (up2 (up2 (up2 P 437 (cfM I).1 sh) 427 14 ((cfM I).1 + 1)) 427 22 0) 427 15 (I 427 15 + 1) = Z at k6
      have zo : ∀ x, x ≠ 427 → x ≠ 434 → x ≠ 435 → x ≠ 436 → x ≠ 437 → Z x = A x := fun x h1 h2 h3 h4 h5 => by rw [← hZ, up2_oth h1, up2_oth h1, up2_oth h1, up2_oth h5, ← hP, up2_oth h4, up2_oth h3, up2_oth h2, k1 x h1]
      have zk : ∀ k, k ≠ 0 → k ≠ 4 → k ≠ 5 → k ≠ 6 → k ≠ 7 → k ≠ 14 → k ≠ 15 → k ≠ 22 → Z 427 k = I 427 k := fun k h0 h4 h5 h6 h7 h8 h9 h10 => by
        rw [← hZ]; simp (disch := omega) only [up2_miss]
        rw [← hP]; simp (disch := omega) only [up2_miss]
        rw [k2 k h0 h4 h5 h6 h7, ao 427 (by decide) (by decide) (by decide) (by omega)]
      have z4 : Z 427 4 = 0 := by
        rw [← hZ]; simp (disch := omega) only [up2_miss]
        rw [← hP]; simp (disch := omega) only [up2_miss]
        exact k3
      have z14 : Z 427 14 = (cfM I).1 + 1 := by rw [← hZ]; simp (disch := omega) only [up2_miss, up2_hit]
      have z15 : Z 427 15 = I 427 15 + 1 := by rw [← hZ]; simp (disch := omega) only [up2_miss, up2_hit]
      have z22 : Z 427 22 = 0 := by rw [← hZ]; simp (disch := omega) only [up2_miss, up2_hit]
      have kI : ∀ x, x ≠ 427 → x ≠ 1 → x ≠ 67 → x ≠ 5 → x ≠ 5 + 11 + 4 * (cfM I).1 → K x = I x := fun x h1 h2 h3 h4 h5 => by rw [k1 x h1, ao x h2 h3 h4 h5]
      have z434 : Z 434 = updR (I 434) (cfM I).1 (I 429 0 - 48) := by rw [← hZ, up2_oth (by decide), up2_oth (by decide), up2_oth (by decide), up2_oth (by decide), ← hP, up2_oth (by decide), up2_oth (by decide), up2_row, kI 434 (by decide) (by decide) (by decide) (by decide) (by omega)]
      have z435 : Z 435 = updR (I 435) (cfM I).1 (I 429 1 - 48) := by rw [← hZ, up2_oth (by decide), up2_oth (by decide), up2_oth (by decide), up2_oth (by decide), ← hP, up2_oth (by decide), up2_row, up2_oth (by decide), kI 435 (by decide) (by decide) (by decide) (by decide) (by omega)]
      have z436 : Z 436 = updR (I 436) (cfM I).1 (rkq (I 429 2)) := by rw [← hZ, up2_oth (by decide), up2_oth (by decide), up2_oth (by decide), up2_oth (by decide), ← hP, up2_row, up2_oth (by decide), up2_oth (by decide), kI 436 (by decide) (by decide) (by decide) (by decide) (by omega)]
      have z437 : Z 437 = updR (I 437) (cfM I).1 sh := by rw [← hZ, up2_oth (by decide), up2_oth (by decide), up2_oth (by decide), up2_row, ← hP, up2_oth (by decide), up2_oth (by decide), up2_oth (by decide), kI 437 (by decide) (by decide) (by decide) (by decide) (by omega)]
      have x0 : I 429 0 = I 2 0 := (t3 0 (by decide) (by omega)).1
      have x1 : I 429 1 = I 2 1 := (t3 1 (by decide) (by omega)).1
      have x2 : I 429 2 = I 2 2 := (t3 2 (by decide) (by omega)).1
      rw [x0] at z434
      rw [x1] at z435
      rw [x2] at z436
      have zc : cfM Z = ((cfM I).1 + 1, updR (I 434) (cfM I).1 (I 2 0 - 48), updR (I 435) (cfM I).1 (I 2 1 - 48), updR (I 436) (cfM I).1 (rkq (I 2 2)), updR (I 437) (cfM I).1 sh) := by unfold cfM; rw [z14, z434, z435, z436, z437]; rfl
      have agree : ∀ q : Int, 0 ≤ q → q < (cfM I).1 → updR (I 434) (cfM I).1 (I 2 0 - 48) q = I 434 q ∧ updR (I 435) (cfM I).1 (I 2 1 - 48) q = I 435 q ∧ updR (I 436) (cfM I).1 (rkq (I 2 2)) q = I 436 q ∧ updR (I 437) (cfM I).1 sh q = I 437 q := fun q q0 q1 => ⟨updR_miss (by omega), updR_miss (by omega), updR_miss (by omega), updR_miss (by omega)⟩
      have hA5 : ∀ x, 5 ≤ x → x < 36 → Z x = A x := fun x h1 h2 => zo x (by omega) (by omega) (by omega) (by omega) (by omega)
      have hB5 : ∀ x, 5 ≤ x → x < 36 → Z x = B x := fun x h1 h2 => by rw [hA5 x h1 h2, ab x (by omega) (by omega)]
      have gZ : GD (cfM Z) Z 5 (I 438) := by
        rw [zc]
        refine ⟨RelD_new (C := cfM I) hD.1 hD.2.1 hk g5 rfl (fun x h1 h2 h3 h4 => ?_) (fun k h1 => ?_) ?_ (fun k h1 => ?_) ⟨?_, ?_, ?_, ?_⟩ (by show updR (I 437) (cfM I).1 sh (cfM I).1 = 0 ∨ updR (I 437) (cfM I).1 sh (cfM I).1 = 1; rw [updR_hit rfl]; exact shb) agree, WF_cf hD.2.1 hn0 (by show (cfM I).1 ≤ (cfM I).1 + 1; omega) (by show (cfM I).1 + 1 ≤ 5; omega) (fun q q0 q1 => ⟨(agree q q0 q1).2.1, (agree q q0 q1).2.2.1⟩), hD.2.2⟩
        · rw [hA5 x h1 (by omega)]; exact ao x (by omega) (by omega) h3 h4
        · rw [hB5 5 (by decide) (by decide), ← hB1]; simp (disch := omega) only [up2_miss]
        · rw [hB5 5 (by decide) (by decide)]; exact b50
        · rw [hB5 _ (by omega) (by omega), ← hB1]; simp (disch := omega) only [up2_miss]
        · rw [hB5 _ (by omega) (by omega), ← hB1]; simp (disch := omega) only [up2_miss, up2_hit]; exact (updR_hit rfl).symm
        · rw [hB5 _ (by omega) (by omega), ← hB1]; simp (disch := omega) only [up2_miss, up2_hit]; exact (updR_hit rfl).symm
        · rw [hB5 _ (by omega) (by omega), ← hB1]; simp (disch := omega) only [up2_miss, up2_hit]; exact (updR_hit rfl).symm
        · rw [hB5 _ (by omega) (by omega), ← hB1]; simp (disch := omega) only [up2_miss, up2_hit]; exact (updR_hit rfl).symm
      have zI : ∀ x, x ≠ 427 → x ≠ 434 → x ≠ 435 → x ≠ 436 → x ≠ 437 → x ≠ 1 → x ≠ 67 → (x < 5 ∨ 36 ≤ x) → Z x = I x := fun x h1 h2 h3 h4 h5 h6 h7 h8 => by rw [zo x h1 h2 h3 h4 h5, ao x h6 h7 (by omega) (by omega)]
      have z67 : Z 67 1 = I 67 1 ∧ Z 67 2 = 0 := by
        rw [zo 67 (by decide) (by decide) (by decide) (by decide) (by decide), ← hA]
        refine ⟨?_, up2_hit rfl rfl⟩
        rw [up2_miss (by decide), up2_oth (by decide), ← hB1, up2_oth (by omega), up2_oth (by omega), up2_oth (by omega), up2_oth (by omega), up2_oth (by decide)]
      have z38 : Z 438 = I 438 := zI 438 (by decide) (by decide) (by decide) (by decide) (by decide) (by decide) (by decide) (by decide)
      obtain ⟨tT, tR, tH, tD, tU, tP, tK, tB⟩ := h
      refine ⟨(cfM I).1 + 1 - 1, A, Z, e1, k6, cT_0 ?_ z4, cR_mem tR (zI 3 (by decide) (by decide) (by decide) (by decide) (by decide) (by decide) (by decide) (by decide)) (zI 4 (by decide) (by decide) (by decide) (by decide) (by decide) (by decide) (by decide) (by decide)) (zI 428 (by decide) (by decide) (by decide) (by decide) (by decide) (by decide) (by decide) (by decide)) (zk 1 (by decide) (by decide) (by decide) (by decide) (by decide) (by decide) (by decide) (by decide)), cH_mem tH (zI 424 (by decide) (by decide) (by decide) (by decide) (by decide) (by decide) (by decide) (by decide)) (zI 425 (by decide) (by decide) (by decide) (by decide) (by decide) (by decide) (by decide) (by decide)) (zI 426 (by decide) (by decide) (by decide) (by decide) (by decide) (by decide) (by decide) (by decide)) (zI 448 (by decide) (by decide) (by decide) (by decide) (by decide) (by decide) (by decide) (by decide)) (zI 449 (by decide) (by decide) (by decide) (by decide) (by decide) (by decide) (by decide) (by decide)) (zk 36 (by decide) (by decide) (by decide) (by decide) (by decide) (by decide) (by decide) (by decide)), ?_, cU_mem tU (zI 412 (by decide) (by decide) (by decide) (by decide) (by decide) (by decide) (by decide) (by decide)) (zI 413 (by decide) (by decide) (by decide) (by decide) (by decide) (by decide) (by decide) (by decide)) (zI 430 (by decide) (by decide) (by decide) (by decide) (by decide) (by decide) (by decide) (by decide)) (zk 10 (by decide) (by decide) (by decide) (by decide) (by decide) (by decide) (by decide) (by decide)), ?_, ?_, ?_⟩
      · rw [zo 1 (by decide) (by decide) (by decide) (by decide) (by decide), ← hA, up2_oth (by decide)]; exact up2_hit rfl rfl
      · unfold cD
        rw [z38]
        refine ⟨?_, gZ⟩
        rw [zc]
        refine ⟨by show 0 ≤ (cfM I).1 + 1; omega, by show (cfM I).1 + 1 ≤ 5; omega, fun q q0 q1 => ?_⟩
        have q1' : q < (cfM I).1 + 1 := q1
        show 2 ≤ updR (I 434) (cfM I).1 (I 2 0 - 48) q ∧ updR (I 434) (cfM I).1 (I 2 0 - 48) q ≤ 8 ∧ 2 ≤ updR (I 435) (cfM I).1 (I 2 1 - 48) q ∧ updR (I 435) (cfM I).1 (I 2 1 - 48) q ≤ 8 ∧ 0 ≤ updR (I 436) (cfM I).1 (rkq (I 2 2)) q ∧ updR (I 436) (cfM I).1 (rkq (I 2 2)) q ≤ 3 ∧ (updR (I 437) (cfM I).1 sh q = 0 ∨ updR (I 437) (cfM I).1 sh q = 1)
        by_cases g : q = (cfM I).1
        · rw [updR_hit g, updR_hit g, updR_hit g, updR_hit g]
          exact ⟨by omega, by omega, by omega, by omega, by omega, by omega, shb⟩
        · obtain ⟨a1, a2, a3, a4⟩ := agree q q0 (by omega)
          rw [a1, a2, a3, a4]
          exact hk.2.2 q q0 (by omega)
      · obtain ⟨p0, p1, p2, p3, p4, p5⟩ := tP
        exact ⟨by rw [z67.1]; exact p0, by rw [z67.1]; exact p1, by rw [z67.2]; exact Int.le_refl _, by rw [z67.2]; decide, by rw [z22, z67.2], fun i i0 i1 => by rw [z67.2] at i1; omega⟩
      · obtain ⟨c0, c1⟩ := tK
        have z53 : Z 453 = I 453 := zI 453 (by decide) (by decide) (by decide) (by decide) (by decide) (by decide) (by decide) (by decide)
        refine ⟨by rw [z15, z14, c0, nm], fun i i0 i1 => ?_⟩
        obtain ⟨c2, c3, c4⟩ := c1 i i0 i1
        rw [zI 452 (by decide) (by decide) (by decide) (by decide) (by decide) (by decide) (by decide) (by decide), zI 70 (by decide) (by decide) (by decide) (by decide) (by decide) (by decide) (by decide) (by decide), z53, zI 454 (by decide) (by decide) (by decide) (by decide) (by decide) (by decide) (by decide) (by decide), z14]
        refine ⟨c2, c3, fun x => ?_⟩
        obtain ⟨c5, c6, c7⟩ := c4 x
        refine ⟨c5, by omega, GD_cf (C := cfA I (I 453 i)) (GD_mem c7 (fun y y0 y1 => zI y (by omega) (by omega) (by omega) (by omega) (by omega) (by omega) (by omega) (by omega))) c5 rfl (by show I 453 i ≤ 5; omega) (fun q q0 q1 => ?_)⟩
        have q1' : q < I 453 i := q1
        show Z 434 q = I 434 q ∧ Z 435 q = I 435 q ∧ Z 436 q = I 436 q ∧ Z 437 q = I 437 q
        rw [z434, z435, z436, z437]
        exact agree q q0 (by omega)
      · unfold cB
        rw [z38, zI 439 (by decide) (by decide) (by decide) (by decide) (by decide) (by decide) (by decide) (by decide), zI 440 (by decide) (by decide) (by decide) (by decide) (by decide) (by decide) (by decide) (by decide), zI 454 (by decide) (by decide) (by decide) (by decide) (by decide) (by decide) (by decide) (by decide)]
        exact cB_le tB (by omega)
    · rw [if_neg g5] at e1
      simp only [Option.bind_some, psh_i] at e1
      rw [E142_64, E142_65 hQ, E137_0 (TA1 hQ)] at e1
      simp only [Option.bind_some, psh_u] at e1
      rw [E142_72 hQ, if_pos (by decide), E142_83] at e1
      obtain ⟨K, k1, k2, k3, k4, k5⟩ := mq (up2 I 1 1 0) (up2_oth (by decide)) (by rw [up2_oth (by decide)])
      rw [up2_oth (by decide)] at k4 k5
      obtain ⟨k6, k7, k8⟩ := k5 (by rw [wc]; omega)
      have k14 : K 427 14 = (cfM I).1 := by rw [k2 14 (by decide) (by decide) (by decide) (by decide) (by decide), up2_oth (by decide)]; exact nm
      have n5 : (cfM I).1 = 5 := by omega
      rw [E207_68 hM, k7, k8, if_neg (Int.lt_irrefl _), k14, n5, if_pos (by decide)] at k6
      have zo : ∀ x, x ≠ 427 → x ≠ 1 → K x = I x := fun x h1 h2 => by rw [k1 x h1, up2_oth h2]
      have zk : ∀ k, k ≠ 0 → k ≠ 4 → k ≠ 5 → k ≠ 6 → k ≠ 7 → K 427 k = I 427 k := fun k h0 h4 h5 h6 h7 => by rw [k2 k h0 h4 h5 h6 h7, up2_oth (by decide)]
      refine ⟨-100, _, K, e1, k6, ST_mk h (cT_0 ?_ k3) (cR_mem h.2.1 (zo 3 (by decide) (by decide)) (zo 4 (by decide) (by decide)) (zo 428 (by decide) (by decide)) (zk 1 (by decide) (by decide) (by decide) (by decide) (by decide))) (cU_mem h.2.2.2.2.1 (zo 412 (by decide) (by decide)) (zo 413 (by decide) (by decide)) (zo 430 (by decide) (by decide)) (zk 10 (by decide) (by decide) (by decide) (by decide) (by decide))) (fun x h1 h2 h3 h4 h5 h6 => zo x (by omega) h2) (fun k hk => zk k (by omega) (by omega) (by omega) (by omega) (by omega)) (fun x hx => zo x (by omega) (by omega)) ?_⟩
      · rw [k1 1 (by decide)]; exact up2_hit rfl rfl
      · rw [zo 439 (by decide) (by decide)]; exact BdN_le hB.2.1 (by omega)
  · rw [if_neg gw, E142_65 hQ, E137_0 (TA1 hQ)] at e1
    simp only [Option.bind_some, psh_u] at e1
    rw [E142_72 hQ, w_small (z := -1 - wqS (I 1 1) (I 2)) (by omega) (by omega), if_pos (by omega), E142_83] at e1
    obtain ⟨K, k1, k2, k3, k4, k5⟩ := mq (up2 I 1 1 0) (up2_oth (by decide)) (by rw [up2_oth (by decide)])
    rw [up2_oth (by decide), wc] at k4
    have k6 := k4 (by omega)
    have zo : ∀ x, x ≠ 427 → x ≠ 1 → K x = I x := fun x h1 h2 => by rw [k1 x h1, up2_oth h2]
    have zk : ∀ k, k ≠ 0 → k ≠ 4 → k ≠ 5 → k ≠ 6 → k ≠ 7 → K 427 k = I 427 k := fun k h0 h4 h5 h6 h7 => by rw [k2 k h0 h4 h5 h6 h7, up2_oth (by decide)]
    refine ⟨_, _, K, e1, k6, ST_mk h (cT_0 ?_ k3) (cR_mem h.2.1 (zo 3 (by decide) (by decide)) (zo 4 (by decide) (by decide)) (zo 428 (by decide) (by decide)) (zk 1 (by decide) (by decide) (by decide) (by decide) (by decide))) (cU_mem h.2.2.2.2.1 (zo 412 (by decide) (by decide)) (zo 413 (by decide) (by decide)) (zo 430 (by decide) (by decide)) (zk 10 (by decide) (by decide) (by decide) (by decide) (by decide))) (fun x h1 h2 h3 h4 h5 h6 => zo x (by omega) h2) (fun k hk => zk k (by omega) (by omega) (by omega) (by omega) (by omega)) (fun x hx => zo x (by omega) (by omega)) ?_⟩
    · rw [k1 1 (by decide)]; exact up2_hit rfl rfl
    · rw [zo 439 (by decide) (by decide)]; exact BdN_le hB.2.1 (by omega)
end ra11
