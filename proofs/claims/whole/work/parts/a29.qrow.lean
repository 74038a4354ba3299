/-! the law: queue and row -/
theorem ST_hi {N : Int} {I J : II} (h : ST N I) (hx : ∀ x, x < 455 → J x = I x) : ST N J := by
  obtain ⟨tT, tR, tH, tD, tU, tP, tK, tB⟩ := h
  have gx : ∀ x, x < 455 → J x = I x := hx
  have g27 : ∀ k, J 427 k = I 427 k := fun k => by rw [gx 427 (by decide)]
  have hc : cfM J = cfM I := cfM_mem (g27 14) (gx 434 (by decide)) (gx 435 (by decide)) (gx 436 (by decide)) (gx 437 (by decide))
  exact ⟨cT_mem tT (gx 1 (by decide)) (gx 2 (by decide)) (gx 429 (by decide)) (g27 4), cR_mem tR (gx 3 (by decide)) (gx 4 (by decide)) (gx 428 (by decide)) (g27 1), cH_mem tH (gx 424 (by decide)) (gx 425 (by decide)) (gx 426 (by decide)) (gx 448 (by decide)) (gx 449 (by decide)) (g27 36), cD_mem tD hc (gx 438 (by decide)) (fun x x0 x1 => gx x (by omega)), cU_mem tU (gx 412 (by decide)) (gx 413 (by decide)) (gx 430 (by decide)) (g27 10), cP_mem tP hc (fun k => by rw [gx 67 (by decide)]) (g27 22) (gx 440 (by decide)) (fun x x0 x1 => gx x (by omega)), cK_mem tK (g27 14) (g27 15) (gx 434 (by decide)) (gx 435 (by decide)) (gx 436 (by decide)) (gx 437 (by decide)) (gx 452 (by decide)) (gx 70 (by decide)) (gx 453 (by decide)) (gx 454 (by decide)) (fun x x0 x1 => gx x (by omega)), cB_mem tB (gx 438 (by decide)) (gx 439 (by decide)) (gx 440 (by decide)) (gx 454 (by decide))⟩
section r129
variable {d pc : Nat} {S : SS} {I : II} {N i L q f k : Int} {x5 x6 x7 : AV} {al : List AV}
theorem call_queue2 (hS : SH S) (h : ST N I) (hq : isI q) (hf : isI f) (g0 : 0 ≤ q) (g1 : q < (cfM I).1) (f0 : 0 ≤ f) (f1 : f < 13) : ev (d + 100) 187 0 [(2, 0), (0, q), (0, f), uU] [] S I = some ((0, I (5 + 11 + 4 * q) f), S, I) ∧ ev (d + 100) 209 0 [(2, 427), (0, q), (0, f)] [] S I = some ((0, I (5 + 11 + 4 * q) f), S, up2 I 427 0 0) := by
  obtain ⟨hQ, hM⟩ := hS
  have hk := h.2.2.2.1.1
  have hD := h.2.2.2.1.2
  have hn5 := hk.2.1
  have hK := isRw_K hM (Or.inl rfl : isRw 438)
  have hL := DA_lane (DA5 hQ) g0 (by omega : q < 5)
  obtain ⟨lf, -⟩ := hD.1.2.2.2.2.1 q g0 (by omega)
  obtain ⟨k0, k1, k2, k3⟩ := lf.1 g1
  have x38 : up2 I 427 0 0 438 = I 438 := up2_oth (by decide)
  refine ⟨?_, ?_⟩
  · rw [E187_0 hQ, c_lane (DA5 hQ) hD.1.1 hk hq, if_pos ⟨g0, g1⟩]
    simp only [Option.bind_some, psh_r]
    rw [E187_8 (Or.inr hL), if_neg (by omega), w_small hf.1 hf.2, if_neg (by omega), if_pos (by omega), c_detail hL lf.2.1 (lan_12 (hD.2.1.1.1 q g0 (by omega)).1 lf) f0 f1]
    simp only [Option.bind_some, psh_i]
    rw [E187_38]
  · rw [E209_0 hM, m_isQ0 (d := d + 98) hM hk hq, if_pos ⟨g0, g1⟩]
    simp only [Option.bind_some, psh_i]
    rw [E209_10, if_neg (by decide), w_small hf.1 hf.2, m_in (by omega) (by omega) (by decide) (by decide) (by decide) (by decide), if_pos (by omega)]
    simp only [Option.bind_some, psh_i]
    rw [E209_22 hM, if_neg (by decide), w_small hf.1 hf.2, w_small hq.1 hq.2]
    by_cases y0 : f = 0
    · subst y0; rw [if_pos rfl, gdR_pos (by omega), up2_oth (by decide), k0]; rfl
    rw [if_neg y0]
    by_cases y1 : f = 1
    · subst y1; rw [if_pos rfl, gdR_pos (by omega), up2_oth (by decide), k1]; rfl
    rw [if_neg y1]
    by_cases y2 : f = 2
    · subst y2; rw [if_pos rfl, gdR_pos (by omega), up2_oth (by decide), k2]; rfl
    rw [if_neg y2]
    by_cases y3 : f = 3
    · subst y3; rw [if_pos rfl, gdR_pos (by omega), up2_oth (by decide), k3]; rfl
    rw [if_neg y3, m_of hK (by omega) (by omega), x38]
    simp only [Option.bind_some, psh_i]
    rw [E209_99, lan_f lf (by omega) f1]
theorem call_row2 (hS : SH S) (h : ST N I) (hv : isI k) (g0 : 0 ≤ k) (g1 : k < I 3 1) : ev (d + 100) 188 0 [(2, 0), (0, k)] [] S I = some ((1, I 4 k), S, I) ∧ ev (d + 100) 310 0 [(2, 427), (0, k)] [] S I = some ((1, I 4 k), S, up2 I 427 0 0) := by
  obtain ⟨hQ, hM⟩ := hS
  obtain ⟨r0, r1, r2, r3⟩ := h.2.1
  refine ⟨?_, ?_⟩
  · rw [E188_0 hQ, w_small hv.1 hv.2, if_neg (by omega), w_small (z := I 3 1) (by omega) (by omega), if_pos g1, E114_0 (RA3 hQ), w_small hv.1 hv.2, if_neg (by omega), w_small (z := I 3 1) (by omega) (by omega), if_pos g1, gdR_pos (by omega), E114_22]
    simp only [Option.bind_some, psh_j]
    rw [E188_34]
  · rw [E310_0 hM, w_small hv.1 hv.2, r2, w_small (z := I 3 1 - 1) (by omega) (by omega), m_in (by omega) (by omega) (by decide) (by decide) (by omega) (by omega), if_pos (by omega)]
    simp only [Option.bind_some, psh_i]
    rw [E310_18 hM, if_neg (by decide), w_small hv.1 hv.2, gdR_pos (by omega), up2_oth (by decide), r3 k g0 g1]
/-- the reference refuses */ -/
theorem ref_queue (hS : SH S) (h : ST N I) (hq : isI q) (hf : isI f) (hn : ¬ ((0 ≤ q ∧ q < (cfM I).1) ∧ 0 ≤ f ∧ f < 13)) : ev (d + 100) 209 0 [(2, 427), (0, q), (0, f)] [] S I = some ((0, 0), S, up2 (up2 I 427 0 0) 427 0 1) := by
  obtain ⟨hQ, hM⟩ := hS
  have hk := h.2.2.2.1.1
  have fin : ev (d + 100) 209 25 [(2, 427), (0, q), (0, f)] [] S (up2 I 427 0 0) = some ((0, 0), S, up2 (up2 I 427 0 0) 427 0 1) := by
    rw [E209_25 hM, E211_0 hM]
    simp only [Option.bind_some, psh_i]
    rw [E209_29]
  by_cases c : 0 ≤ q ∧ q < (cfM I).1
  · have c2 : ¬ (0 ≤ f ∧ f ≤ 12) := by omega
    rw [E209_0 hM, m_isQ0 (d := d + 98) hM hk hq, if_pos c]
    simp only [Option.bind_some, psh_i]
    rw [E209_10, if_neg (by decide), w_small hf.1 hf.2, m_in (by have := hf.1; omega) (by have := hf.2; omega) (by decide) (by decide) (by decide) (by decide), if_neg c2]
    simp only [Option.bind_some, psh_i]
    rw [E209_22 hM, if_pos (by decide)]
    exact fin
  · rw [E209_0 hM, m_isQ0 (d := d + 98) hM hk hq, if_neg c]
    simp only [Option.bind_some, psh_i]
    rw [E209_10, if_pos (by decide)]
    exact fin
theorem ref_row (hS : SH S) (h : ST N I) (hv : isI k) (hn : ¬ (0 ≤ k ∧ k < I 3 1)) : ev (d + 100) 310 0 [(2, 427), (0, k)] [] S I = some ((1, 0), S, up2 (up2 I 427 0 0) 427 0 1) := by
  obtain ⟨hQ, hM⟩ := hS
  obtain ⟨r0, r1, r2, r3⟩ := h.2.1
  rw [E310_0 hM, w_small hv.1 hv.2, r2, w_small (z := I 3 1 - 1) (by omega) (by omega), m_in (by have := hv.1; omega) (by have := hv.2; omega) (by decide) (by decide) (by omega) (by omega), if_neg (by omega)]
  simp only [Option.bind_some, psh_i]
  rw [E310_18 hM, if_pos (by decide)]
theorem lCmp_self (x : Int) : lCmp x x = 0 := by
  unfold lCmp
  rw [if_neg (by omega), if_pos rfl]
theorem cN325 : cN (mC 325) = RL := by decide +kernel
theorem lo4 {d r n : Nat} (hn : n ≤ 20) (h : 100 * (d + 2 + 1 + 1) ≤ r) : 8 + (n + 11) + 100 * (d + 3) ≤ r := by
  have e : 100 * (d + 2 + 1 + 1) = 100 * (d + 3) + 100 := Nat.mul_succ 100 (d + 3)
  rw [e] at h
  generalize 100 * (d + 3) = z at h ⊢
  omega
/-- the state at the loop's head -/
def LOK (S : SS) : Prop := SH S ∧ KA S 455 21 1
theorem LOK_ext {T : SS} (h : SE S T) (g : LOK S) : LOK T := ⟨SH_ext h g.1, KA_ext h g.2⟩
/-- from a place to 1331, the law's own numbers let go -/
def LXE (d : Nat) (N : Int) (S : SS) (I : II) (P : Nat) (i : Int) (x5 x6 x7 : AV) : Prop := ∃ y5 y6 y7 T I2, SG 325 (d + 100) P (LOC i x5 x6 x7) [] S I 1331 (LOC i y5 y6 y7) [] T I2 ∧ ST (N + 120000) I2 ∧ SE S T ∧ T.1 ≤ S.1 + 4 ∧ T.2.1 ≤ S.2.1 + 40 ∧ (∀ k, I2 (-2) k = I (-2) k) ∧ y5.1 ≠ 1
theorem LX.e {P : Nat} (h : LX d N S I P (LOC i x5 x6 x7)) (h5 : x5.1 ≠ 1) : LXE d N S I P i x5 x6 x7 := by
  obtain ⟨T, I2, h1, h2, h3, h4, h6, h7⟩ := h
  exact ⟨x5, x6, x7, T, I2, h1, h2, h3, h4, h6, h7, h5⟩
theorem sg_lawq {ag r : List AV} {v : AV} {S1 : SS} {I1 : II} {mc ms : Nat} (hM : ∀ (X : XX) (l : Launch), l.stackTraces = false → Met l yL_queue wlq { frames := d + 3, cells := mc, slots := ms, locals := 100 * (d + 3) } (PMx X ag S I) (QM X v S1 I1) mc ms (aX X)) (hN : sN S1 = sN S + mc) (hLs : sL S1 = sL S + ms) (hd : decode (mB 325) pc = .ok (.invokestatic 42, 3)) (hlen : ag.length = 4) (h8 : (r.map cat).sum ≤ 8) : SG 325 (d + 2) pc al (ag.reverse ++ r) S I (pc + 3) al (psh v r) S1 I1 := by
  intro X p l e R s m args below meth c Q hC hl0 hE
  refine ⟨mc, ms, hN, hLs, fun H locs ls cells slots hR hS hl h1 h2 kk0 => ?_⟩
  obtain ⟨hx, hb, hml, hown, hts, hin, hr, hlk, hK, hH, hf, hlo⟩ := hC
  rw [cN325] at hown
  have hPM : ∀ U : State, U.heap = H → s.WarmedH U.vm → PMx X ag S I (ag.map (cv X)).toArray U := fun U hU hW =>
    ⟨rfl, by rw [hU]; exact hR, hK.warm hW, by rw [hU]; exact (hH.move hW.alike).keep hS, by rw [hU]; exact (hE.move hW).keep hS⟩
  have hsum := w_map_cat X r 8 h8
  have hpar : (parseMethodDescriptor yL_queue.desc).map (fun g => g.parameters.length) = some 4 := by decide +kernel
  rw [List.map_append, List.map_reverse]
  refine run_back (X := X) (a := (ag.map (cv X)).toArray) (S' := S1) (I' := I1) (v := v) (r := r) hS ?_ (fun H1 locs1 hR1 hS1 => kk0 H1 locs1 ls hR1 hS1 hl)
  refine vx_runSW (hh := [(0, 10, 13, 13)]) (bytes := cL_queue) (maxL := 5) (ret := some .int) (n := 4) (As := ag.map (cv X)) (own := RL) ⟨hx, hb, hml, hown, hts⟩ (hM X l hl0) ⟨⟨rfl, rfl, hf, lo4 (n := 5) (by decide) hlo, pay_in hts (gw_hws wlq_in), List.mem_cons_self⟩, hts _ wlq_c, hts _ wl_i, by decide +kernel, fun sig hs => ?_, hts _ wl_l42, hts _ wl_s42⟩ ⟨PMx.blind X ag S I, hPM⟩ rfl (by rw [List.length_map, hlen]) hl.1 rfl (by show 2 * 0 + _ ≤ 8; omega) hd ⟨h1, h2⟩
  rw [hs] at hpar
  exact (Option.some.inj hpar).symm
theorem sg_lawr {ag r : List AV} {v : AV} {S1 : SS} {I1 : II} {mc ms : Nat} (hM : ∀ (X : XX) (l : Launch), l.stackTraces = false → Met l yL_row wlr { frames := d + 3, cells := mc, slots := ms, locals := 100 * (d + 3) } (PMx X ag S I) (QM X v S1 I1) mc ms (aX X)) (hN : sN S1 = sN S + mc) (hLs : sL S1 = sL S + ms) (hd : decode (mB 325) pc = .ok (.invokestatic 197, 3)) (hlen : ag.length = 3) (h8 : (r.map cat).sum ≤ 8) : SG 325 (d + 2) pc al (ag.reverse ++ r) S I (pc + 3) al (psh v r) S1 I1 := by
  intro X p l e R s m args below meth c Q hC hl0 hE
  refine ⟨mc, ms, hN, hLs, fun H locs ls cells slots hR hS hl h1 h2 kk0 => ?_⟩
  obtain ⟨hx, hb, hml, hown, hts, hin, hr, hlk, hK, hH, hf, hlo⟩ := hC
  rw [cN325] at hown
  have hPM : ∀ U : State, U.heap = H → s.WarmedH U.vm → PMx X ag S I (ag.map (cv X)).toArray U := fun U hU hW =>
    ⟨rfl, by rw [hU]; exact hR, hK.warm hW, by rw [hU]; exact (hH.move hW.alike).keep hS, by rw [hU]; exact (hE.move hW).keep hS⟩
  have hsum := w_map_cat X r 8 h8
  have hpar : (parseMethodDescriptor yL_row.desc).map (fun g => g.parameters.length) = some 3 := by decide +kernel
  rw [List.map_append, List.map_reverse]
  refine run_back (X := X) (a := (ag.map (cv X)).toArray) (S' := S1) (I' := I1) (v := v) (r := r) hS ?_ (fun H1 locs1 hR1 hS1 => kk0 H1 locs1 ls hR1 hS1 hl)
  refine vx_runSW (hh := [(0, 8, 11, 13)]) (bytes := cL_row) (maxL := 4) (ret := some .int) (n := 3) (As := ag.map (cv X)) (own := RL) ⟨hx, hb, hml, hown, hts⟩ (hM X l hl0) ⟨⟨rfl, rfl, hf, lo4 (n := 4) (by decide) hlo, pay_in hts (gw_hws wlr_in), List.mem_cons_self⟩, hts _ wlr_c, hts _ wl_i, by decide +kernel, fun sig hs => ?_, hts _ wl_l197, hts _ wl_s197⟩ ⟨PMx.blind X ag S I, hPM⟩ rfl (by rw [List.length_map, hlen]) hl.1 rfl (by show 2 * 0 + _ ≤ 8; omega) hd ⟨h1, h2⟩
  rw [hs] at hpar
  exact (Option.some.inj hpar).symm
theorem sg_i0_eqT' {mi pc' : Nat} {st : List AV} {x off : Int} (hd : decode (mB mi) pc = .ok (.ifCond .eq off, 3)) (h0 : 0 ≤ (pc : Int) + off) (h1 : ((pc : Int) + off).toNat = pc') (h : x = 0) : st1 mi pc al ((0, x) :: st) S I = nx pc' al st S I := sg_i0_eqT hd h0 h1 (by rw [h])
theorem newI_lo {x : Int} (h : x < (S.1 : Int)) : newI S I x = I x := newI_oth h

theorem lc_queue (hS : LOK S) (h : ST N I) (hN0 : 100 ≤ N) (hN : N < 66000000) (hI : ∀ k, isI (I (-2) k)) (hs : SCR S i L) (h5 : x5.1 ≠ 1) (hN1 : (455 : Int) < (S.1 : Int)) : LXE (d + 2) N S I 296 i x5 x6 x7 := by
  obtain ⟨hS, hA⟩ := hS
  have hQ0 : KO S 0 8 := QA_o hS.1
  have hq := hI (i + 1)
  have hf := hI (i + 2)
  suffices main : ∀ q f : Int, I (-2) (i + 1) = q → I (-2) (i + 2) = f → isI q → isI f → LXE (d + 2) N S I 296 i x5 x6 x7 from main _ _ rfl rfl hq hf
  clear hq hf
  intro q f eq ef hq hf
  have road : ∀ (T : SS) (I1 I2 : II) (kk rr : Int), SG 325 (d + 2 + 100) 310 (LOC i x5 x6 x7) [(2, 455), (0, f), (0, q), (2, 0)] S I 313 (LOC i x5 x6 x7) [(0, kk)] T I1 → SCR T i L → LOK T → (∀ k, I1 (-2) k = I (-2) k) → ev (d + 2 + 100) 209 0 [(2, 427), (0, q), (0, f)] [] T I1 = some ((0, rr), T, I2) → I2 427 0 = kk → (kk = 0 ∧ I2 455 0 = w rr ∨ kk = 1) → SG 325 (d + 2 + 100) 296 (LOC i x5 x6 x7) [] S I 1331 (LOC i (0, kk) (0, rr) x7) [] T I2 := by
    intro T I1 I2 kk rr hsg hs2 hT hk1 hev hth hrr
    obtain ⟨hT, hTA⟩ := hT
    refine SG.to (sg_aload_n (n := 1) (by decide +kernel) rfl) ?_
    refine SG.tr (sg_arg (j := 1) (by decide +kernel) hs (by decide) (by decide)) ?_
    rw [eq]
    refine SG.tr (sg_arg (j := 2) (by decide +kernel) hs (by decide) (by decide)) ?_
    rw [ef]
    refine SG.to (sg_aload_n (n := 3) (by decide +kernel) rfl) ?_
    refine SG.tr hsg ?_
    refine SG.to (sg_istore (n := 5) (al' := LOC i (0, kk) x6 x7) (by decide +kernel) (Nat.le_of_ble_eq_true rfl) rfl rfl) ?_
    refine SG.to (sg_aload_n (n := 2) (by decide +kernel) rfl) ?_
    refine SG.tr (sg_arg (j := 1) (by decide +kernel) hs2 (by decide) (by decide)) ?_
    rw [hk1, eq]
    refine SG.tr (sg_arg (j := 2) (by decide +kernel) hs2 (by decide) (by decide)) ?_
    rw [hk1, ef]
    refine SG.cl2 (st1' := [(0, rr)]) (sg_virt (idx := 47) (ag := [(2, 427), (0, q), (0, f)]) (r := []) (np := 2) (c := 11) (nl := 3) (by decide +kernel) (lk_of (mj := 209) (by decide +kernel)) (by decide +kernel : MFc 209 2 11 3) (Nat.le_of_ble_eq_true rfl) rfl rfl (Nat.le_of_ble_eq_true rfl) (by decide) (MA_o hT.2) rfl) ((congrArg (fun z => ev (d + 2 + 100) 209 0 z [] T I1) (ent_of (al := [(2, 427), (0, q), (0, f)]) (by decide +kernel : MFc 209 2 11 3) rfl)).trans hev) rfl ?_
    refine SG.to (sg_istore (n := 6) (al' := LOC i (0, kk) (0, rr) x7) (by decide +kernel) (Nat.le_of_ble_eq_true rfl) rfl rfl) ?_
    refine SG.to (sg_aload_n (n := 2) (by decide +kernel) rfl) ?_
    refine SG.cl2 (st1' := [(0, kk)]) (sg_virt (idx := 48) (ag := [(2, 427)]) (r := []) (np := 0) (c := 11) (nl := 1) (by decide +kernel) (lk_of (mj := 189) (by decide +kernel)) (by decide +kernel : MFc 189 0 11 1) (Nat.le_of_ble_eq_true rfl) rfl rfl (Nat.le_of_ble_eq_true rfl) (by decide) (MA_o hT.2) rfl) ((congrArg (fun z => ev (d + 2 + 100) 189 0 z [] T I2) (ent_of (al := [(2, 427)]) (by decide +kernel : MFc 189 0 11 1) rfl)).trans (E189_0 hT.2)) (congrArg (fun z => [((0 : Nat), z)]) hth) ?_
    refine SG.to (sg_iload (n := 5) (x := kk) (by decide +kernel) rfl) ?_
    refine SG.to (sg_if_eq (off := 5) (pc' := 344) (by decide +kernel) (by decide) (by decide) rfl) ?_
    refine SG.to (sg_iload (n := 5) (x := kk) (by decide +kernel) rfl) ?_
    rcases hrr with ⟨rfl, hrr⟩ | rfl
    · refine SG.to (sg_i0_neF (off := 15) (by decide +kernel) (by decide) rfl) ?_
      refine SG.to (sg_aload_n (n := 3) (by decide +kernel) rfl) ?_
      refine SG.to (sg_iconst (z := 0) (by decide +kernel)) ?_
      refine SG.to (sg_la (by decide +kernel) hTA (by decide) (by decide) (by decide)) ?_
      rw [hrr]
      refine SG.to (sg_iload (n := 6) (x := rr) (by decide +kernel) rfl) ?_
      refine SG.to (sg_i2l (by decide +kernel)) ?_
      refine SG.to (sg_lcmp (by decide +kernel)) ?_
      refine SG.to (sg_i0_eqT' (off := 5) (pc' := 361) (by decide +kernel) (by decide) (by decide) (lCmp_self _)) ?_
      exact SG.one (sg_goto (off := 970) (by decide +kernel) (by decide) (by decide))
    · refine SG.to (sg_i0_neT (off := 15) (pc' := 361) (by decide +kernel) (by decide) (by decide) (by decide)) ?_
      exact SG.one (sg_goto (off := 970) (by decide +kernel) (by decide) (by decide))
  have hup : ∀ (J : II) (v : Int) (x k : Int), x ≠ 427 → up2 J 427 0 v x k = J x k := fun J v x k hx => up2_miss (fun e => hx e.1)
  by_cases hc : (0 ≤ q ∧ q < (cfM I).1) ∧ 0 ≤ f ∧ f < 13
  · obtain ⟨⟨g0, g1⟩, f0, f1⟩ := hc
    obtain ⟨c1, -⟩ := call_queue2 (d := d) hS h hq hf g0 g1 f0 f1
    have w0 : w 0 = 0 := w_small (by decide) (by decide)
    have hI1 : ∀ x, x < 455 → up2 I 455 0 (w (I (5 + 11 + 4 * q) f)) x = I x := fun x hx => by funext k; exact up2_miss (by omega)
    have h1 : ST N (up2 I 455 0 (w (I (5 + 11 + 4 * q) f))) := ST_hi h hI1
    have hcf : cfM (up2 I 455 0 (w (I (5 + 11 + 4 * q) f))) = cfM I := cfM_mem (by rw [hI1 427 (by decide)]) (hI1 434 (by decide)) (hI1 435 (by decide)) (hI1 436 (by decide)) (hI1 437 (by decide))
    obtain ⟨-, c2⟩ := call_queue2 (d := d + 2) hS h1 hq hf g0 (by rw [hcf]; exact g1) f0 f1
    rw [show up2 I 455 0 (w (I (5 + 11 + 4 * q) f)) (5 + 11 + 4 * q) f = I (5 + 11 + 4 * q) f from up2_miss (by have := h.2.2.2.1.1.2.1; omega)] at c2
    have hb := sg_lawq (d := d + 100) (pc := 310) (al := LOC i x5 x6 x7) (ag := [(2, 0), (0, q), (0, f), (2, 455)]) (r := []) (v := (0, 0)) (S1 := S) (I1 := up2 I 455 (w 0) (w (I (5 + 11 + 4 * q) f))) (mc := 0) (ms := 0) (fun X l _ => lq_back (r := I (5 + 11 + 4 * q) f) hQ0 hA ((congrArg (fun z => ev (d + 100) 187 0 z [] S I) (ent_of (ag := [(2, 0), (0, q), (0, f)]) (al := [(2, 0), (0, q), (0, f), uU]) (by decide +kernel : MFc 187 2 10 4) rfl)).trans c1)) rfl rfl (by decide +kernel) rfl (Nat.zero_le _)
    rw [w0] at hb
    exact ⟨_, _, _, S, _, road S (up2 I 455 0 (w (I (5 + 11 + 4 * q) f))) _ 0 (I (5 + 11 + 4 * q) f) hb hs ⟨hS, hA⟩ (fun k => up2_miss (by omega)) c2 (up2_hit rfl rfl) (Or.inl ⟨rfl, by rw [hup _ _ _ _ (by decide), up2_hit rfl rfl]⟩), ST_le (ST_0 (v := 0) h1) (by omega), SE_refl, by omega, by omega, fun k => by rw [hup _ _ _ _ (by decide), up2_miss (by omega)], by show (0 : Nat) ≠ 1; decide⟩
  · obtain ⟨x, hroad⟩ := q_road (d := d + 100) hS h hq hf hc
    have hse : SE S (newS S 99 6) := SE_new
    have hI1 : ∀ x, x < (S.1 : Int) → newI S I x = I x := fun x hx => newI_oth hx
    have h1 : ST N (newI S I) := ST_hi h (fun x hx => hI1 x (by omega))
    have hcf : cfM (newI S I) = cfM I := cfM_mem (by rw [hI1 427 (by omega)]) (hI1 434 (by omega)) (hI1 435 (by omega)) (hI1 436 (by omega)) (hI1 437 (by omega))
    have c2 := ref_queue (d := d + 2) (SH_ext hse hS) h1 hq hf (by rw [hcf]; exact hc)
    have hb := sg_lawq (d := d + 100) (pc := 310) (al := LOC i x5 x6 x7) (ag := [(2, 0), (0, q), (0, f), (2, 455)]) (r := []) (v := (0, 1)) (S1 := newS S 99 6) (I1 := newI S I) (mc := 1) (ms := 6) (fun X l hl => lq_throw hl (by omega) hQ0 (by rw [(ent_of (ag := [(2, 0), (0, q), (0, f)]) (al := [(2, 0), (0, q), (0, f), uU]) (by decide +kernel : MFc 187 2 10 4) rfl)]; exact hroad)) rfl rfl (by decide +kernel) rfl (Nat.zero_le _)
    have hse2 : SCR (newS S 99 6) i L := ⟨((hse.2 (-2) (by omega)).1).trans hs.1, hs.2⟩
    exact ⟨_, _, _, newS S 99 6, _, road (newS S 99 6) (newI S I) _ 1 0 hb hse2 (LOK_ext hse ⟨hS, hA⟩) (fun k => by rw [hI1 (-2) (by omega)]) c2 (up2_hit rfl rfl) (Or.inr rfl), ST_le (ST_0 (v := 1) (ST_0 (v := 0) h1)) (by omega), hse, by show S.1 + 1 ≤ S.1 + 4; omega, by show S.2.1 + 6 ≤ S.2.1 + 40; omega, fun k => by rw [hup _ _ _ _ (by decide), hup _ _ _ _ (by decide), hI1 (-2) (by omega)], by show (0 : Nat) ≠ 1; decide⟩
theorem lc_row (hS : LOK S) (h : ST N I) (hN0 : 100 ≤ N) (hN : N < 66000000) (hI : ∀ k, isI (I (-2) k)) (hs : SCR S i L) (h5 : x5.1 ≠ 1) (hN1 : (455 : Int) < (S.1 : Int)) : LXE (d + 2) N S I 1276 i x5 x6 x7 := by
  obtain ⟨hS, hA⟩ := hS
  have hQ0 : KO S 0 8 := QA_o hS.1
  have hk := hI (i + 1)
  suffices main : ∀ k : Int, I (-2) (i + 1) = k → isI k → LXE (d + 2) N S I 1276 i x5 x6 x7 from main _ rfl hk
  clear hk
  intro k ek hk
  have road : ∀ (T : SS) (I1 I2 : II) (kk rr : Int), SG 325 (d + 2 + 100) 1284 (LOC i x5 x6 x7) [(2, 455), (0, k), (2, 0)] S I 1287 (LOC i x5 x6 x7) [(0, kk)] T I1 → SCR T i L → LOK T → (∀ k, I1 (-2) k = I (-2) k) → ev (d + 2 + 100) 310 0 [(2, 427), (0, k)] [] T I1 = some ((1, rr), T, I2) → I2 427 0 = kk → (kk = 0 ∧ I2 455 0 = rr ∨ kk = 1) → SG 325 (d + 2 + 100) 1276 (LOC i x5 x6 x7) [] S I 1331 (LOC i (0, kk) (1, rr) uU) [] T I2 := by
    intro T I1 I2 kk rr hsg hs2 hT hk1 hev hth hrr
    obtain ⟨hT, hTA⟩ := hT
    refine SG.to (sg_aload_n (n := 1) (by decide +kernel) rfl) ?_
    refine SG.tr (sg_arg (j := 1) (by decide +kernel) hs (by decide) (by decide)) ?_
    rw [ek]
    refine SG.to (sg_aload_n (n := 3) (by decide +kernel) rfl) ?_
    refine SG.tr hsg ?_
    refine SG.to (sg_istore (n := 5) (al' := LOC i (0, kk) x6 x7) (by decide +kernel) (Nat.le_of_ble_eq_true rfl) rfl rfl) ?_
    refine SG.to (sg_aload_n (n := 2) (by decide +kernel) rfl) ?_
    refine SG.tr (sg_arg (j := 1) (by decide +kernel) hs2 (by decide) (by decide)) ?_
    rw [hk1, ek]
    refine SG.cl2 (st1' := [(1, rr)]) (sg_virt (idx := 200) (ag := [(2, 427), (0, k)]) (r := []) (np := 1) (c := 11) (nl := 2) (by decide +kernel) (lk_of (mj := 310) (by decide +kernel)) (by decide +kernel : MFc 310 1 11 2) (Nat.le_of_ble_eq_true rfl) rfl rfl (Nat.le_of_ble_eq_true rfl) (by decide) (MA_o hT.2) rfl) ((congrArg (fun z => ev (d + 2 + 100) 310 0 z [] T I1) (ent_of (al := [(2, 427), (0, k)]) (by decide +kernel : MFc 310 1 11 2) rfl)).trans hev) rfl ?_
    refine SG.to (sg_lstore (n := 6) (al' := LOC i (0, kk) (1, rr) uU) (by decide +kernel) (Nat.le_of_ble_eq_true rfl) rfl rfl) ?_
    refine SG.to (sg_aload_n (n := 2) (by decide +kernel) rfl) ?_
    refine SG.cl2 (st1' := [(0, kk)]) (sg_virt (idx := 48) (ag := [(2, 427)]) (r := []) (np := 0) (c := 11) (nl := 1) (by decide +kernel) (lk_of (mj := 189) (by decide +kernel)) (by decide +kernel : MFc 189 0 11 1) (Nat.le_of_ble_eq_true rfl) rfl rfl (Nat.le_of_ble_eq_true rfl) (by decide) (MA_o hT.2) rfl) ((congrArg (fun z => ev (d + 2 + 100) 189 0 z [] T I2) (ent_of (al := [(2, 427)]) (by decide +kernel : MFc 189 0 11 1) rfl)).trans (E189_0 hT.2)) (congrArg (fun z => [((0 : Nat), z)]) hth) ?_
    refine SG.to (sg_iload (n := 5) (x := kk) (by decide +kernel) rfl) ?_
    refine SG.to (sg_if_eq (off := 5) (pc' := 1312) (by decide +kernel) (by decide) (by decide) rfl) ?_
    refine SG.to (sg_iload (n := 5) (x := kk) (by decide +kernel) rfl) ?_
    rcases hrr with ⟨rfl, hrr⟩ | rfl
    · refine SG.to (sg_i0_neF (off := 14) (by decide +kernel) (by decide) rfl) ?_
      refine SG.to (sg_aload_n (n := 3) (by decide +kernel) rfl) ?_
      refine SG.to (sg_iconst (z := 0) (by decide +kernel)) ?_
      refine SG.to (sg_la (by decide +kernel) hTA (by decide) (by decide) (by decide)) ?_
      rw [hrr]
      refine SG.to (sg_lload (n := 6) (x := rr) (by decide +kernel) rfl) ?_
      refine SG.to (sg_lcmp (by decide +kernel)) ?_
      refine SG.to (sg_i0_eqT' (off := 5) (pc' := 1328) (by decide +kernel) (by decide) (by decide) (lCmp_self _)) ?_
      exact SG.one (sg_goto (off := 3) (by decide +kernel) (by decide) (by decide))
    · refine SG.to (sg_i0_neT (off := 14) (pc' := 1328) (by decide +kernel) (by decide) (by decide) (by decide)) ?_
      exact SG.one (sg_goto (off := 3) (by decide +kernel) (by decide) (by decide))
  have hup : ∀ (J : II) (v : Int) (x k : Int), x ≠ 427 → up2 J 427 0 v x k = J x k := fun J v x k hx => up2_miss (fun e => hx e.1)
  by_cases hc : 0 ≤ k ∧ k < I 3 1
  · obtain ⟨g0, g1⟩ := hc
    obtain ⟨c1, -⟩ := call_row2 (d := d) hS h hk g0 g1
    have w0 : w 0 = 0 := w_small (by decide) (by decide)
    have hI1 : ∀ x, x < 455 → up2 I 455 0 (I 4 k) x = I x := fun x hx => by funext k; exact up2_miss (by omega)
    have h1 : ST N (up2 I 455 0 (I 4 k)) := ST_hi h hI1
    obtain ⟨-, c2⟩ := call_row2 (d := d + 2) hS h1 hk g0 (by rw [hI1 3 (by decide)]; exact g1)
    rw [show up2 I 455 0 (I 4 k) 4 k = I 4 k from up2_miss (by omega)] at c2
    have hb := sg_lawr (d := d + 100) (pc := 1284) (al := LOC i x5 x6 x7) (ag := [(2, 0), (0, k), (2, 455)]) (r := []) (v := (0, 0)) (S1 := S) (I1 := up2 I 455 (w 0) (I 4 k)) (mc := 0) (ms := 0) (fun X l _ => lr_back (r := I 4 k) hQ0 hA ((congrArg (fun z => ev (d + 100) 188 0 z [] S I) (ent_of (ag := [(2, 0), (0, k)]) (al := [(2, 0), (0, k)]) (by decide +kernel : MFc 188 1 10 2) rfl)).trans c1)) rfl rfl (by decide +kernel) rfl (Nat.zero_le _)
    rw [w0] at hb
    exact ⟨_, _, _, S, _, road S (up2 I 455 0 (I 4 k)) _ 0 (I 4 k) hb hs ⟨hS, hA⟩ (fun k => up2_miss (by omega)) c2 (up2_hit rfl rfl) (Or.inl ⟨rfl, by rw [hup _ _ _ _ (by decide), up2_hit rfl rfl]⟩), ST_le (ST_0 (v := 0) h1) (by omega), SE_refl, by omega, by omega, fun k => by rw [hup _ _ _ _ (by decide), up2_miss (by omega)], by show (0 : Nat) ≠ 1; decide⟩
  · have hroad := r_road (d := d + 100) hS h hk hc
    have hse : SE S (newS S 99 6) := SE_new
    have hI1 : ∀ x, x < (S.1 : Int) → newI S I x = I x := fun x hx => newI_oth hx
    have h1 : ST N (newI S I) := ST_hi h (fun x hx => hI1 x (by omega))
    have c2 := ref_row (d := d + 2) (SH_ext hse hS) h1 hk (by rw [hI1 3 (by omega)]; exact hc)
    have hb := sg_lawr (d := d + 100) (pc := 1284) (al := LOC i x5 x6 x7) (ag := [(2, 0), (0, k), (2, 455)]) (r := []) (v := (0, 1)) (S1 := newS S 99 6) (I1 := newI S I) (mc := 1) (ms := 6) (fun X l hl => lr_throw hl (by omega) hQ0 (by rw [(ent_of (ag := [(2, 0), (0, k)]) (al := [(2, 0), (0, k)]) (by decide +kernel : MFc 188 1 10 2) rfl)]; exact hroad)) rfl rfl (by decide +kernel) rfl (Nat.zero_le _)
    have hse2 : SCR (newS S 99 6) i L := ⟨((hse.2 (-2) (by omega)).1).trans hs.1, hs.2⟩
    exact ⟨_, _, _, newS S 99 6, _, road (newS S 99 6) (newI S I) _ 1 0 hb hse2 (LOK_ext hse ⟨hS, hA⟩) (fun k => by rw [hI1 (-2) (by omega)]) c2 (up2_hit rfl rfl) (Or.inr rfl), ST_le (ST_0 (v := 1) (ST_0 (v := 0) h1)) (by omega), hse, by show S.1 + 1 ≤ S.1 + 4; omega, by show S.2.1 + 6 ≤ S.2.1 + 40; omega, fun k => by rw [hup _ _ _ _ (by decide), hup _ _ _ _ (by decide), hI1 (-2) (by omega)], by show (0 : Nat) ≠ 1; decide⟩
end r129
