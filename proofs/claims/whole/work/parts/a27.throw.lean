/-! where the class throws -/
theorem va_pl_sub {L : List Nat} {f g : Nat → va_E} (h : ∀ a ∈ L, f a = g a) : va_pl L f = va_pl L g := List.map_congr_left fun a ha => by rw [h a ha]
theorem rel_thrown {X : XX} {S : SS} {I : II} {H H1 : Heap} {n : Nat} (hR : Rel X S I H) (z : H1.size = H.size + 1) (oq : ∀ q : Nat, q < H.size → H1[q]? = H[q]?) : Rel X (newS S 99 n) (newI S I) H1 := by
  obtain ⟨r1, r2, r3, r4, r5, r6⟩ := hR
  have hk : ∀ j : Int, j ≠ (sN S : Int) → sH (newS S 99 n) j = sH S j := fun j hj => by
    show (if j = (S.1 : Int) then ((99 : Int), (n : Int)) else sH S j) = _
    rw [if_neg hj]
  have hL : Lw X (newS S 99 n) = Lw X S := by
    unfold Lw
    rw [show sN (newS S 99 n) = sN S + 1 from rfl, List.range_succ, List.filter_append, List.map_append, List.filter_cons_of_neg (by rw [new_at]; simp), List.filter_nil, List.map_nil, List.append_nil]
    congr 1
    apply List.filter_congr
    intro j hj
    have := List.mem_range.mp hj
    rw [hk _ (by omega)]
  have hW : WS X (newS S 99 n) (newI S I) = WS X S I := by
    unfold WS
    rw [hL]
    congr 1
    apply va_pl_sub
    intro a ha
    obtain ⟨j, hj, rfl⟩ := List.mem_map.mp ha
    have := List.mem_range.mp (List.mem_filter.mp hj).1
    unfold Wf
    exact ce_new (by omega)
  refine ⟨by rw [z, r1]; rfl, ?_, ?_, fun a => ?_, ?_, fun i => ?_⟩
  · rw [hW]
    exact r2.kept fun k x hx => oq x.1 ((r2 k x hx).lt)
  · rw [hW]; exact r3
  · show 0 ≤ (if a = (S.1 : Int) then ((99 : Int), (n : Int)) else sH S a : Int × Int).2
    split
    · exact Int.natCast_nonneg _
    · exact r4 a
  · rw [hk _ (by omega)]; exact r5
  · rw [r6]
    congr 1
section r127
variable {d mi pc pc' idx ci kf : Nat} {al al' st : List AV} {S : SS} {I : II} {a b x y v j k N off q f : Int}
theorem sg_iload_n {n : Fin 4} (hd : decode (mB mi) pc = .ok (.iload_n n, 1)) (hl : al[(n : Nat)]? = some (0, x)) : st1 mi pc al st S I = nx (pc + 1) al ((0, x) :: st) S I := by simp [st1, hd, st2, gd, ldL, hl]
theorem lf_of (h : ((lkf (mC mi) idx).map (fun q => (q.1, q.2.1))) = some (ci, kf)) : ∃ q, lkf (mC mi) idx = some q ∧ q.1 = ci ∧ q.2.1 = kf := by
  cases hq : lkf (mC mi) idx with
  | none => rw [hq] at h; simp at h
  | some q => rw [hq] at h; simp only [Option.map_some, Option.some.injEq, Prod.mk.injEq] at h; exact ⟨q, rfl, h.1, h.2⟩
theorem sg_gfI (hd : decode (mB mi) pc = .ok (.getfield idx, 3)) (hc : mC mi ≠ 15) (hq : ∃ q, lkf (mC mi) idx = some q ∧ q.1 = ci ∧ q.2.1 = kf) (hf : fT ci kf ≠ 2) (g : KO S a (ci : Int)) : st1 mi pc al ((2, a) :: st) S I = nx (pc + 3) al ((0, I a (kf : Int)) :: st) S I := by
  obtain ⟨q, hq, rfl, rfl⟩ := hq
  simp only [st1, hd, st2, getf, hq, fV]; rw [gd, if_pos trivial, if_neg hc, gd, if_pos (show isK S a _ from g), if_neg hf]
theorem sg_gfR (hd : decode (mB mi) pc = .ok (.getfield idx, 3)) (hc : mC mi ≠ 15) (hq : ∃ q, lkf (mC mi) idx = some q ∧ q.1 = ci ∧ q.2.1 = kf) (hf : fT ci kf = 2) (g : KO S a (ci : Int)) (hj : sG S a (kf : Int) = b) : st1 mi pc al ((2, a) :: st) S I = nx (pc + 3) al ((2, b) :: st) S I := by
  obtain ⟨q, hq, rfl, rfl⟩ := hq
  subst hj; simp only [st1, hd, st2, getf, hq, fV]; rw [gd, if_pos trivial, if_neg hc, gd, if_pos (show isK S a _ from g), if_pos hf]
theorem sg_ifnullT (hd : decode (mB mi) pc = .ok (.ifnull off, 3)) (h0 : 0 ≤ (pc : Int) + off) (h1 : ((pc : Int) + off).toNat = pc') (hx : x = -1) : st1 mi pc al ((2, x) :: st) S I = nx pc' al st S I := by
  subst h1; simp only [st1, hd, st2]; rw [gd, if_pos trivial, if_pos hx, jmp, if_pos h0]
theorem sg_ifnullF (hd : decode (mB mi) pc = .ok (.ifnull off, 3)) (h3 : x ≠ -3) (hx : x ≠ -1) : st1 mi pc al ((2, x) :: st) S I = nx (pc + 3) al st S I := by
  simp only [st1, hd, st2]; rw [gd, if_pos trivial, if_neg hx, gd, if_pos h3]
theorem sg_i0_ltT (hd : decode (mB mi) pc = .ok (.ifCond .lt off, 3)) (h0 : 0 ≤ (pc : Int) + off) (h1 : ((pc : Int) + off).toNat = pc') (h : w x < w 0) : st1 mi pc al ((0, x) :: st) S I = nx pc' al st S I := by
  subst h1; simp only [st1, hd, st2, cmpd]; rw [gd, if_pos ⟨trivial, h0⟩, if_pos h, jmp, if_pos h0]
theorem sg_i0_ltF (hd : decode (mB mi) pc = .ok (.ifCond .lt off, 3)) (h0 : 0 ≤ (pc : Int) + off) (h : ¬ w x < w 0) : st1 mi pc al ((0, x) :: st) S I = nx (pc + 3) al st S I := by
  simp only [st1, hd, st2, cmpd]; rw [gd, if_pos ⟨trivial, h0⟩, if_neg h]
theorem sg_if_ltF (hd : decode (mB mi) pc = .ok (.if_icmp .lt off, 3)) (h0 : 0 ≤ (pc : Int) + off) (h : ¬ w x < w y) : st1 mi pc al ((0, y) :: (0, x) :: st) S I = nx (pc + 3) al st S I := by
  simp only [st1, hd, st2, cmpd]; rw [gd, if_pos ⟨trivial, h0⟩, if_neg h]
/-- queue comes to its throw -/
theorem q_road (hS : SH S) (h : ST N I) (hq : isI q) (hf : isI f) (hn : ¬ ((0 ≤ q ∧ q < (cfM I).1) ∧ 0 ≤ f ∧ f < 13)) : ∃ x, SG 187 d 0 [(2, 0), (0, q), (0, f), uU] [] S I 23 [(2, 0), (0, q), (0, f), (2, x)] [] S I := by
  obtain ⟨hQ, hM⟩ := hS
  have hk := h.2.2.2.1.1
  have hD := h.2.2.2.1.2
  have e := c_lane (d := d) (DA5 hQ) hD.1.1 hk hq
  have hx0 : (if 0 ≤ q ∧ q < (cfM I).1 then 5 + 11 + 4 * q else -1 : Int) = -1 ∨ (0 ≤ q ∧ q < (cfM I).1) := by
    by_cases c : 0 ≤ q ∧ q < (cfM I).1
    · exact Or.inr c
    · rw [if_neg c]; exact Or.inl rfl
  have hx1 : (if 0 ≤ q ∧ q < (cfM I).1 then 5 + 11 + 4 * q else -1 : Int) ≠ -3 := by split <;> omega
  generalize (if 0 ≤ q ∧ q < (cfM I).1 then 5 + 11 + 4 * q else -1 : Int) = x at e hx0 hx1
  refine ⟨x, ?_⟩
  refine SG.to (sg_aload_n (n := 0) (by decide +kernel) rfl) ?_
  refine SG.to (sg_gfR (idx := 26) (b := 5) (by decide +kernel) (by decide +kernel) (lf_of (ci := 8) (kf := 2) (by decide +kernel)) (by decide +kernel) (QA_o hQ) (QA_g2 hQ)) ?_
  refine SG.to (sg_iload_n (n := 1) (by decide +kernel) rfl) ?_
  refine SG.cl2 (st1' := [(2, x)]) (sg_virt (idx := 100) (ag := [(2, 5), (0, q)]) (r := []) (np := 1) (c := 3) (nl := 2) (by decide +kernel) (lk_of (mj := 21) (by decide +kernel)) (by decide +kernel : MFc 21 1 3 2) (Nat.le_of_ble_eq_true rfl) rfl rfl (Nat.le_of_ble_eq_true rfl) (by decide) (DA_o (DA5 hQ)) rfl) ((congrArg (fun z => ev d 21 0 z [] S I) (ent_of (al := [(2, 5), (0, q)]) (by decide +kernel : MFc 21 1 3 2) rfl)).trans e) rfl ?_
  refine SG.to (sg_astore_n (n := 3) (al' := [(2, 0), (0, q), (0, f), (2, x)]) (by decide +kernel) (Nat.le_of_ble_eq_true rfl) rfl rfl) ?_
  refine SG.to (sg_aload_n (n := 3) (by decide +kernel) rfl) ?_
  by_cases c : x = -1
  · exact SG.one (sg_ifnullT (off := 13) (by decide +kernel) (by decide) (by decide) c)
  refine SG.to (sg_ifnullF (off := 13) (by decide +kernel) hx1 c) ?_
  refine SG.to (sg_iload_n (n := 2) (by decide +kernel) rfl) ?_
  have e0 : w 0 = 0 := w_small (by decide) (by decide)
  have ef : w f = f := w_small hf.1 hf.2
  by_cases c1 : f < 0
  · exact SG.one (sg_i0_ltT (off := 9) (by decide +kernel) (by decide) (by decide) (by rw [e0, ef]; exact c1))
  refine SG.to (sg_i0_ltF (off := 9) (by decide +kernel) (by decide) (by rw [e0, ef]; exact c1)) ?_
  refine SG.to (sg_iload_n (n := 2) (by decide +kernel) rfl) ?_
  refine SG.to (sg_bipush (z := 13) (by decide +kernel) (by decide)) ?_
  exact SG.one (sg_if_ltF (off := 13) (by decide +kernel) (by decide) (by rw [ef, w_small (z := 13) (by decide) (by decide)]; rcases hx0 with hx0 | hx0; exact absurd hx0 c; omega))
/-- row comes to its throw -/
theorem r_road (hS : SH S) (h : ST N I) (hk : isI k) (hn : ¬ (0 ≤ k ∧ k < I 3 1)) : SG 188 d 0 [(2, 0), (0, k)] [] S I 15 [(2, 0), (0, k)] [] S I := by
  obtain ⟨hQ, hM⟩ := hS
  obtain ⟨r0, r1, r2, r3⟩ := h.2.1
  have e0 : w 0 = 0 := w_small (by decide) (by decide)
  have ek : w k = k := w_small hk.1 hk.2
  refine SG.to (sg_iload_n (n := 1) (by decide +kernel) rfl) ?_
  by_cases c : k < 0
  · exact SG.one (sg_i0_ltT (off := 14) (by decide +kernel) (by decide) (by decide) (by rw [e0, ek]; exact c))
  refine SG.to (sg_i0_ltF (off := 14) (by decide +kernel) (by decide) (by rw [e0, ek]; exact c)) ?_
  refine SG.to (sg_iload_n (n := 1) (by decide +kernel) rfl) ?_
  refine SG.to (sg_aload_n (n := 0) (by decide +kernel) rfl) ?_
  refine SG.to (sg_gfR (idx := 19) (b := 3) (by decide +kernel) (by decide +kernel) (lf_of (ci := 8) (kf := 1) (by decide +kernel)) (by decide +kernel) (QA_o hQ) (QA_g1 hQ)) ?_
  refine SG.to (sg_gfI (idx := 347) (by decide +kernel) (by decide +kernel) (lf_of (ci := 5) (kf := 1) (by decide +kernel)) (by decide +kernel) (RA_o (RA3 hQ))) ?_
  exact SG.one (sg_if_ltF (off := 14) (by decide +kernel) (by decide) (by rw [ek, show ((1 : Nat) : Int) = 1 from rfl, w_small (z := I 3 1) (by omega) (by omega)]; omega))
end r127
/-! contracts of methods that throw here -/
def PMx (X : XX) (ag : List AV) (S : SS) (I : II) : Array Value → State → Prop := va_Pc (ag.map (cv X)) (fun U => Rel X S I U.heap ∧ KN X U ∧ KH X U U.heap ∧ EXC X U U.heap)
theorem PMx.blind (X : XX) (ag : List AV) (S : SS) (I : II) : FrameBlind (PMx X ag S I) := fun a U g mk q => by
  obtain ⟨rfl, h1, h2, h3, h4⟩ := q
  exact ⟨rfl, h1, KN.warm (State.WarmedH.refl U) h2, KH.move (Vm.Alike.refl U.vm) h3, EXC.move (State.WarmedH.refl U) h4⟩
def XCx (X : XX) (S : SS) (I : II) : String → State → State → Prop := vx_X (fun _ : Unit => True) (fun E _ t => E = NSE ∧ Rel X (newS S 99 6) (newI S I) t.heap) (aX X)
def isCd : Cond → Bool
  | .code .. => true
  | .codeSync .. => true
  | _ => false
set_option maxRecDepth 100000 in
theorem own_cd : (nxA (cN 10) 110).filter isCd = [1242, 1233, 33, 1260, 1251, 1254, 1257].filterMap (fun i => tables_1[i]?) := rfl
theorem own_nc : ∀ w ∈ nxA (cN 10) 110, isCd w = true ∨ vx_no w = false ∨ goodWord w = false ∨ w ∈ lw_tbl := by decide +kernel
theorem at_g (w : Cond) (h : w ∈ ((nxA (cN 10) 110).filter vx_no).filter goodWord) : w ∈ lw_tbl := by
  obtain ⟨h1, hg⟩ := List.mem_filter.mp h
  obtain ⟨h2, hn⟩ := List.mem_filter.mp h1
  rcases own_nc w h2 with c | c | c | c
  · have h3 : w ∈ (nxA (cN 10) 110).filter isCd := List.mem_filter.mpr ⟨h2, c⟩
    rw [own_cd] at h3
    obtain ⟨i, -, hi⟩ := List.mem_filterMap.mp h3
    exact List.mem_append_right _ (List.mem_of_getElem? hi)
  · rw [c] at hn; cases hn
  · rw [c] at hg; cases hg
  · exact c
theorem at_b : ∀ w ∈ ((nxA (cN 10) 110).filter vx_no).filter (fun w => !goodWord w), w ∈ [Cond.declares (Bundle.initS RTE), .declares (Bundle.initS EXN), .declares (Bundle.initS Bundle.tN)] := by decide +kernel
theorem at_o : ∀ w ∈ Cond.classLink (cN 10) 106 NSE :: Cond.initialized NSE :: (nxA (cN 10) 110).filter vx_no, vx_ot w = true := by decide +kernel
theorem at_k : Cond.classLink (cN 10) 106 NSE ∈ GW := gw_at (i := 1209) (by decide +kernel) rfl
theorem at_i : Cond.initialized NSE ∈ GW := gw_at (i := 21) (by decide +kernel) rfl
section r127b
variable {X : XX} {l : Launch} {d : Nat} {S : SS} {I : II} {ag al' : List AV} {Qc : Array Value → State → Outcome → State → Prop}
set_option maxRecDepth 100000 in
theorem qx_met (hl : l.stackTraces = false) (hd : 6 ≤ d) (ha : argsOk 187 ag = true) (hsg : SG 187 d 0 (ent 187 ag) [] S I 23 al' [] S I) : vx_Met l (mY 187) (ws_ 187) { frames := d + 2, cells := 1, slots := 6, locals := 100 * (d + 2) } (PMx X ag S I) Qc (XCx X S I) 1 6 (aX X) := by
  obtain ⟨p1, p2, p3, p4, p5, p6, p7, p8, p9⟩ := p_in (show 187 < 325 by decide)
  refine vx_ofW (cc := mB 187) (maxL := mL 187) (ret := mR 187) p5 rfl ?_
  intro p e s m args below meth c s₁ B hml hex hv
  obtain ⟨rfl, hR, hK, hH, hE⟩ := hv
  have hts := atoms_spec (ws := ws_ 187) B.pre
  have htg : ∀ x ∈ GW, x.before (ag.map (cv X)).toArray s = true := fun x hx => hts x (List.mem_cons_of_mem _ hx)
  have hown : s.vm.findClass (cN (mC 187)) = some m.cls := by rw [p4]; exact findClass_of_methodNamed B.named
  have hC : Ctx X 187 (d + 1) p (headSpec (ws_ 187) { frames := d + 2, cells := 1, slots := 6, locals := 100 * (d + 2) }).room s m (ag.map (cv X)).toArray meth c :=
    ⟨B.exec, B.bytes, hml, hown, htg, fun hk => ((name_of_methodNamed B.named B.method).1).trans (p8 hk), B.returns, B.notSynchronized, hK, hH, Nat.le_refl _, Nat.le_refl _⟩
  obtain ⟨dc, ds, z1, z2, go⟩ := hsg X p l e _ s m _ below meth c (vx_MQ below Qc (XCx X S I) (ag.map (cv X)).toArray s 1 6 (aX X)) hC hl hE
  have hdc : dc = 0 := by omega
  have hds : ds = 0 := by omega
  subst hdc
  subst hds
  rw [lg_entry_eq]
  refine go s.heap [] _ 0 0 hR va_S.rf (LH_ent X ha) (Nat.zero_le _) (Nat.zero_le _) fun H locs ls hR' hS' hl' => ?_
  have hown' : s.vm.findClass (cN 10) = some m.cls := hown
  refine nx_make (own := cN 10) (text := stn.getD 5 "") (ik := 106) (is := 108) (ic := 110) (sa := xK X 5) (A := aX X) (cc := mB 187) B.exec B.bytes hl hown' (htg _ at_k) (htg _ at_i) (hK.2.2.1 ((10, 108), 5, 1248) (List.mem_of_getElem? (i := 5) (by decide))) ?_ at_o hE.1 hE.2.1 hS' (hl'.1.trans hml.symm) (by decide +kernel) (by decide +kernel) (by decide +kernel) (by decide +kernel) ?_ ?_ (Nat.le_refl _) (Nat.le_refl _) (fun q9 ce H1 hz ho hce hcv hcl => ?_)
  · exact vx_hat (fun x hx => htg x (List.mem_filter.mpr ⟨at_g x hx, (List.mem_filter.mp hx).2⟩)) at_b (vx_c (hE.2.2.2.1.use rfl) (vx_c (hE.2.2.2.2.1.use rfl) (vx_c (hE.2.2.2.2.2.use rfl) vx_n)))
  · show 2 + 3 < d + 2
    omega
  · show 0 + (13 * (2 + 1) + 43) ≤ 100 * (d + 2)
    omega
  · exact nx_athrow B.exec B.bytes (by decide +kernel) (vx_out (fun x hx => (hex x hx).elim) B.notSynchronized hce hcv hcl (fun t ht _ => ⟨(), trivial, ⟨rfl, by rw [ht]; exact rel_thrown hR' hz ho⟩, by rw [ht, hz]; exact Nat.le_trans hS'.1 (Nat.le_succ _), fun q h1 h2 => by rw [ht]; exact (ho q (Nat.lt_of_lt_of_le h1 hS'.1)).trans (hS'.2.1 q h1 h2)⟩) hS'.2.2 (Nat.le_refl _) (Nat.le_refl _))
set_option maxRecDepth 100000 in
theorem rx_met (hl : l.stackTraces = false) (hd : 6 ≤ d) (ha : argsOk 188 ag = true) (hsg : SG 188 d 0 (ent 188 ag) [] S I 15 al' [] S I) : vx_Met l (mY 188) (ws_ 188) { frames := d + 2, cells := 1, slots := 6, locals := 100 * (d + 2) } (PMx X ag S I) Qc (XCx X S I) 1 6 (aX X) := by
  obtain ⟨p1, p2, p3, p4, p5, p6, p7, p8, p9⟩ := p_in (show 188 < 325 by decide)
  refine vx_ofW (cc := mB 188) (maxL := mL 188) (ret := mR 188) p5 rfl ?_
  intro p e s m args below meth c s₁ B hml hex hv
  obtain ⟨rfl, hR, hK, hH, hE⟩ := hv
  have hts := atoms_spec (ws := ws_ 188) B.pre
  have htg : ∀ x ∈ GW, x.before (ag.map (cv X)).toArray s = true := fun x hx => hts x (List.mem_cons_of_mem _ hx)
  have hown : s.vm.findClass (cN (mC 188)) = some m.cls := by rw [p4]; exact findClass_of_methodNamed B.named
  have hC : Ctx X 188 (d + 1) p (headSpec (ws_ 188) { frames := d + 2, cells := 1, slots := 6, locals := 100 * (d + 2) }).room s m (ag.map (cv X)).toArray meth c :=
    ⟨B.exec, B.bytes, hml, hown, htg, fun hk => ((name_of_methodNamed B.named B.method).1).trans (p8 hk), B.returns, B.notSynchronized, hK, hH, Nat.le_refl _, Nat.le_refl _⟩
  obtain ⟨dc, ds, z1, z2, go⟩ := hsg X p l e _ s m _ below meth c (vx_MQ below Qc (XCx X S I) (ag.map (cv X)).toArray s 1 6 (aX X)) hC hl hE
  have hdc : dc = 0 := by omega
  have hds : ds = 0 := by omega
  subst hdc
  subst hds
  rw [lg_entry_eq]
  refine go s.heap [] _ 0 0 hR va_S.rf (LH_ent X ha) (Nat.zero_le _) (Nat.zero_le _) fun H locs ls hR' hS' hl' => ?_
  have hown' : s.vm.findClass (cN 10) = some m.cls := hown
  refine nx_makeW (own := cN 10) (text := stn.getD 6 "") (ik := 106) (is := 348) (ic := 110) (sa := xK X 6) (A := aX X) (cc := mB 188) B.exec B.bytes hl hown' (htg _ at_k) (htg _ at_i) (hK.2.2.1 ((10, 348), 6, 1282) (List.mem_of_getElem? (i := 6) (by decide))) ?_ at_o hE.1 hE.2.1 hS' (hl'.1.trans hml.symm) (by decide +kernel) (by decide +kernel) (by decide +kernel) (by decide +kernel) ?_ ?_ (Nat.le_refl _) (Nat.le_refl _) (fun q9 ce H1 hz ho hce hcv hcl => ?_)
  · exact vx_hat (fun x hx => htg x (List.mem_filter.mpr ⟨at_g x hx, (List.mem_filter.mp hx).2⟩)) at_b (vx_c (hE.2.2.2.1.use rfl) (vx_c (hE.2.2.2.2.1.use rfl) (vx_c (hE.2.2.2.2.2.use rfl) vx_n)))
  · show 2 + 3 < d + 2
    omega
  · show 0 + (13 * (2 + 1) + 43) ≤ 100 * (d + 2)
    omega
  · exact nx_athrow B.exec B.bytes (by decide +kernel) (vx_out (fun x hx => (hex x hx).elim) B.notSynchronized hce hcv hcl (fun t ht _ => ⟨(), trivial, ⟨rfl, by rw [ht]; exact rel_thrown hR' hz ho⟩, by rw [ht, hz]; exact Nat.le_trans hS'.1 (Nat.le_succ _), fun q h1 h2 => by rw [ht]; exact (ho q (Nat.lt_of_lt_of_le h1 hS'.1)).trans (hS'.2.1 q h1 h2)⟩) hS'.2.2 (Nat.le_refl _) (Nat.le_refl _))
end r127b
