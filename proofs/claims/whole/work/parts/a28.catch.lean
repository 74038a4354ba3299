/-! the law's own two methods, that catch -/
theorem mt_ofWH {l : Launch} {y : MethodName} {ws ws' : List Cond} {rm : Room} {Pc : Array Value → State → Prop} {Qc : Array Value → State → Outcome → State → Prop} {mc ms : Nat} {free : Addr → Prop} {cc : ByteArray} {maxL : Nat} {ret : Option FieldType} {hh : List (Nat × Nat × Nat × Nat)}
    (hy : plainName y.cls = true) (hw : ws = Cond.codeWith y cc maxL ret hh :: ws')
    (body : ∀ p e s m args below meth c s₁, BodyLoose p l y (headSpec ws rm) cc maxL ret e s m args below meth c s₁ → c.maxLocals = maxL → Pc args s →
      W p l e (headSpec ws rm).room s m args below meth c s.heap [] 0 0 (MQ below Qc args s mc ms free) (entryFrame m args maxL)) : Met l y ws rm Pc Qc mc ms free := by
  refine MetFree.of_bodyS (code := cc) (maxLocals := maxL) (ret := ret) hy ?_ ?_
  · intro args s m h hn
    obtain ⟨m9, meth, c, hn9, h1, h2, h3, h4, -, h5, h6, -⟩ := Cond.codeWith_spec (atoms_spec (ws := ws) h _ (by rw [hw]; exact List.mem_cons_self))
    cases hn.symm.trans hn9
    exact ⟨meth, c, h1, h2, h3, h4, h5, h6⟩
  · intro p e s m args below meth c s₁ B hml hP _
    have hh0 : s₁.heap = s.heap := by rw [B.state]; rfl
    obtain ⟨t, a1, o, b1, b2, b3⟩ := body p e s m args below meth c s₁ B hml hP s₁ hh0 (Stand.of_body B)
    exact ⟨t, o, a1, b1, b2, ⟨b3.1, b3.2⟩⟩
theorem gw_hws {ws : List Cond} (h : ∀ w ∈ ws, w ∈ GW) : ∀ w ∈ ws, w ∈ GW ∧ ((w.onTables && w.keeps) = true ∨ ∃ ty, w = .arrayClass ty) := fun w hw => ⟨h w hw, good_of_word (List.mem_filter.mp (h w hw)).2⟩
theorem gw_ws {mj : Nat} (h : mj < 325) : ∀ w ∈ ws_ mj, w ∈ GW := fun w hw => by
  rcases List.mem_cons.mp hw with rfl | hw
  · exact code_in h
  · exact hw
def wlq : List Cond := Cond.codeWith yL_queue cL_queue 5 (some .int) [(0, 10, 13, 13)] :: GW
def wlr : List Cond := Cond.codeWith yL_row cL_row 4 (some .int) [(0, 8, 11, 13)] :: GW
set_option maxRecDepth 100000 in
theorem wlq_c : Cond.codeWith yL_queue cL_queue 5 (some .int) [(0, 10, 13, 13)] ∈ GW := gw_tbl (List.mem_of_getElem? (i := 1203) rfl) rfl
set_option maxRecDepth 100000 in
theorem wlr_c : Cond.codeWith yL_row cL_row 4 (some .int) [(0, 8, 11, 13)] ∈ GW := gw_tbl (List.mem_of_getElem? (i := 1277) rfl) rfl
theorem wlq_in : ∀ w ∈ wlq, w ∈ GW := fun w hw => by
  rcases List.mem_cons.mp hw with rfl | hw
  · exact wlq_c
  · exact hw
theorem wlr_in : ∀ w ∈ wlr, w ∈ GW := fun w hw => by
  rcases List.mem_cons.mp hw with rfl | hw
  · exact wlr_c
  · exact hw
theorem wl_l7 : Cond.methodLink RL 7 (mY 187) ∈ GW := gw_at (i := 1205) (by decide +kernel) rfl
theorem wl_l15 : Cond.methodLink RL 15 (mY 188) ∈ GW := gw_at (i := 1278) (by decide +kernel) rfl
theorem wl_k13 : Cond.classLink RL 13 NSE ∈ GW := gw_at (i := 1204) (by decide +kernel) rfl
theorem wl_i : Cond.initialized RL ∈ GW := gw_at (i := 0) (by decide +kernel) rfl
theorem wl_l42 : Cond.methodLink RL 42 yL_queue ∈ GW := gw_at (i := 1201) (by decide +kernel) rfl
theorem wl_s42 : Cond.static yL_queue ∈ GW := gw_at (i := 1202) (by decide +kernel) rfl
theorem wl_l197 : Cond.methodLink RL 197 yL_row ∈ GW := gw_at (i := 1275) (by decide +kernel) rfl
theorem wl_s197 : Cond.static yL_row ∈ GW := gw_at (i := 1276) (by decide +kernel) rfl
theorem dL_queue_0 : decode cL_queue 0 = .ok (.aload_n 3, 1) := by decide +kernel
theorem dL_queue_1 : decode cL_queue 1 = .ok (.iconst 0, 1) := by decide +kernel
theorem dL_queue_2 : decode cL_queue 2 = .ok (.aload_n 0, 1) := by decide +kernel
theorem dL_queue_3 : decode cL_queue 3 = .ok (.iload_n 1, 1) := by decide +kernel
theorem dL_queue_4 : decode cL_queue 4 = .ok (.iload_n 2, 1) := by decide +kernel
theorem dL_queue_5 : decode cL_queue 5 = .ok (.invokevirtual 7, 3) := by decide +kernel
theorem dL_queue_8 : decode cL_queue 8 = .ok (.i2l, 1) := by decide +kernel
theorem dL_queue_9 : decode cL_queue 9 = .ok (.lastore, 1) := by decide +kernel
theorem dL_queue_10 : decode cL_queue 10 = .ok (.goto 7, 3) := by decide +kernel
theorem dL_queue_13 : decode cL_queue 13 = .ok (.astore 4, 2) := by decide +kernel
theorem dL_queue_15 : decode cL_queue 15 = .ok (.iconst 1, 1) := by decide +kernel
theorem dL_queue_16 : decode cL_queue 16 = .ok (.ireturn, 1) := by decide +kernel
theorem dL_queue_17 : decode cL_queue 17 = .ok (.iconst 0, 1) := by decide +kernel
theorem dL_queue_18 : decode cL_queue 18 = .ok (.ireturn, 1) := by decide +kernel
theorem dL_row_0 : decode cL_row 0 = .ok (.aload_n 2, 1) := by decide +kernel
theorem dL_row_1 : decode cL_row 1 = .ok (.iconst 0, 1) := by decide +kernel
theorem dL_row_2 : decode cL_row 2 = .ok (.aload_n 0, 1) := by decide +kernel
theorem dL_row_3 : decode cL_row 3 = .ok (.iload_n 1, 1) := by decide +kernel
theorem dL_row_4 : decode cL_row 4 = .ok (.invokevirtual 15, 3) := by decide +kernel
theorem dL_row_7 : decode cL_row 7 = .ok (.lastore, 1) := by decide +kernel
theorem dL_row_8 : decode cL_row 8 = .ok (.goto 6, 3) := by decide +kernel
theorem dL_row_11 : decode cL_row 11 = .ok (.astore_n 3, 1) := by decide +kernel
theorem dL_row_12 : decode cL_row 12 = .ok (.iconst 1, 1) := by decide +kernel
theorem dL_row_13 : decode cL_row 13 = .ok (.ireturn, 1) := by decide +kernel
theorem dL_row_14 : decode cL_row 14 = .ok (.iconst 0, 1) := by decide +kernel
theorem dL_row_15 : decode cL_row 15 = .ok (.ireturn, 1) := by decide +kernel
section r128
variable {X : XX} {l : Launch} {d : Nat} {S : SS} {I : II} {al' : List AV} {q f k r : Int}
theorem kq_e0 (X : XX) : cv X (2, 0) = .ref (xB X + (0 : Int).toNat) := cv_ref X (by decide)
theorem kq_e5 (X : XX) : cv X (2, 455) = .ref (xB X + (455 : Int).toNat) := cv_ref X (by decide)
theorem kq_a1 : [(2, 0), (0, q), (0, f), (2, 455)].map (cv X) = [.ref (xB X + (0 : Int).toNat), .int (Int32.ofInt q), .int (Int32.ofInt f), .ref (xB X + (455 : Int).toNat)] := by
  show [cv X (2, 0), .int (Int32.ofInt q), .int (Int32.ofInt f), cv X (2, 455)] = _
  rw [kq_e0, kq_e5]
theorem kq_a2 : [(2, 0), (0, q), (0, f)].map (cv X) = [.ref (xB X + (0 : Int).toNat), .int (Int32.ofInt q), .int (Int32.ofInt f)] := by
  show [cv X (2, 0), .int (Int32.ofInt q), .int (Int32.ofInt f)] = _
  rw [kq_e0]
theorem kq_recv (hO : KO S 0 8) {s : State} {H : Heap} (hR : Rel X S I H) (hK : KN X s) : ∃ cellB : Cell, H[xB X + (0 : Int).toNat]? = some cellB ∧ cellB.vm.isStatics = false ∧ s.vm.findClass (mY 187).cls = some cellB.cls := by
  obtain ⟨q0, he⟩ := rel_at (X := X) (I := I) (show isK S 0 8 from hO) (by omega)
  rw [ce_obj (ci := 8) (hO.2.2.trans rfl) (by omega)] at he
  exact va_recv hK.1 hR.2.1 (vwc_at (by decide)) he
set_option maxRecDepth 100000 in
theorem lq_throw (hl0 : l.stackTraces = false) (hd : 6 ≤ d) (hO : KO S 0 8) (hsg : SG 187 d 0 (ent 187 [(2, 0), (0, q), (0, f)]) [] S I 23 al' [] S I) : Met l yL_queue wlq { frames := d + 3, cells := 1, slots := 6, locals := 100 * (d + 3) } (PMx X [(2, 0), (0, q), (0, f), (2, 455)] S I) (QM X (0, 1) (newS S 99 6) (newI S I)) 1 6 (aX X) := by
  refine mt_ofWH (cc := cL_queue) (maxL := 5) (ret := some .int) (hh := [(0, 10, 13, 13)]) (by decide +kernel) rfl ?_
  intro p e s m args below meth c s₁ B hml hv
  obtain ⟨rfl, hR, hK, hH, hE⟩ := hv
  have hts := atoms_spec (ws := wlq) B.pre
  have hg : ∀ x ∈ GW, x.before ([(2, 0), (0, q), (0, f), (2, 455)].map (cv X)).toArray s = true := fun x hx => hts x (List.mem_cons_of_mem _ hx)
  have hx := B.exec
  have hb : c.code = cL_queue := B.bytes
  have hr : meth.sig.returnType = some .int := B.returns
  have hlk := B.notSynchronized
  have hown : s.vm.findClass RL = some m.cls := findClass_of_methodNamed B.named
  have htab : c.exceptionTable.toList = [⟨0, 10, 13, 13⟩] := vx_table (x := yL_queue) B (hts _ List.mem_cons_self)
  obtain ⟨p1, p2, p3, p4, p5, p6, p7, p8, p9⟩ := p_in (show 187 < 325 by decide)
  have hent : entryFrame m ([(2, 0), (0, q), (0, f), (2, 455)].map (cv X)).toArray 5 = F0 m 0 ((lg_sl [.ref (xB X + (0 : Int).toNat), .int (Int32.ofInt q), .int (Int32.ofInt f), .ref (xB X + (455 : Int).toNat)] ++ List.replicate (5 - (lg_sl [.ref (xB X + (0 : Int).toNat), .int (Int32.ofInt q), .int (Int32.ofInt f), .ref (xB X + (455 : Int).toNat)]).length) Slot.unset).toArray) [] := by rw [kq_a1]; exact lg_entry_eq m [.ref (xB X + (0 : Int).toNat), .int (Int32.ofInt q), .int (Int32.ofInt f), .ref (xB X + (455 : Int).toNat)] 5
  rw [hent]
  have hl := lv_entry [.ref (xB X + (0 : Int).toNat), .int (Int32.ofInt q), .int (Int32.ofInt f), .ref (xB X + (455 : Int).toNat)] (n := 5) (Nat.le_of_ble_eq_true rfl)
  generalize (lg_sl [.ref (xB X + (0 : Int).toNat), .int (Int32.ofInt q), .int (Int32.ofInt f), .ref (xB X + (455 : Int).toNat)] ++ List.replicate (5 - (lg_sl [.ref (xB X + (0 : Int).toNat), .int (Int32.ofInt q), .int (Int32.ofInt f), .ref (xB X + (455 : Int).toNat)]).length) Slot.unset).toArray = ls at hl ⊢
  have hl : lv_has ls 5 [(0, .ref (xB X + (0 : Int).toNat)), (1, .int (Int32.ofInt q)), (2, .int (Int32.ofInt f)), (3, .ref (xB X + (455 : Int).toNat))] := hl
  generalize hag : ([(2, 0), (0, q), (0, f), (2, 455)].map (cv X)).toArray = ar at *
  have hS : va_S (aX X) s.heap s.heap [] := va_S.rf
  refine lv_aload_n hx hb dL_queue_0 (i := 3) rfl (lv_at hl 3 rfl) ?_
  refine lv_iconst (v := Int32.ofInt 0) hx hb dL_queue_1 rfl ?_
  refine lv_aload_n hx hb dL_queue_2 (i := 0) rfl (lv_at hl 0 rfl) ?_
  refine lv_iload_n hx hb dL_queue_3 (i := 1) rfl (lv_at hl 1 rfl) ?_
  refine lv_iload_n hx hb dL_queue_4 (i := 2) rfl (lv_at hl 2 rfl) ?_
  have hws := gw_hws (gw_ws (show 187 < 325 by decide))
  have base : CallW (headSpec wlq { frames := d + 3, cells := 1, slots := 6, locals := 100 * (d + 3) }).room s ar RL (mY 187).cls 7 (mY 187) (mB 187) (mL 187) (mR 187) (ws_ 187) { frames := d + 2, cells := 1, slots := 6, locals := 100 * (d + 2) } 1 6 2 :=
    ⟨⟨rfl, rfl, Nat.le_refl _, by show 8 + (mL 187 + 11) + 100 * (d + 2) ≤ 100 * (d + 3); omega, pay_in hg hws, List.mem_cons_self, hg _ (code_in (by decide)), hg _ p3, p6, fun sig hs => (mP_187.symm.trans (p7 sig hs)), hg _ wl_l7⟩, hg _ p1, hg _ (p2 rfl)⟩
  have hPM0 : ∀ U : State, U.heap = s.heap → s.WarmedH U.vm → PMx X [(2, 0), (0, q), (0, f)] S I ([(2, 0), (0, q), (0, f)].map (cv X)).toArray U := fun U hU hW => ⟨rfl, by rw [hU]; exact hR, hK.warm hW, by rw [hU]; exact hH.move hW.alike, by rw [hU]; exact hE.move hW⟩
  rw [kq_a2] at hPM0
  have hM := qx_met (X := X) (l := l) (Qc := va_Qi (fun (_ : Int32) (_ : Unit) => False) (fun _ _ => True) (aX X)) hl0 hd (ag := [(2, 0), (0, q), (0, f)]) (by unfold argsOk; rw [mL_187]; rfl) hsg
  refine vx_calli (rest := [.int (Int32.ofInt 0), .ref (xB X + (455 : Int).toNat)]) (vx_runV (C := (mY 187).cls) (As := [.int (Int32.ofInt q), .int (Int32.ofInt f)]) (b := xB X + (0 : Int).toNat) ⟨hx, hb, hml, hown, hg⟩ hM base ⟨PMx.blind X _ S I, kq_recv hO hR hK, hPM0⟩ rfl rfl hl.1 rfl (lv_room (Nat.le_of_ble_eq_true rfl)) dL_queue_5 ⟨Nat.le_refl _, Nat.le_refl _⟩) hS (fun _ _ h => h) (fun _ h => h) (fun _ _ h => h) (fun E ce q9 u t H1 locs1 ht hal _ hB hz hk hS1 hce hcv hcl => ?_) (fun r u t H1 locs1 _ _ hf => hf.elim)
  obtain ⟨rfl, hR1⟩ := hB
  subst ht
  refine vx_catch (own := RL) (name := NSE) hown [] ⟨0, 10, 13, 13⟩ [] htab (fun z hz => nomatch hz) rfl (by decide) (hg _ wl_k13) (hE.2.2.1.use rfl) hce hcv hcl ?_
  refine lv_astore (lv' := (4, .ref q9) :: [(0, .ref (xB X + (0 : Int).toNat)), (1, .int (Int32.ofInt q)), (2, .int (Int32.ofInt f)), (3, .ref (xB X + (455 : Int).toNat))]) hx hb dL_queue_13 hl (by decide) rfl (fun ls hl => ?_)
  refine lv_iconst (v := Int32.ofInt 1) hx hb dL_queue_15 rfl ?_
  exact W.iret hx hb hr (fun t2 ht2 _ => ⟨rfl, by rw [ht2]; exact hR1, by rw [ht2]; exact hS1.1, by rw [ht2]; exact hS1.2.1⟩) hS1.2.2 dL_queue_16 hlk
set_option maxRecDepth 100000 in
theorem lq_back (hO : KO S 0 8) (hA : KA S 455 21 1) (hev : ev d 187 0 (ent 187 [(2, 0), (0, q), (0, f)]) [] S I = some ((0, r), S, I)) : Met l yL_queue wlq { frames := d + 3, cells := 0, slots := 0, locals := 100 * (d + 3) } (PMx X [(2, 0), (0, q), (0, f), (2, 455)] S I) (QM X (0, 0) S (up2 I 455 (w 0) (w r))) 0 0 (aX X) := by
  refine mt_ofWH (cc := cL_queue) (maxL := 5) (ret := some .int) (hh := [(0, 10, 13, 13)]) (by decide +kernel) rfl ?_
  intro p e s m args below meth c s₁ B hml hv
  obtain ⟨rfl, hR, hK, hH, hE⟩ := hv
  have hts := atoms_spec (ws := wlq) B.pre
  have hg : ∀ x ∈ GW, x.before ([(2, 0), (0, q), (0, f), (2, 455)].map (cv X)).toArray s = true := fun x hx => hts x (List.mem_cons_of_mem _ hx)
  have hx := B.exec
  have hb : c.code = cL_queue := B.bytes
  have hr : meth.sig.returnType = some .int := B.returns
  have hlk := B.notSynchronized
  have hown : s.vm.findClass RL = some m.cls := findClass_of_methodNamed B.named
  have htab : c.exceptionTable.toList = [⟨0, 10, 13, 13⟩] := vx_table (x := yL_queue) B (hts _ List.mem_cons_self)
  obtain ⟨p1, p2, p3, p4, p5, p6, p7, p8, p9⟩ := p_in (show 187 < 325 by decide)
  have hent : entryFrame m ([(2, 0), (0, q), (0, f), (2, 455)].map (cv X)).toArray 5 = F0 m 0 ((lg_sl [.ref (xB X + (0 : Int).toNat), .int (Int32.ofInt q), .int (Int32.ofInt f), .ref (xB X + (455 : Int).toNat)] ++ List.replicate (5 - (lg_sl [.ref (xB X + (0 : Int).toNat), .int (Int32.ofInt q), .int (Int32.ofInt f), .ref (xB X + (455 : Int).toNat)]).length) Slot.unset).toArray) [] := by rw [kq_a1]; exact lg_entry_eq m [.ref (xB X + (0 : Int).toNat), .int (Int32.ofInt q), .int (Int32.ofInt f), .ref (xB X + (455 : Int).toNat)] 5
  rw [hent]
  have hl := lv_entry [.ref (xB X + (0 : Int).toNat), .int (Int32.ofInt q), .int (Int32.ofInt f), .ref (xB X + (455 : Int).toNat)] (n := 5) (Nat.le_of_ble_eq_true rfl)
  generalize (lg_sl [.ref (xB X + (0 : Int).toNat), .int (Int32.ofInt q), .int (Int32.ofInt f), .ref (xB X + (455 : Int).toNat)] ++ List.replicate (5 - (lg_sl [.ref (xB X + (0 : Int).toNat), .int (Int32.ofInt q), .int (Int32.ofInt f), .ref (xB X + (455 : Int).toNat)]).length) Slot.unset).toArray = ls at hl ⊢
  have hl : lv_has ls 5 [(0, .ref (xB X + (0 : Int).toNat)), (1, .int (Int32.ofInt q)), (2, .int (Int32.ofInt f)), (3, .ref (xB X + (455 : Int).toNat))] := hl
  generalize hag : ([(2, 0), (0, q), (0, f), (2, 455)].map (cv X)).toArray = ar at *
  have hS : va_S (aX X) s.heap s.heap [] := va_S.rf
  refine lv_aload_n hx hb dL_queue_0 (i := 3) rfl (lv_at hl 3 rfl) ?_
  refine lv_iconst (v := Int32.ofInt 0) hx hb dL_queue_1 rfl ?_
  refine lv_aload_n hx hb dL_queue_2 (i := 0) rfl (lv_at hl 0 rfl) ?_
  refine lv_iload_n hx hb dL_queue_3 (i := 1) rfl (lv_at hl 1 rfl) ?_
  refine lv_iload_n hx hb dL_queue_4 (i := 2) rfl (lv_at hl 2 rfl) ?_
  obtain ⟨nn, hnn⟩ := ev_some.mp hev
  have hM := run_met (l := l) (run_ok l nn) (show 187 < 325 by decide) (by unfold argsOk; rw [mL_187]; rfl : argsOk 187 [(2, 0), (0, q), (0, f)] = true) hnn X
  rw [Nat.sub_self, Nat.sub_self] at hM
  have hws := gw_hws (gw_ws (show 187 < 325 by decide))
  have base : CallW (headSpec wlq { frames := d + 3, cells := 0, slots := 0, locals := 100 * (d + 3) }).room s ar RL (mY 187).cls 7 (mY 187) (mB 187) (mL 187) (mR 187) (ws_ 187) { frames := d + 1, cells := 0, slots := 0, locals := 100 * (d + 1) } 0 0 2 :=
    ⟨⟨rfl, rfl, by show d + 1 + 1 ≤ d + 3; omega, by show 8 + (mL 187 + 11) + 100 * (d + 1) ≤ 100 * (d + 3); omega, pay_in hg hws, List.mem_cons_self, hg _ (code_in (by decide)), hg _ p3, p6, fun sig hs => (mP_187.symm.trans (p7 sig hs)), hg _ wl_l7⟩, hg _ p1, hg _ (p2 rfl)⟩
  have hPM0 : ∀ U : State, U.heap = s.heap → s.WarmedH U.vm → PM X [(2, 0), (0, q), (0, f)] S I ([(2, 0), (0, q), (0, f)].map (cv X)).toArray U := fun U hU hW => ⟨rfl, by rw [hU]; exact hR, hK.warm hW, by rw [hU]; exact hH.move hW.alike⟩
  rw [kq_a2] at hPM0
  have hrest : ([(0, 0), (2, 455)] : List AV).map (cv X) = [.int (Int32.ofInt 0), .ref (xB X + (455 : Int).toNat)] := by
    show [.int (Int32.ofInt 0), cv X (2, 455)] = _
    rw [kq_e5]
  refine run_back (X := X) (v := (0, r)) (r := [(0, 0), (2, 455)]) (S' := S) (I' := I) (a := (Value.ref (xB X + (0 : Int).toNat) :: [.int (Int32.ofInt q), .int (Int32.ofInt f)]).toArray) hS (va_runV (C := (mY 187).cls) (As := [.int (Int32.ofInt q), .int (Int32.ofInt f)]) (b := xB X + (0 : Int).toNat) ⟨hx, hb, hml, hown, hg⟩ hM base ⟨PM.blind X _ S I, kq_recv hO hR hK, hPM0⟩ rfl rfl hl.1 (by rw [hrest]; rfl) (by rw [hrest]; exact lv_room (Nat.le_of_ble_eq_true rfl)) dL_queue_5 ⟨Nat.le_refl _, Nat.le_refl _⟩) (fun H1 locs1 hR1 hS1 => ?_)
  have est : (psh (0, r) [(0, 0), (2, 455)]).map (cv X) = [.int (Int32.ofInt r), .int (Int32.ofInt 0), .ref (xB X + (455 : Int).toNat)] := by
    show [cv X (0, r), .int (Int32.ofInt 0), cv X (2, 455)] = _
    rw [kq_e5]
    rfl
  rw [est]
  refine lv_i2l (v := Int64.ofInt (w r)) hx hb dL_queue_8 (Int64.ofInt_int32ToInt _).symm ?_
  have hKd : isK S 455 21 := ⟨hA.1, hA.2.1, hA.2.2.1⟩
  have h0 : 0 ≤ w 0 := by decide
  have h1 : w 0 < (sH S 455).2 := by rw [hA.2.2.2]; decide
  obtain ⟨q0, he⟩ := rel_at (X := X) (I := I) hKd (by omega)
  have he' := he
  rw [ce_lng hKd.2.2] at he'
  refine W.last hx hb (hR1.2.1 q0 _ he') ((hK.1.2 1 _ rfl).1 (sH S 455).2.toNat (fun j => .long (Int64.ofInt (I 455 j)))) (fun q => by cases q) (by show ¬ (_ ∨ (arrV _ _ _).slots.size ≤ _); rw [arrV_size]; exact vp_in_w h0 h1) rfl rfl dL_queue_9 fun H2 e1 z oq => ?_
  have hR2 : Rel X S (up2 I 455 (w 0) (w r)) H2 := by
    refine rel_put (e1 := ce X S (up2 I 455 (w 0) (w r)) 455) hR1 hKd (by omega) he ?_ z oq rfl rfl rfl (fun j hj => ce_other hj) (fun j => up_ne I (fun z => by omega))
    rw [ce_lng (I := up2 I 455 (w 0) (w r)) hKd.2.2]
    show H2[_]? = some (vp_cell _ _)
    rw [e1]
    rw [vp_cell_l, vp_cell_l, arrV_store]
    congr 2
    funext q
    unfold updV
    by_cases hq : q = (Int32.ofInt 0).toNatClampNeg
    · rw [if_pos hq, hq, w_clamp, w_nat h0, up_at]
    · rw [if_neg hq, up_ne I (fun z => hq (by rw [w_clamp]; omega))]
  have hS2 := hS1.put (k := (Int32.ofInt 0).toNatClampNeg) z oq (Nat.le_add_right _ _)
  refine lv_goto hx hb dL_queue_10 (tgt := 17) rfl ?_
  refine lv_iconst (v := Int32.ofInt 0) hx hb dL_queue_17 rfl ?_
  exact W.iret hx hb hr (fun t2 ht2 _ => ⟨rfl, by rw [ht2]; exact hR2, by rw [ht2]; exact hS2.1, by rw [ht2]; exact hS2.2.1⟩) hS2.2.2 dL_queue_18 hlk
theorem kr_a1 : [(2, 0), (0, k), (2, 455)].map (cv X) = [.ref (xB X + (0 : Int).toNat), .int (Int32.ofInt k), .ref (xB X + (455 : Int).toNat)] := by
  show [cv X (2, 0), .int (Int32.ofInt k), cv X (2, 455)] = _
  rw [kq_e0, kq_e5]
theorem kr_a2 : [(2, 0), (0, k)].map (cv X) = [.ref (xB X + (0 : Int).toNat), .int (Int32.ofInt k)] := by
  show [cv X (2, 0), .int (Int32.ofInt k)] = _
  rw [kq_e0]
theorem kr_recv (hO : KO S 0 8) {s : State} {H : Heap} (hR : Rel X S I H) (hK : KN X s) : ∃ cellB : Cell, H[xB X + (0 : Int).toNat]? = some cellB ∧ cellB.vm.isStatics = false ∧ s.vm.findClass (mY 188).cls = some cellB.cls := by
  obtain ⟨q0, he⟩ := rel_at (X := X) (I := I) (show isK S 0 8 from hO) (by omega)
  rw [ce_obj (ci := 8) (hO.2.2.trans rfl) (by omega)] at he
  exact va_recv hK.1 hR.2.1 (vwc_at (by decide)) he
set_option maxRecDepth 100000 in
theorem lr_throw (hl0 : l.stackTraces = false) (hd : 6 ≤ d) (hO : KO S 0 8) (hsg : SG 188 d 0 (ent 188 [(2, 0), (0, k)]) [] S I 15 al' [] S I) : Met l yL_row wlr { frames := d + 3, cells := 1, slots := 6, locals := 100 * (d + 3) } (PMx X [(2, 0), (0, k), (2, 455)] S I) (QM X (0, 1) (newS S 99 6) (newI S I)) 1 6 (aX X) := by
  refine mt_ofWH (cc := cL_row) (maxL := 4) (ret := some .int) (hh := [(0, 8, 11, 13)]) (by decide +kernel) rfl ?_
  intro p e s m args below meth c s₁ B hml hv
  obtain ⟨rfl, hR, hK, hH, hE⟩ := hv
  have hts := atoms_spec (ws := wlr) B.pre
  have hg : ∀ x ∈ GW, x.before ([(2, 0), (0, k), (2, 455)].map (cv X)).toArray s = true := fun x hx => hts x (List.mem_cons_of_mem _ hx)
  have hx := B.exec
  have hb : c.code = cL_row := B.bytes
  have hr : meth.sig.returnType = some .int := B.returns
  have hlk := B.notSynchronized
  have hown : s.vm.findClass RL = some m.cls := findClass_of_methodNamed B.named
  have htab : c.exceptionTable.toList = [⟨0, 8, 11, 13⟩] := vx_table (x := yL_row) B (hts _ List.mem_cons_self)
  obtain ⟨p1, p2, p3, p4, p5, p6, p7, p8, p9⟩ := p_in (show 188 < 325 by decide)
  have hent : entryFrame m ([(2, 0), (0, k), (2, 455)].map (cv X)).toArray 4 = F0 m 0 ((lg_sl [.ref (xB X + (0 : Int).toNat), .int (Int32.ofInt k), .ref (xB X + (455 : Int).toNat)] ++ List.replicate (4 - (lg_sl [.ref (xB X + (0 : Int).toNat), .int (Int32.ofInt k), .ref (xB X + (455 : Int).toNat)]).length) Slot.unset).toArray) [] := by rw [kr_a1]; exact lg_entry_eq m [.ref (xB X + (0 : Int).toNat), .int (Int32.ofInt k), .ref (xB X + (455 : Int).toNat)] 4
  rw [hent]
  have hl := lv_entry [.ref (xB X + (0 : Int).toNat), .int (Int32.ofInt k), .ref (xB X + (455 : Int).toNat)] (n := 4) (Nat.le_of_ble_eq_true rfl)
  generalize (lg_sl [.ref (xB X + (0 : Int).toNat), .int (Int32.ofInt k), .ref (xB X + (455 : Int).toNat)] ++ List.replicate (4 - (lg_sl [.ref (xB X + (0 : Int).toNat), .int (Int32.ofInt k), .ref (xB X + (455 : Int).toNat)]).length) Slot.unset).toArray = ls at hl ⊢
  have hl : lv_has ls 4 [(0, .ref (xB X + (0 : Int).toNat)), (1, .int (Int32.ofInt k)), (2, .ref (xB X + (455 : Int).toNat))] := hl
  generalize hag : ([(2, 0), (0, k), (2, 455)].map (cv X)).toArray = ar at *
  have hS : va_S (aX X) s.heap s.heap [] := va_S.rf
  refine lv_aload_n hx hb dL_row_0 (i := 2) rfl (lv_at hl 2 rfl) ?_
  refine lv_iconst (v := Int32.ofInt 0) hx hb dL_row_1 rfl ?_
  refine lv_aload_n hx hb dL_row_2 (i := 0) rfl (lv_at hl 0 rfl) ?_
  refine lv_iload_n hx hb dL_row_3 (i := 1) rfl (lv_at hl 1 rfl) ?_
  have hws := gw_hws (gw_ws (show 188 < 325 by decide))
  have base : CallW (headSpec wlr { frames := d + 3, cells := 1, slots := 6, locals := 100 * (d + 3) }).room s ar RL (mY 188).cls 15 (mY 188) (mB 188) (mL 188) (mR 188) (ws_ 188) { frames := d + 2, cells := 1, slots := 6, locals := 100 * (d + 2) } 1 6 1 :=
    ⟨⟨rfl, rfl, Nat.le_refl _, by show 8 + (mL 188 + 11) + 100 * (d + 2) ≤ 100 * (d + 3); omega, pay_in hg hws, List.mem_cons_self, hg _ (code_in (by decide)), hg _ p3, p6, fun sig hs => (mP_188.symm.trans (p7 sig hs)), hg _ wl_l15⟩, hg _ p1, hg _ (p2 rfl)⟩
  have hPM0 : ∀ U : State, U.heap = s.heap → s.WarmedH U.vm → PMx X [(2, 0), (0, k)] S I ([(2, 0), (0, k)].map (cv X)).toArray U := fun U hU hW => ⟨rfl, by rw [hU]; exact hR, hK.warm hW, by rw [hU]; exact hH.move hW.alike, by rw [hU]; exact hE.move hW⟩
  rw [kr_a2] at hPM0
  have hM := rx_met (X := X) (l := l) (Qc := va_Ql (fun (_ : Int64) (_ : Unit) => False) (fun _ _ => True) (aX X)) hl0 hd (ag := [(2, 0), (0, k)]) (by unfold argsOk; rw [mL_188]; rfl) hsg
  refine vx_calll (rest := [.int (Int32.ofInt 0), .ref (xB X + (455 : Int).toNat)]) (vx_runV (C := (mY 188).cls) (As := [.int (Int32.ofInt k)]) (b := xB X + (0 : Int).toNat) ⟨hx, hb, hml, hown, hg⟩ hM base ⟨PMx.blind X _ S I, kr_recv hO hR hK, hPM0⟩ rfl rfl hl.1 rfl (lv_room (Nat.le_of_ble_eq_true rfl)) dL_row_4 ⟨Nat.le_refl _, Nat.le_refl _⟩) hS (fun _ _ h => h) (fun _ h => h) (fun _ _ h => h) (fun E ce q9 u t H1 locs1 ht hal _ hB hz hk hS1 hce hcv hcl => ?_) (fun r u t H1 locs1 _ _ hf => hf.elim)
  obtain ⟨rfl, hR1⟩ := hB
  subst ht
  refine vx_catch (own := RL) (name := NSE) hown [] ⟨0, 8, 11, 13⟩ [] htab (fun z hz => nomatch hz) rfl (by decide) (hg _ wl_k13) (hE.2.2.1.use rfl) hce hcv hcl ?_
  refine lv_astore_n (lv' := (3, .ref q9) :: [(0, .ref (xB X + (0 : Int).toNat)), (1, .int (Int32.ofInt k)), (2, .ref (xB X + (455 : Int).toNat))]) hx hb dL_row_11 rfl hl (by decide) rfl (fun ls hl => ?_)
  refine lv_iconst (v := Int32.ofInt 1) hx hb dL_row_12 rfl ?_
  exact W.iret hx hb hr (fun t2 ht2 _ => ⟨rfl, by rw [ht2]; exact hR1, by rw [ht2]; exact hS1.1, by rw [ht2]; exact hS1.2.1⟩) hS1.2.2 dL_row_13 hlk
set_option maxRecDepth 100000 in
theorem lr_back (hO : KO S 0 8) (hA : KA S 455 21 1) (hev : ev d 188 0 (ent 188 [(2, 0), (0, k)]) [] S I = some ((1, r), S, I)) : Met l yL_row wlr { frames := d + 3, cells := 0, slots := 0, locals := 100 * (d + 3) } (PMx X [(2, 0), (0, k), (2, 455)] S I) (QM X (0, 0) S (up2 I 455 (w 0) r)) 0 0 (aX X) := by
  refine mt_ofWH (cc := cL_row) (maxL := 4) (ret := some .int) (hh := [(0, 8, 11, 13)]) (by decide +kernel) rfl ?_
  intro p e s m args below meth c s₁ B hml hv
  obtain ⟨rfl, hR, hK, hH, hE⟩ := hv
  have hts := atoms_spec (ws := wlr) B.pre
  have hg : ∀ x ∈ GW, x.before ([(2, 0), (0, k), (2, 455)].map (cv X)).toArray s = true := fun x hx => hts x (List.mem_cons_of_mem _ hx)
  have hx := B.exec
  have hb : c.code = cL_row := B.bytes
  have hr : meth.sig.returnType = some .int := B.returns
  have hlk := B.notSynchronized
  have hown : s.vm.findClass RL = some m.cls := findClass_of_methodNamed B.named
  have htab : c.exceptionTable.toList = [⟨0, 8, 11, 13⟩] := vx_table (x := yL_row) B (hts _ List.mem_cons_self)
  obtain ⟨p1, p2, p3, p4, p5, p6, p7, p8, p9⟩ := p_in (show 188 < 325 by decide)
  have hent : entryFrame m ([(2, 0), (0, k), (2, 455)].map (cv X)).toArray 4 = F0 m 0 ((lg_sl [.ref (xB X + (0 : Int).toNat), .int (Int32.ofInt k), .ref (xB X + (455 : Int).toNat)] ++ List.replicate (4 - (lg_sl [.ref (xB X + (0 : Int).toNat), .int (Int32.ofInt k), .ref (xB X + (455 : Int).toNat)]).length) Slot.unset).toArray) [] := by rw [kr_a1]; exact lg_entry_eq m [.ref (xB X + (0 : Int).toNat), .int (Int32.ofInt k), .ref (xB X + (455 : Int).toNat)] 4
  rw [hent]
  have hl := lv_entry [.ref (xB X + (0 : Int).toNat), .int (Int32.ofInt k), .ref (xB X + (455 : Int).toNat)] (n := 4) (Nat.le_of_ble_eq_true rfl)
  generalize (lg_sl [.ref (xB X + (0 : Int).toNat), .int (Int32.ofInt k), .ref (xB X + (455 : Int).toNat)] ++ List.replicate (4 - (lg_sl [.ref (xB X + (0 : Int).toNat), .int (Int32.ofInt k), .ref (xB X + (455 : Int).toNat)]).length) Slot.unset).toArray = ls at hl ⊢
  have hl : lv_has ls 4 [(0, .ref (xB X + (0 : Int).toNat)), (1, .int (Int32.ofInt k)), (2, .ref (xB X + (455 : Int).toNat))] := hl
  generalize hag : ([(2, 0), (0, k), (2, 455)].map (cv X)).toArray = ar at *
  have hS : va_S (aX X) s.heap s.heap [] := va_S.rf
  refine lv_aload_n hx hb dL_row_0 (i := 2) rfl (lv_at hl 2 rfl) ?_
  refine lv_iconst (v := Int32.ofInt 0) hx hb dL_row_1 rfl ?_
  refine lv_aload_n hx hb dL_row_2 (i := 0) rfl (lv_at hl 0 rfl) ?_
  refine lv_iload_n hx hb dL_row_3 (i := 1) rfl (lv_at hl 1 rfl) ?_
  obtain ⟨nn, hnn⟩ := ev_some.mp hev
  have hM := run_met (l := l) (run_ok l nn) (show 188 < 325 by decide) (by unfold argsOk; rw [mL_188]; rfl : argsOk 188 [(2, 0), (0, k)] = true) hnn X
  rw [Nat.sub_self, Nat.sub_self] at hM
  have hws := gw_hws (gw_ws (show 188 < 325 by decide))
  have base : CallW (headSpec wlr { frames := d + 3, cells := 0, slots := 0, locals := 100 * (d + 3) }).room s ar RL (mY 188).cls 15 (mY 188) (mB 188) (mL 188) (mR 188) (ws_ 188) { frames := d + 1, cells := 0, slots := 0, locals := 100 * (d + 1) } 0 0 1 :=
    ⟨⟨rfl, rfl, by show d + 1 + 1 ≤ d + 3; omega, by show 8 + (mL 188 + 11) + 100 * (d + 1) ≤ 100 * (d + 3); omega, pay_in hg hws, List.mem_cons_self, hg _ (code_in (by decide)), hg _ p3, p6, fun sig hs => (mP_188.symm.trans (p7 sig hs)), hg _ wl_l15⟩, hg _ p1, hg _ (p2 rfl)⟩
  have hPM0 : ∀ U : State, U.heap = s.heap → s.WarmedH U.vm → PM X [(2, 0), (0, k)] S I ([(2, 0), (0, k)].map (cv X)).toArray U := fun U hU hW => ⟨rfl, by rw [hU]; exact hR, hK.warm hW, by rw [hU]; exact hH.move hW.alike⟩
  rw [kr_a2] at hPM0
  have hrest : ([(0, 0), (2, 455)] : List AV).map (cv X) = [.int (Int32.ofInt 0), .ref (xB X + (455 : Int).toNat)] := by
    show [.int (Int32.ofInt 0), cv X (2, 455)] = _
    rw [kq_e5]
  refine run_back (X := X) (v := (1, r)) (r := [(0, 0), (2, 455)]) (S' := S) (I' := I) (a := (Value.ref (xB X + (0 : Int).toNat) :: [.int (Int32.ofInt k)]).toArray) hS (va_runV (C := (mY 188).cls) (As := [.int (Int32.ofInt k)]) (b := xB X + (0 : Int).toNat) ⟨hx, hb, hml, hown, hg⟩ hM base ⟨PM.blind X _ S I, kr_recv hO hR hK, hPM0⟩ rfl rfl hl.1 (by rw [hrest]; rfl) (by rw [hrest]; exact lv_room (Nat.le_of_ble_eq_true rfl)) dL_row_4 ⟨Nat.le_refl _, Nat.le_refl _⟩) (fun H1 locs1 hR1 hS1 => ?_)
  have est : (psh (1, r) [(0, 0), (2, 455)]).map (cv X) = [.long (Int64.ofInt r), .int (Int32.ofInt 0), .ref (xB X + (455 : Int).toNat)] := by
    show [cv X (1, r), .int (Int32.ofInt 0), cv X (2, 455)] = _
    rw [kq_e5]
    rfl
  rw [est]
  have hKd : isK S 455 21 := ⟨hA.1, hA.2.1, hA.2.2.1⟩
  have h0 : 0 ≤ w 0 := by decide
  have h1 : w 0 < (sH S 455).2 := by rw [hA.2.2.2]; decide
  obtain ⟨q0, he⟩ := rel_at (X := X) (I := I) hKd (by omega)
  have he' := he
  rw [ce_lng hKd.2.2] at he'
  refine W.last hx hb (hR1.2.1 q0 _ he') ((hK.1.2 1 _ rfl).1 (sH S 455).2.toNat (fun j => .long (Int64.ofInt (I 455 j)))) (fun q => by cases q) (by show ¬ (_ ∨ (arrV _ _ _).slots.size ≤ _); rw [arrV_size]; exact vp_in_w h0 h1) rfl rfl dL_row_7 fun H2 e1 z oq => ?_
  have hR2 : Rel X S (up2 I 455 (w 0) r) H2 := by
    refine rel_put (e1 := ce X S (up2 I 455 (w 0) r) 455) hR1 hKd (by omega) he ?_ z oq rfl rfl rfl (fun j hj => ce_other hj) (fun j => up_ne I (fun z => by omega))
    rw [ce_lng (I := up2 I 455 (w 0) r) hKd.2.2]
    show H2[_]? = some (vp_cell _ _)
    rw [e1]
    rw [vp_cell_l, vp_cell_l, arrV_store]
    congr 2
    funext q
    unfold updV
    by_cases hq : q = (Int32.ofInt 0).toNatClampNeg
    · rw [if_pos hq, hq, w_clamp, w_nat h0, up_at]
    · rw [if_neg hq, up_ne I (fun z => hq (by rw [w_clamp]; omega))]
  have hS2 := hS1.put (k := (Int32.ofInt 0).toNatClampNeg) z oq (Nat.le_add_right _ _)
  refine lv_goto hx hb dL_row_8 (tgt := 14) rfl ?_
  refine lv_iconst (v := Int32.ofInt 0) hx hb dL_row_14 rfl ?_
  exact W.iret hx hb hr (fun t2 ht2 _ => ⟨rfl, by rw [ht2]; exact hR2, by rw [ht2]; exact hS2.1, by rw [ht2]; exact hS2.2.1⟩) hS2.2.2 dL_row_15 hlk
end r128
