/-! THE CLAIM OUT OF ONE WALK OF THE LAW'S BODY. Your part is whole_start (and what it stands on); all else here is the same for every law, but numbers. -/
def R_law : String := "QueueDriveLaw"
def lw_P (b : Addr) (xs : List Int32) (args : Array Value) (s : State) : Prop := args = #[.ref b] ∧ s.IntsAt b xs ∧ xs.length ≤ 2560 ∧ (Jvm.Cond.and given_1 narrow_1).before args s = true
def lw_Q (_ : Array Value) (s : State) (o : Outcome) (t : State) : Prop := o = .returned (some (.int 1)) ∧ Framed s o t [] 601024 7293034
def lw_Z (below : List Frame) (a : Array Value) (s : State) : State → Prop := fun t => ∃ o, t.status = .running ∧ Ended t below o ∧ lw_Q a s o t
/-- the law's own end, with 1 on the stack, nothing written that was there before, its room as the claim has it -/
theorem lw_ret {p : Program} {l : Launch} {e : Env} {s : State} {m : MethodId} {below : List Frame} {meth : Method} {c : Code} {b : Nat} (hx : p.tables.exec = Jvm.exec) (hb : c.code = code) (hr : meth.sig.returnType = ret) (hlocks : meth.locks = false) {pc : Nat} {H : Heap} {ls : Array Slot} (hdg : decode code pc = .ok (.ireturn, 1)) : W p l e room_1 s m #[Value.ref b] below meth c H [] 601024 7293034 (lw_Z below #[Value.ref b] s) (F0 m pc ls [.int 1]) := by
  intro T hT X
  obtain ⟨fs, hret, hrun, hended, hW, hframe⟩ := X.leave (v := some (.int 1)) (hlocks := hlocks) (fun h => by rw [hr] at h; cases h)
  have hmeth' : T.vm.method? m = some meth := X.method'
  refine ⟨T.setFrames fs, ?_, .returned (some (.int 1)), hrun, hended, rfl, ⟨_, rfl⟩, hW, hframe⟩
  jvm_step X.here [X.here.top, hx, hb, hdg, hmeth', hr, ret, narrow_b1]
  (try refine ⟨rfl, ?_⟩); (try refine ⟨rfl, ?_⟩)
  first | (intro acts; rw [hret _ acts rfl rfl rfl]) | rw [hret _ _ rfl rfl rfl]
  exact Steps.refl _
/-- what holds at the law's entry: the machine, the code, the tables' words (any of lw_tbl by 'hts w (by decide +kernel)'), the script of L ints xs at the cell b, what the Statement gives of the start (any of its parts by flat_of_before) -/
def lw_At (p : Program) (s : State) (m : MethodId) (meth : Method) (c : Code) (b L : Nat) (xs : Nat → Int32) : Prop :=
  p.tables.exec = Jvm.exec ∧ c.code = code ∧ meth.sig.returnType = ret ∧ c.maxLocals = 8 ∧ s.vm.findClass R_law = some m.cls ∧ (∀ w ∈ lw_tbl, w.before #[Value.ref b] s = true) ∧ va_X b L xs s s.heap ∧ b < s.heap.size ∧ meth.locks = false ∧ (Jvm.Cond.and given_1 narrow_1).before #[Value.ref b] s = true
-- ===== YOUR PART BEGINS =====
theorem lw_ctx {p : Program} {s : State} {m : MethodId} {meth : Method} {c : Code} {b L : Nat} {xs : Nat → Int32} (C0 : lw_At p s m meth c b L xs) : ∃ X : XX, xB X = s.heap.size ∧ xS X = b ∧ xL X = L ∧ xs = X.2.2.2.2.2.2.2.2 ∧ Ctx X 325 103 p room_1 s m #[Value.ref b] meth c ∧ EXC X s s.heap := by
  obtain ⟨hx, hb, hr, hml, hown, hts, hX, hbl, hlk, hgv⟩ := C0
  have hfl : ∀ w ∈ FLT, w.before #[Value.ref b] s = true := flat_of_before _ hgv
  have htb : ∀ w ∈ tables_1, w.before #[Value.ref b] s = true := fun w hw => hts w (List.mem_append_right _ hw)
  have hgw : ∀ w ∈ GW, w.before #[Value.ref b] s = true := fun w hw => hts w (List.mem_filter.mp hw).1
  have hA : ∀ a : Nat, a < s.heap.size → ¬ s.heap.size ≤ a := fun a h => Nat.not_le.mpr h
  have hT : ∀ (i : Nat) (w : Cond), tables_1[i]? = some w → w.before #[Value.ref b] s = true := fun i w h => htb w (List.mem_of_getElem? h)
  obtain ⟨K, V, hS, hK⟩ := vk_Sof (args := #[Value.ref b]) (s := s) (N := 12) (tm := tmk) (len := lenS) (byt := bytS) (A := fun q => s.heap.size ≤ q) tx_sm (fun i h => hfl _ (fl_at (tx_ex i h))) (fun i h => hfl _ (fl_at (tx_co i h))) (fun i h => hfl _ (fl_at (tx_ar i h))) (fun i h => hfl _ (fl_at (tx_le i h))) (fun i h j hj => hfl _ (fl_at (tx_el i h j hj))) (fun i j hi hj hn => (tx_ne i j hi hj hn).imp (hfl _) (hfl _)) hA
  have hcs : va_Z "java/lang/String" "COMPACT_STRINGS" "Z" (.int 1) (fun q => s.heap.size ≤ q) s s.heap := va_Zof (args := #[Value.ref b]) (hT 410 _ (by decide +kernel)) (hT 12 _ (by decide +kernel)) (va_eqt (hfl _ (fl_at (i := 4) (by decide +kernel)))) hA
  have hsi : va_Zq "jdk/internal/util/Preconditions" "SIOOBE_FORMATTER" "Ljava/util/function/BiFunction;" (fun q => s.heap.size ≤ q) s s.heap := va_Zqof (args := #[Value.ref b]) (hT 451 _ (by decide +kernel)) (hT 14 _ (by decide +kernel)) (hfl _ (fl_at (i := 5) (by decide +kernel))) hA
  have hus : vx_Zq Bundle.tN "UNASSIGNED_STACK" Bundle.steD (fun q => s.heap.size ≤ q) s s.heap := vx_Zqof (args := #[Value.ref b]) (hT 1236 _ (by decide +kernel)) (hT 18 _ (by decide +kernel)) (hfl _ (fl_at (i := 9) (by decide +kernel))) hA
  have hss : vx_Zq Bundle.tN "SUPPRESSED_SENTINEL" Bundle.listD (fun q => s.heap.size ≤ q) s s.heap := vx_Zqof (args := #[Value.ref b]) (hT 1238 _ (by decide +kernel)) (hT 18 _ (by decide +kernel)) (hfl _ (fl_at (i := 10) (by decide +kernel))) hA
  have hcast : va_Nw (.castable NSE NSE) s := va_Nw.of rfl (hT 1211 _ (by decide +kernel))
  have hd1 : va_Nw (.declares (Bundle.initS "java/lang/RuntimeException")) s := va_Nw.of rfl (hT 1213 _ (by decide +kernel))
  have hd2 : va_Nw (.declares (Bundle.initS "java/lang/Exception")) s := va_Nw.of rfl (hT 1215 _ (by decide +kernel))
  have hd3 : va_Nw (.declares (Bundle.initS Bundle.tN)) s := va_Nw.of rfl (hT 1217 _ (by decide +kernel))
  obtain ⟨c20, a20, n20⟩ := arr_ofC (hgw (.arrayClass .int) (gw_at (i := 142) (by decide +kernel) rfl))
  obtain ⟨c21, a21, n21⟩ := arr_ofC (hgw (.arrayClass .long) (gw_at (i := 64) (by decide +kernel) rfl))
  obtain ⟨c22, a22, n22⟩ := arr_ofC (hgw (.arrayClass .char) (gw_at (i := 49) (by decide +kernel) rfl))
  obtain ⟨c23, a23, n23⟩ := arr_ofC (hgw (.arrayClass .boolean) (gw_at (i := 232) (by decide +kernel) rfl))
  have h24 := hT 213 (.arrayOver (.object "QueueDrive$Drive")) (by decide +kernel)
  have h25 := hT 72 (.arrayOver (.object "QueueDrive$Lane")) (by decide +kernel)
  obtain ⟨c24, a24, n24⟩ := arr_ofO h24
  obtain ⟨c25, a25, n25⟩ := arr_ofO h25
  obtain ⟨dC, dI, hKc⟩ : ∃ (dC : Nat → ClassId) (dI : Nat → Nat → Nat), ∀ (k : Nat) (q : vw_C), vwc[k]? = some q → u_Kn s q.1 q.2.1 q.2.2 (dC k) (dI k) := by
    have h0 : ∀ k : Nat, ∃ z : ClassId × (Nat → Nat), k < 10 → u_Kn s (rwT k).1 (rwT k).2.1 (rwT k).2.2 z.1 z.2 := fun k => by
      by_cases hk : k < 10
      · obtain ⟨k1, k2, k3, k4, k5, -⟩ := kk_ok hk
        obtain ⟨cC, iS, hKn⟩ := u_known (C := (rwT k).1) (T := (rwT k).2.1) (N := (rwT k).2.2) (n := (rwT k).2.2) hgw k1 (hgw _ k4)
        exact ⟨(cC, iS), fun _ => hKn⟩
      · exact ⟨(c20, fun _ => 0), fun h => absurd h hk⟩
    refine ⟨fun k => (Classical.choose (h0 k)).1, fun k => (Classical.choose (h0 k)).2, fun k q hq => ?_⟩
    have hk : k < 10 := (List.getElem?_eq_some_iff.mp hq).1
    have e := (vwc_at hk).symm.trans hq
    cases e
    exact Classical.choose_spec (h0 k) hk
  obtain ⟨Q, hQ⟩ : ∃ Q : Option Nat, va_Z "jdk/internal/util/Preconditions" "SIOOBE_FORMATTER" "Ljava/util/function/BiFunction;" (va_rf Q) (fun q => s.heap.size ≤ q) s s.heap := by
    rcases hsi with h | ⟨t, h⟩
    · exact ⟨none, h⟩
    · exact ⟨some t, h⟩
  have hKN : KN (ent_X s.heap.size b L xs K V Q (dC, dI) c20 c21 c22 c23 c24 c25) s := by
    refine ⟨⟨hKc, fun k q hq => ?_⟩, fun x hx => ?_, fun q hq => ?_, va_AO.of h24, va_AO.of h25⟩
    · match k, hq with
      | 0, hq => cases hq; exact ⟨a20, n20⟩
      | 1, hq => cases hq; exact ⟨a21, n21⟩
      | 2, hq => cases hq; exact ⟨a22, n22⟩
      | 3, hq => cases hq; exact ⟨a23, n23⟩
      | 4, hq => cases hq; exact ⟨a24, n24⟩
      | 5, hq => cases hq; exact ⟨a25, n25⟩
      | k + 6, hq => cases hq
    · have hb2 := htb x (List.mem_filter.mp hx).1
      rcases nw_tabs hx with ⟨a, i, b2, n, d, hh, rfl⟩ | ⟨a, i, y, hh, rfl⟩
      · exact va_Nw.of rfl hb2
      · exact va_Nw.of rfl hb2
    · obtain ⟨q1, q2⟩ := tx_at q hq
      refine vk_R.of (htb _ (tx_w q hq)) ?_
      show (Term.string (cN q.1.1) q.1.2).eval #[Value.ref b] s none [] s = some (.ref (K q.2.1))
      rcases q2 with q2 | rfl
      · rw [q2]; exact hK _ q1
      · obtain ⟨y, y1, y2⟩ := Cond.eq_one (show (Cond.eq (Term.string (cN 8) 91) (Term.string (cN 11) 83)).holds #[Value.ref b] s none s [] = true from hfl _ tx_eq)
        have y3 : (Term.string (cN 8) 91).eval #[Value.ref b] s none [] s = some (.ref (K 0)) := hK 0 (by decide)
        rw [y1] at y3
        rw [← y3]
        exact y2
  refine ⟨ent_X s.heap.size b L xs K V Q (dC, dI) c20 c21 c22 c23 c24 c25, rfl, rfl, rfl, rfl, ⟨hx, by rw [c325]; exact hb, by rw [l325]; exact hml, by rw [cN325]; exact hown, hgw, fun h => absurd h (by decide +kernel), by rw [r325]; exact hr, hlk, hKN, ⟨hcs, hQ, hS, hX, hbl, Nat.le_refl _⟩, by decide, by decide⟩, hus, hss, hcast, hd1, hd2, hd3⟩
set_option maxRecDepth 100000 in
set_option maxHeartbeats 4000000 in
theorem whole_start {p : Program} {e : Env} {s : State} {m : MethodId} {below : List Frame} {meth : Method} {c : Code} (l : Launch) (hflags : l.flags = flags0) {b L : Nat} {xs : Nat → Int32} (hL : L ≤ 2560) (C0 : lw_At p s m meth c b L xs) : W p l e room_1 s m #[Value.ref b] below meth c s.heap [] 0 0 (lw_Z below #[Value.ref b] s) (entryFrame m ([Value.ref b] : List Value).toArray 8) := by
  obtain ⟨X, xb, xS0, xl, xs0, hC, hE⟩ := lw_ctx C0
  have hl0 : l.stackTraces = false := by unfold Launch.stackTraces; rw [hflags]; decide +kernel
  obtain ⟨hx, hb, hr, hml, hown, hts, hX, hbl, hlk, hgv⟩ := id C0
  obtain ⟨S1, I1, g1, g2, g3, g4, g5, g6, g7⟩ := lw_start (d := 99) (L := (L : Int)) (xs := xs)
  have hI : ∀ k, isI (I1 (-2) k) := fun k => by
    rw [g7]
    exact ⟨Int32.le_toInt _, Int32.toInt_lt _⟩
  obtain ⟨j, y5, y6, y7, T, J, f1, f2, f3⟩ := lw_loop (d := 0) (L := (L : Int)) 512 0 100 S1 I1 uU uU uU g2 g3 (by omega) (by omega) hI g6 (by omega) (by omega) (by omega) (by omega) (by omega) (by decide) (by omega)
  have hsg : SG 325 102 0 [(2, -2), uU, uU, uU, uU, uU, uU, uU] [] (S0L (L : Int)) (I0x xs) 1337 (LOC j y5 y6 y7) [] T J := SG.tr g1 f1
  obtain ⟨dc, ds, z1, z2, go⟩ := hsg X p l e room_1 s m #[Value.ref b] below meth c (lw_Z below #[Value.ref b] s) hC hl0 hE
  have z1' : T.1 = 0 + dc := z1
  have z2' : T.2.1 = 0 + ds := z2
  have hR : Rel X (S0L (L : Int)) (I0x xs) s.heap := by
    refine ⟨?_, fun k q hq => ?_, ⟨fun i j p q hp => ?_, fun k q hq => ?_⟩, fun a => ?_, ?_, fun i => ?_⟩
    · exact xb.symm
    · have : ([] : va_W)[k]? = some q := hq
      simp at this
    · have : ([] : va_W)[i]? = some p := hp
      simp at this
    · have : ([] : va_W)[k]? = some q := hq
      simp at this
    · show 0 ≤ (if a = -2 then ((20 : Int), (L : Int)) else (99, 0)).2
      split
      · exact Int.natCast_nonneg _
      · decide
    · rw [xl]; rfl
    · show X.2.2.2.2.2.2.2.2 i = _
      rw [← xs0]
      show xs i = Int32.ofInt ((xs ((i : Int)).toNat).toInt)
      exact (Int32.ofInt_toInt _).symm
  have hag : ([(2, -2)] : List AV).map (cv X) = [Value.ref b] := by
    show [Value.ref (xS X)] = _
    rw [xS0]
  have hLH := LH_ent X (mj := 325) (ag := [(2, -2)]) (by decide +kernel)
  have hent : ent 325 [(2, -2)] = [(2, -2), uU, uU, uU, uU, uU, uU, uU] := by decide +kernel
  have hmL := l325
  rw [hag, hent, hmL] at hLH
  rw [lg_entry_eq]
  refine go s.heap [] _ 0 0 hR va_S.rf (by rw [hmL]; exact hLH) (by show 0 + dc ≤ 601024; omega) (by show 0 + ds ≤ 7293034; omega) (fun H locs ls hR2 hS2 hl2 => ?_)
  refine va_forget (fun q hq => ?_) ?_
  · have := hS2.2.2 q hq
    have h9 : xB X ≤ q.base := this
    rw [xb] at h9
    exact h9
  refine lv_iconst (n := 1) (v := 1) hx hb (pc := 1337) (by decide +kernel) rfl ?_
  refine W.widen (k := 601024) (n := 7293034) (by omega) (by omega) ?_
  exact lw_ret hx hb hr hlk (by decide +kernel)
-- ===== YOUR PART ENDS =====
set_option maxHeartbeats 4000000 in
theorem lw_walk (l : Launch) (hflags : l.flags = flags0) (b : Addr) (xs : List Int32) : MetFree l x (headSpec (Jvm.Cond.code x code maxLocals ret :: tables_1) room_1) (lw_P b xs) (fun _ _ _ _ _ => True) lw_Q := by
  refine MetFree.of_bodyS (code := code) (maxLocals := maxLocals) (ret := ret) (by decide) ?_ ?_
  · intro args s m h hn
    obtain ⟨meth, c, h1, h2, h3, h4, h5, h6, -, -⟩ := Cond.code_spec hn (atoms_spec (ws := Jvm.Cond.code x code maxLocals ret :: tables_1) h _ List.mem_cons_self)
    exact ⟨meth, c, h1, h2, h3, h4, h5, h6⟩
  · intro p e s m args below meth c s₁ B hml0 hP _
    obtain ⟨rfl, hx, hbd, hgv⟩ := hP
    obtain ⟨scr, harrAt, hlist, hof, hsmall⟩ := hx
    obtain ⟨hcb, hkn, -, -⟩ := State.arrayAt?_spec harrAt
    have hown : s.vm.findClass R_law = some m.cls := findClass_of_methodNamed B.named
    have hts0 : ∀ c ∈ (Jvm.Cond.code x code maxLocals ret :: tables_1), c.before #[Value.ref b] s = true := atoms_spec (ws := Jvm.Cond.code x code maxLocals ret :: tables_1) B.pre
    have hts : ∀ w ∈ lw_tbl, w.before #[Value.ref b] s = true := k2_hts_sels lw_privs (fun w hw => hts0 w (List.mem_cons_of_mem _ hw)) lw_privs_ok
    have hml : c.maxLocals = 8 := B.maxLocals_eq (hts0 _ List.mem_cons_self)
    have X₀ : Stand p l e room_1 s m #[Value.ref b] below meth c s₁ [] 0 0 := Stand.of_body B
    have hh0 : s₁.heap = s.heap := by rw [B.state]; rfl
    have hsz : scr.slots.size = xs.length := by rw [← Array.length_toList, hlist, List.length_map]
    have hval : ∀ j : Nat, j < xs.length → scr.slots[j]? = some (.int (xs.getD j 0)) := fun j hj => by
      rw [← Array.getElem?_toList, hlist]
      simp [hj]
    have hbl : b < s.heap.size := (Array.getElem?_eq_some_iff.mp hcb).1
    have hX : va_X b xs.length (fun j => xs.getD j 0) s s.heap := ⟨scr, hcb, hof, hkn, hsz, hval⟩
    have K : W p l e room_1 s m #[Value.ref b] below meth c s₁.heap [] 0 0 (lw_Z below #[Value.ref b] s) (entryFrame m ([Value.ref b] : List Value).toArray 8) := by
      rw [hh0]
      exact whole_start l hflags hbd ⟨B.exec, B.bytes, B.returns, hml, hown, hts, hX, hbl, B.notSynchronized, hgv⟩
    obtain ⟨t, a1, o, b1, b2, b3⟩ := K s₁ rfl X₀
    exact ⟨t, o, a1, b1, b2, b3⟩
theorem lw_pre_spec {args : Array Value} {s : State} (h : (Jvm.Cond.and given_1 narrow_1).before args s = true) (hr : rest_1_c.before args s = true) : ∃ (b : Addr) (xs : List Int32), lw_P b xs args s := by
  have hs := flat_of_before _ h
  have hq := flat_of_before _ hr
  have hc : (Cond.count 1).before args s = true := hs _ (by decide +kernel)
  have harr : (Cond.arrayOf (.arg 0) .int).before args s = true := hs _ (by decide +kernel)
  have hle : (Cond.le (.length (.arg 0)) (.int 2560)).before args s = true := hs _ (by decide +kernel)
  have hlen : (Cond.isInt (.length (.arg 0))).before args s = true := hq _ (by decide +kernel)
  have hall : (Cond.all (.arg 0) (.isInt (.elem (.arg 0) (.index 0)))).before args s = true := hq _ (by decide +kernel)
  obtain ⟨b, xs, hb, hx⟩ := State.ints_of_pre rfl harr hlen hall
  have hsm : xs.length < 2 ^ 31 := hx.choose_spec.2.2.2
  have hev : (Term.length (.arg 0)).eval args s none [] s = some (.int xs.length.toInt32) := hx.length_eval hb
  have hv := Cond.le_ints hev (show (Term.int 2560).eval args s none [] s = some (.int 2560) from rfl)
  have hd : xs.length.toInt32 ≤ 2560 := by
    simpa [Cond.before, Cond.holds, hv] using hle
  have hN : xs.length ≤ 2560 := (Int32.ofNat_le_ofNat hsm (by decide)).mp (show Int32.ofNat xs.length ≤ Int32.ofNat 2560 from hd)
  exact ⟨b, xs, Cond.one_arg hc (show args[0]? = some (.ref b) from hb), hx, hN, h⟩
theorem lw_comes (l : Launch) (hflags : l.flags = flags0) : Comes l x (Jvm.Cond.code x code maxLocals ret :: tables_1) room_1 (fun tb e args s => Calls_1 tb e args s ∧ rest_1 tb e args s ∧ Pre_1 tb e args s)
    (fun _ _ args s o t => lw_Q args s o t) := by
  intro p e ha hc hk s m args below hf hfit hheap happ hpre
  obtain ⟨b, xs, hP⟩ := lw_pre_spec hpre.2.2 hpre.2.1
  obtain ⟨k, o, h1, h2, h3, hQ⟩ := lw_walk l hflags b xs p e ha hc hk s m args below hf ((Spec.applies_iff_loose hf).mp happ).1 hP trivial
  exact ⟨k, o, h1, h2, h3, hQ⟩
theorem lw_frame {s t : State} {o : Outcome} {args : Array Value} (h : Framed s o t [] 601024 7293034) :
    Framed s o t (fieldLocs frame_1_writes args s ++ arrayLocs frame_1_arrays args s ++ staticLocs frame_1_statics s) 601024 7293034 := h
theorem lw_limb (L : Cond) (hL : ∀ (args : Array Value) (s t : State), L.after args s (.returned (some (.int 1))) t = true) :
    ArmFor flags0 classFile x code maxLocals ret World_1 tables_1 room_1 Calls_1 rest_1 Pre_1
      (fun tb e a s o t => postC L tb e a s o t ∧ Framed s o t (fieldLocs frame_1_writes a s ++ arrayLocs frame_1_arrays a s ++ staticLocs frame_1_statics s) 601024 7293034) := by
  intro l hflags _ _ p e ha hc hk s m args below hf hfit hheap happ hpre
  obtain ⟨k, o, h1, h2, h3, rfl, hF⟩ := lw_comes l hflags p e ha hc hk s m args below hf hfit hheap happ hpre
  exact ⟨k, _, h1, h2, h3, hL args s _, lw_frame hF⟩
theorem i_vc : Claimed_1_1 ∧ Claimed_1_2 := ⟨lw_limb limb_1_1 (fun args s t => by simp [limb_1_1, Cond.after, Cond.holds, Cond.value]), lw_limb limb_1_2 (fun args s t => Cond.after_iff.mpr (by
  first | (rw [show limb_1_2 = Cond.eq .result (.int 1) from rfl, Cond.eq_ints (x := 1) (y := 1) rfl rfl]; simp; done) | (simp [limb_1_2, Cond.value, Term.eval]; done)))⟩
