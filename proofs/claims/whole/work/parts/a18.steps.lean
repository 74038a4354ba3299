/-! no step writes the script (cell -2); runs of some steps; a call as one of them -/
def NV (S : SS) (I : II) (r : SR) : Prop := (∀ q, r = some (.inl q) → sH q.2.2.2.1 (-2) = sH S (-2) ∧ ∀ k, q.2.2.2.2 (-2) k = I (-2) k) ∧ ∀ q, r = some (.inr (.inl q)) → q.2.1 = S ∧ q.2.2 = I
theorem nv_none (S : SS) (I : II) : NV S I none := ⟨fun q h => (by cases h), fun q h => (by cases h)⟩
theorem nv_nx {S : SS} {I : II} {pc : Nat} {al st : List AV} {S1 : SS} {I1 : II} (h : sH S1 (-2) = sH S (-2) ∧ ∀ k, I1 (-2) k = I (-2) k) : NV S I (nx pc al st S1 I1) := ⟨fun q hq => (by cases hq; exact h), fun q hq => (by cases hq)⟩
theorem nv_same {S : SS} {I : II} {pc : Nat} {al st : List AV} : NV S I (nx pc al st S I) := nv_nx ⟨rfl, fun _ => rfl⟩
theorem nv_up2 {S : SS} {I : II} {pc : Nat} {al st : List AV} {a k v : Int} (h : 0 ≤ a) : NV S I (nx pc al st S (up2 I a k v)) := nv_nx ⟨rfl, fun j => by unfold up2; rw [if_neg (by omega)]⟩
theorem nv_set {S : SS} {I : II} {pc : Nat} {al st : List AV} {G : II} : NV S I (nx pc al st (S.1, S.2.1, S.2.2.1, G) I) := nv_nx ⟨rfl, fun _ => rfl⟩
theorem nv_new {S : SS} {I : II} {pc : Nat} {al st : List AV} {k : Int} {n : Nat} : NV S I (nx pc al st (newS S k n) (newI S I)) := nv_nx ⟨by
    show (if (-2 : Int) = (S.1 : Int) then (k, (n : Int)) else sH S (-2)) = _
    rw [if_neg (by omega)], fun j => by
    show (if (-2 : Int) = (S.1 : Int) then 0 else I (-2) j) = _
    rw [if_neg (by omega)]⟩
theorem nv_ret {S : SS} {I : II} {v : AV} : NV S I (some (.inr (.inl (v, S, I)))) := ⟨fun q hq => (by cases hq), fun q hq => (by cases hq; exact ⟨rfl, rfl⟩)⟩
theorem nv_call {S : SS} {I : II} {v : Nat × List AV × List AV} : NV S I (some (.inr (.inr v))) := ⟨fun q hq => (by cases hq), fun q hq => (by cases hq)⟩
theorem nv_gd {S : SS} {I : II} {c : Prop} {inst : Decidable c} {r : SR} (h : c → NV S I r) : NV S I (@gd c inst r) := by
  unfold gd
  split
  · rename_i hc; exact h hc
  · exact nv_none S I
theorem nv_ite {S : SS} {I : II} {c : Prop} {inst : Decidable c} {a b : SR} (h1 : NV S I a) (h2 : NV S I b) : NV S I (@ite _ c inst a b) := by
  split
  · exact h1
  · exact h2
theorem nv_jmp {S : SS} {I : II} {pc : Nat} {off : Int} {al st : List AV} : NV S I (jmp pc off al st S I) := nv_ite nv_same (nv_none S I)
theorem nv_acpy {S : SS} {I : II} {pc : Nat} {al st : List AV} : NV S I (acpy pc al st S I) := by
  unfold acpy
  split
  · refine nv_gd fun h => nv_nx ⟨rfl, fun k => ?_⟩
    have hb := h.2.1.1
    show (if _ then _ else _) = _
    rw [if_neg (by omega)]
  · exact nv_none _ _
theorem nv_st (mi pc : Nat) (al st : List AV) (S : SS) (I : II) : NV S I (st1 mi pc al st S I) := by
  unfold st1
  split
  · rename_i q hd
    obtain ⟨i, ln⟩ := q
    cases i <;> simp only [st2, ldL, stL, stJ, bin, una, cmpd, getf, gets, putf, newA, newT, newO, newR, aldI, aldB, aldJ, aldR, astI, astJ, astR, alen, call, swt, swl, retI] <;>
      (repeat' (first | exact nv_none _ _ | exact nv_same | exact nv_acpy | (refine nv_up2 ?_; omega) | exact nv_set | exact nv_new | exact nv_ret | exact nv_call | exact nv_jmp | refine nv_gd fun hg => ?_ | refine nv_ite ?_ ?_ | split))
  · exact nv_none S I
theorem ex_nv : ∀ (n d mi pc : Nat) (al st : List AV) (S : SS) (I : II) (r : AV × SS × II), ex n d mi pc al st S I = some r → sH r.2.1 (-2) = sH S (-2) ∧ ∀ k, r.2.2 (-2) k = I (-2) k := by
  intro n
  induction n with
  | zero => intro d mi pc al st S I r h; simp [ex] at h
  | succ n ih =>
    intro d mi pc al st S I r h
    rw [ex] at h
    cases hs : st1 mi pc al st S I with
    | none => rw [hs] at h; simp at h
    | some q =>
      rw [hs] at h
      have hnv := nv_st mi pc al st S I
      rcases q with q | q | q
      · obtain ⟨pc1, al1, st1', S1, I1⟩ := q
        change ex n d mi pc1 al1 st1' S1 I1 = _ at h
        obtain ⟨a, b⟩ := hnv.1 _ hs
        obtain ⟨a', b'⟩ := ih _ _ _ _ _ _ _ _ h
        exact ⟨a'.trans a, fun k => (b' k).trans (b k)⟩
      · simp only [Option.some.injEq] at h
        subst h
        obtain ⟨a, b⟩ := hnv.2 _ hs
        rw [a, b]
        exact ⟨rfl, fun _ => rfl⟩
      · cases d with
        | zero => simp at h
        | succ d =>
          simp only at h
          cases hc : ex n d q.1 0 (ent q.1 q.2.1) [] S I with
          | none => rw [hc] at h; simp at h
          | some r1 =>
            rw [hc] at h
            obtain ⟨mj, ag, rr⟩ := q
            obtain ⟨v1, S1, I1⟩ := r1
            change ex n (d + 1) mi (pc + 3) al (psh v1 rr) S1 I1 = _ at h
            obtain ⟨a, b⟩ := ih _ _ _ _ _ _ _ _ hc
            obtain ⟨a', b'⟩ := ih _ _ _ _ _ _ _ _ h
            exact ⟨a'.trans a, fun k => (b' k).trans (b k)⟩
theorem ev_nv {d mi pc : Nat} {al st : List AV} {S : SS} {I : II} {r : AV × SS × II} (h : ev d mi pc al st S I = some r) : sH r.2.1 (-2) = sH S (-2) ∧ ∀ k, r.2.2 (-2) k = I (-2) k := by
  obtain ⟨n, hn⟩ := ev_some.mp h
  exact ex_nv n _ _ _ _ _ _ _ _ hn
section SGs
variable {X : XX} {mi d : Nat} {p : Program} {l : Launch} {e : Env} {R : Room} {s : State} {m : MethodId} {args : Array Value} {below : List Frame} {meth : Method} {c : Code} {Q : State → Prop}
variable {pc pc' pc2 ln : Nat} {al al' al2 st st' st2' : List AV} {S S' S2 : SS} {I I' I2 : II}
theorem GO.rf : GO X mi p l e R s m args below meth c Q pc al st S I pc al st S I :=
  ⟨0, 0, rfl, rfl, fun H locs ls cells slots hR hS hl _ _ kk => kk H locs ls hR hS hl⟩
theorem GO.tr (h1 : GO X mi p l e R s m args below meth c Q pc al st S I pc' al' st' S' I') (h2 : GO X mi p l e R s m args below meth c Q pc' al' st' S' I' pc2 al2 st2' S2 I2) : GO X mi p l e R s m args below meth c Q pc al st S I pc2 al2 st2' S2 I2 := by
  obtain ⟨a1, b1, e1, f1, g1⟩ := h1
  obtain ⟨a2, b2, e2, f2, g2⟩ := h2
  refine ⟨a1 + a2, b1 + b2, by omega, by omega, fun H locs ls cells slots hR hS hl h1 h2 kk => ?_⟩
  refine g1 H locs ls cells slots hR hS hl (by omega) (by omega) fun H' locs' ls' hR' hS' hl' => ?_
  refine g2 H' locs' ls' _ _ hR' hS' hl' (by omega) (by omega) fun H2 locs2 ls2 hR2 hS2 hl2 => ?_
  have := kk H2 locs2 ls2 hR2 hS2 hl2
  rw [← Nat.add_assoc, ← Nat.add_assoc] at this
  exact this
theorem go_cal2 (hC : Ctx X mi (d + 1) p R s m args meth c) {mj : Nat} {ag r : List AV} {v1 : AV} {S1 : SS} {I1 : II} (hs : st1 mi pc al st S I = some (.inr (.inr (mj, ag, r)))) (hev : ev d mj 0 (ent mj ag) [] S I = some (v1, S1, I1)) :
    GO X mi p l e R s m args below meth c Q pc al st S I (pc + 3) al (psh v1 r) S1 I1 := by
  obtain ⟨n, hc⟩ := ev_some.mp hev
  have ih := run_ok l n
  obtain ⟨c1, c2, -⟩ := ih _ _ _ _ _ _ _ _ _ _ hc
  refine ⟨sN S1 - sN S, sL S1 - sL S, by omega, by omega, fun H locs ls cells slots hR hS hl h1 h2 kk0 => ?_⟩
  have hC' := hC
  obtain ⟨hx, hb, hml, hown, hts, hin, hr, hlk, hK, hH, hf, hlo⟩ := hC
  obtain ⟨vk, idx, hvk, hcall, hd⟩ := st_call hs
  obtain ⟨q, hq, rfl, hkind, hq10, h8, hao, hst⟩ := call_some hvk hcall
  obtain ⟨w1, w2, w3⟩ := lkm_ok hq (by omega)
  obtain ⟨hq6, hmk, hmj⟩ := w3.resolve_left (by omega)
  have hmk' : mK q.2.1 = vk := by clear hst; omega
  obtain ⟨p1, p2, p3, p4, p5, p6, p7, p8, p9⟩ := p_in hmj
  have hM := run_met (l := l) ih hmj hao hc X
  have hcode := code_in hmj
  have hws : ∀ w ∈ ws_ q.2.1, w ∈ GW ∧ ((w.onTables && w.keeps) = true ∨ ∃ ty, w = .arrayClass ty) := fun w hw => by
    have hw' : w ∈ GW := by
      rcases List.mem_cons.mp hw with rfl | hw
      · exact hcode
      · exact hw
    exact ⟨hw', good_of_word (List.mem_filter.mp hw').2⟩
  have hPM : ∀ U : State, U.heap = H → s.WarmedH U.vm → PM X ag S I (ag.map (cv X)).toArray U := fun U hU hW =>
    ⟨rfl, by rw [hU]; exact hR, hK.warm hW, by rw [hU]; exact (hH.move hW.alike).keep hS⟩
  have hsum := w_map_cat X r 8 h8
  have kk := fun (H1 : Heap) (locs1 : List Loc) (hR1 : Rel X S1 I1 H1) (hS1 : va_S (aX X) s.heap H1 locs1) => kk0 H1 locs1 ls hR1 hS1 hl
  have hroom1 : d + 1 + 1 ≤ R.frames := hf
  have hroom2 : 8 + (mL q.2.1 + 11) + 100 * (d + 1) ≤ R.locals := by clear hst; omega
  have hcs : cells + (sN S1 - sN S) ≤ R.cells ∧ slots + (sL S1 - sL S) ≤ R.slots := ⟨h1, h2⟩
  have hfix : CallFix p m c (mB mi) (mL mi) s args GW (cN (mC mi)) := ⟨hx, hb, hml, hown, hts⟩
  have hinit := hts _ p3
  have base : CallB R s args (cN (mC mi)) idx (mY q.2.1) (mB q.2.1) (mL q.2.1) (mR q.2.1) (ws_ q.2.1) { frames := d + 1, cells := sN S1 - sN S, slots := sL S1 - sL S, locals := 100 * (d + 1) } (sN S1 - sN S) (sL S1 - sL S) (mP q.2.1) ∨ va_CN R s args (cN (mC mi)) idx (mY q.2.1) "QueueDrive" (mB q.2.1) (mL q.2.1) (mR q.2.1) (ws_ q.2.1) { frames := d + 1, cells := sN S1 - sN S, slots := sL S1 - sL S, locals := 100 * (d + 1) } (sN S1 - sN S) (sL S1 - sL S) (mP q.2.1) := by
    by_cases h3 : q.1 < 3
    · have hw := hts _ (w1 (Or.inl h3))
      unfold mW at hw
      rw [if_neg (show ¬ q.1 = 10 by omega), if_neg (show ¬ q.1 = 11 by omega), if_neg (show ¬ q.1 = 12 by omega), if_neg (show ¬ q.1 = 13 by omega), if_pos (show q.1 < 3 from h3)] at hw
      exact Or.inl ⟨rfl, rfl, hroom1, hroom2, pay_in hts hws, List.mem_cons_self, hts _ hcode, hinit, p6, p7, hw⟩
    · have hw := hK.2.1 _ (w2 ⟨by omega, hq10⟩)
      unfold mW at hw
      rw [if_neg (show ¬ q.1 = 10 by omega), if_neg (show ¬ q.1 = 11 by omega), if_neg (show ¬ q.1 = 12 by omega), if_neg (show ¬ q.1 = 13 by omega), if_neg (show ¬ q.1 < 3 from h3)] at hw
      exact Or.inr ⟨⟨rfl, rfl, hroom1, hroom2, pay_in hts hws, List.mem_cons_self⟩, hts _ hcode, hinit, p6, p7, va_Nw.use rfl hw⟩
  have hkw := hts _ p1
  rcases hst with ⟨rfl, rfl, hlen⟩ | ⟨hv0, a, As, rfl, rfl, hlen, hr1, hr2⟩
  · rw [if_pos rfl] at hd
    rw [if_pos hmk'] at hkw
    rw [List.map_append, List.map_reverse]
    refine run_back (a := (ag.map (cv X)).toArray) (S' := S1) (I' := I1) (v := v1) (r := r) hS ?_ kk
    rcases base with base | base
    · exact va_runS (As := ag.map (cv X)) hfix hM ⟨base, hkw⟩ ⟨PM.blind X ag S I, hPM⟩ rfl (by rw [List.length_map, hlen]) hl.1 rfl (by show 2 * 0 + _ ≤ 8; omega) hd hcs
    · exact va_runSN (As := ag.map (cv X)) hfix hM ⟨base, hkw, trivial⟩ ⟨PM.blind X ag S I, hPM⟩ rfl (by rw [List.length_map, hlen]) hl.1 rfl (by show 2 * 0 + _ ≤ 8; omega) hd hcs
  · rw [if_neg (by omega)] at hkw
    rw [if_neg hv0] at hd
    by_cases hv1 : vk = 1
    · rw [if_pos hv1] at hd
      have hrc := hr1 hv1
      have hsel := hts _ (p2 (by omega))
      have recv : ∃ b : Nat, crO X a = some b ∧ ∃ cellB : Cell, H[b]? = some cellB ∧ cellB.vm.isStatics = false ∧ s.vm.findClass (mY q.2.1).cls = some cellB.cls := by
        unfold rcv at hrc
        split at hrc
        · rename_i h15
          have hT := of_decide_eq_true hrc
          obtain ⟨t1, t2⟩ := isT_cases hT
          refine ⟨_, crO_txt X hT, ?_⟩
          rw [← p4, h15]
          exact vk_recv hH.2.2.1 t1 hS
        · rename_i h15
          have hKd := of_decide_eq_true hrc
          have hcl : 2 ≤ mC q.2.1 ∧ mC q.2.1 < 12 := m_ok1 hmj (by omega) h15
          have hci : mC q.2.1 - 2 < 10 := by omega
          obtain ⟨q0, he⟩ := rel_at (X := X) (I := I) hKd (by omega)
          rw [ce_obj (ci := mC q.2.1 - 2) (by rw [hKd.2.2]; omega) (by omega)] at he
          refine ⟨_, crO_cell X hKd.1, ?_⟩
          have hrv := va_recv hK.1 hR.2.1 (vwc_at hci) he
          have hnm : (rwT (mC q.2.1 - 2)).1 = (mY q.2.1).cls := by rw [(kk_ok hci).2.2.1, ← p4]; congr 1; omega
          rw [← hnm]
          exact hrv
      obtain ⟨b, hb1, hcell⟩ := recv
      have hPM' : ∀ U : State, U.heap = H → s.WarmedH U.vm → PM X ((2, a) :: As) S I (Value.ref b :: As.map (cv X)).toArray U := fun U hU hW => by
        have := hPM U hU hW
        rw [List.map_cons, cv_r, hb1] at this
        exact this
      rw [List.map_append, List.map_reverse, List.map_cons, cv_r, hb1]
      refine run_back (a := (Value.ref b :: As.map (cv X)).toArray) (S' := S1) (I' := I1) (v := v1) (r := r) hS ?_ kk
      rcases base with base | base
      · exact va_runV (C := (mY q.2.1).cls) (As := As.map (cv X)) hfix hM ⟨base, hkw, hsel⟩ ⟨PM.blind X _ S I, hcell, hPM'⟩ rfl (by rw [List.length_map, hlen]) hl.1 rfl (by show 2 * 0 + _ ≤ 8; omega) hd hcs
      · exact va_runVN (C := (mY q.2.1).cls) (As := As.map (cv X)) hfix hM ⟨base, hkw, hsel⟩ ⟨PM.blind X _ S I, hcell, hPM'⟩ rfl (by rw [List.length_map, hlen]) hl.1 rfl (by show 2 * 0 + _ ≤ 8; omega) hd hcs
    · rw [if_neg hv1] at hd
      have ha0 := hr2 (by omega)
      have hPM' : ∀ U : State, U.heap = H → s.WarmedH U.vm → PM X ((2, a) :: As) S I (Value.ref (xB X + a.toNat) :: As.map (cv X)).toArray U := fun U hU hW => by
        have := hPM U hU hW
        rw [List.map_cons, cv_ref X ha0] at this
        exact this
      have hret : mR q.2.1 = none := m_ok2 hmj (by omega)
      rw [List.map_append, List.map_reverse, List.map_cons, cv_ref X ha0]
      refine run_back (a := (Value.ref (xB X + a.toNat) :: As.map (cv X)).toArray) (S' := S1) (I' := I1) (v := v1) (r := r) hS ?_ kk
      rcases base with base | base
      · rw [hret] at base
        exact va_runI (As := As.map (cv X)) hfix hM ⟨base, p8 (by omega), hkw⟩ ⟨PM.blind X _ S I, hPM'⟩ rfl (by rw [List.length_map, hlen]) hl.1 rfl (by show 2 * 0 + _ ≤ 8; omega) hd hcs
      · rw [hret] at base
        exact va_runIN (As := As.map (cv X)) hfix hM ⟨base, p8 (by omega), hkw⟩ ⟨PM.blind X _ S I, hPM'⟩ rfl (by rw [List.length_map, hlen]) hl.1 rfl (by show 2 * 0 + _ ≤ 8; omega) hd hcs
end SGs
/-- what a throw needs of the machine -/
def NSE : String := "java/util/NoSuchElementException"
def EXC (X : XX) (s : State) (H : Heap) : Prop := vx_Zq Bundle.tN "UNASSIGNED_STACK" Bundle.steD (aX X) s H ∧ vx_Zq Bundle.tN "SUPPRESSED_SENTINEL" Bundle.listD (aX X) s H ∧ va_Nw (.castable NSE NSE) s ∧ va_Nw (.declares (Bundle.initS "java/lang/RuntimeException")) s ∧ va_Nw (.declares (Bundle.initS "java/lang/Exception")) s ∧ va_Nw (.declares (Bundle.initS Bundle.tN)) s
theorem EXC.move {X : XX} {s U : State} {H : Heap} (hW : s.WarmedH U.vm) (h : EXC X s H) : EXC X U H := ⟨h.1.moved hW.alike, h.2.1.moved hW.alike, h.2.2.1.warmC hW, h.2.2.2.1.warmD hW, h.2.2.2.2.1.warmD hW, h.2.2.2.2.2.warmD hW⟩
theorem EXC.keep {X : XX} {s : State} {H H1 : Heap} {locs : List Loc} (h : EXC X s H) (hS : va_S (aX X) H H1 locs) : EXC X s H1 := ⟨h.1.kept hS.2.1, h.2.1.kept hS.2.1, h.2.2⟩
/-- some steps of a method's run -/
def SG (mi d pc : Nat) (al st : List AV) (S : SS) (I : II) (pc' : Nat) (al' st' : List AV) (S' : SS) (I' : II) : Prop :=
  ∀ (X : XX) (p : Program) (l : Launch) (e : Env) (R : Room) (s : State) (m : MethodId) (args : Array Value) (below : List Frame) (meth : Method) (c : Code) (Q : State → Prop), Ctx X mi (d + 1) p R s m args meth c → l.stackTraces = false → EXC X s s.heap → GO X mi p l e R s m args below meth c Q pc al st S I pc' al' st' S' I'
section SG2
variable {mi d pc pc' pc2 : Nat} {al al' al2 st st' st2' : List AV} {S S' S2 : SS} {I I' I2 : II}
theorem SG.rf : SG mi d pc al st S I pc al st S I := fun _ _ _ _ _ _ _ _ _ _ _ _ _ _ _ => GO.rf
theorem SG.tr (h1 : SG mi d pc al st S I pc' al' st' S' I') (h2 : SG mi d pc' al' st' S' I' pc2 al2 st2' S2 I2) : SG mi d pc al st S I pc2 al2 st2' S2 I2 :=
  fun X p l e R s m args below meth c Q hC hl hE => (h1 X p l e R s m args below meth c Q hC hl hE).tr (h2 X p l e R s m args below meth c Q hC hl hE)
theorem SG.one (h : st1 mi pc al st S I = nx pc' al' st' S' I') : SG mi d pc al st S I pc' al' st' S' I' :=
  fun X p l e R s m args below meth c Q hC _ _ => go_st hC h
theorem SG.to (h : st1 mi pc al st S I = nx pc' al' st' S' I') (h2 : SG mi d pc' al' st' S' I' pc2 al2 st2' S2 I2) : SG mi d pc al st S I pc2 al2 st2' S2 I2 := (SG.one h).tr h2
theorem SG.cl {mj : Nat} {ag r : List AV} {v1 : AV} {S1 : SS} {I1 : II} (hs : st1 mi pc al st S I = some (.inr (.inr (mj, ag, r)))) (hev : ev d mj 0 (ent mj ag) [] S I = some (v1, S1, I1))
    (h2 : SG mi d (pc + 3) al (psh v1 r) S1 I1 pc2 al2 st2' S2 I2) : SG mi d pc al st S I pc2 al2 st2' S2 I2 :=
  SG.tr (fun X p l e R s m args below meth c Q hC _ _ => go_cal2 hC hs hev) h2
end SG2
