section GRun
variable {X : XX} {mi d : Nat} {p : Program} {l : Launch} {e : Env} {R : Room} {s : State} {m : MethodId} {args : Array Value} {below : List Frame} {meth : Method} {c : Code} {Q : State → Prop}
variable {pc pc' ln : Nat} {al al' st st' : List AV} {S S' : SS} {I I' : II}
/-- behind a call: what the callee left -/
theorem run_back {v : AV} {r : List AV} {st0 : List Value} {H : Heap} {locs : List Loc} {ls : Array Slot} {cells slots mc ms : Nat} {a : Array Value} (hS : va_S (aX X) s.heap H locs)
    (hr : va_Run p l e R s m args below meth c H locs cells slots mc ms (F0 m pc ls st0) (r.map (cv X)) (QM X v S' I' a) (aX X))
    (kk : ∀ (H1 : Heap) (locs1 : List Loc), Rel X S' I' H1 → va_S (aX X) s.heap H1 locs1 → W p l e R s m args below meth c H1 locs1 (cells + mc) (slots + ms) Q (F0 m (pc + 3) ls ((psh v r).map (cv X)))) : W p l e R s m args below meth c H locs cells slots Q (F0 m pc ls st0) := by
  intro T hT XX
  obtain ⟨v', st₀, t, T', L, h0, X', hL, e1, e2, ⟨hv, hR, hz, hk⟩, st⟩ := hr T hT XX
  have hv' : v' = rv X v := by
    have := hv
    simp only [Outcome.returned.injEq] at this
    exact this
  rw [h0] at hz hk
  obtain ⟨t2, a1, b1⟩ := kk t.heap (locs ++ L) hR ⟨Nat.le_trans hS.1 hz, fun q h1 h2 => (hk q (Nat.lt_of_lt_of_le h1 hS.1) h2).trans (hS.2.1 q h1 h2), fun q hq => by
      rcases List.mem_append.mp hq with h | h
      · exact hS.2.2 q h
      · exact hL q h⟩ T' e1 X'
  refine ⟨t2, st t2 ?_, b1⟩
  have e3 : v'.toList ++ r.map (cv X) = (psh v r).map (cv X) := by
    rw [hv']
    unfold rv psh
    split <;> rfl
  rw [e3]
  exact a1
theorem run_ok (l : Launch) : ∀ n, RunOk l n := by
  intro n
  induction n with
  | zero => intro d mi pc al st S I v S' I' h; simp [ex] at h
  | succ n ih =>
    intro d mi pc al st S I v S' I' h
    rw [ex] at h
    cases hs : st1 mi pc al st S I with
    | none => rw [hs] at h; simp at h
    | some q =>
      rw [hs] at h
      rcases q with q | q | q
      · obtain ⟨pc1, al1, st1', S1, I1⟩ := q
        change ex n d mi pc1 al1 st1' S1 I1 = _ at h
        obtain ⟨m1, m2, m3⟩ := ih _ _ _ _ _ _ _ _ _ _ h
        have hmono : sN S ≤ sN S1 ∧ sL S ≤ sL S1 := (mo_st mi pc al st S I).1 _ hs
        refine ⟨Nat.le_trans hmono.1 m1, Nat.le_trans hmono.2 m2, fun X p e R s m args below meth c hC H locs ls cells slots mc ms hR hS hl e1 e2 h1 h2 => ?_⟩
        obtain ⟨dc, ds, f1, f2, go⟩ := go_st (l := l) (e := e) (below := below) (Q := MQ below (QM X v S' I') args s mc ms (aX X)) hC hs
        refine go H locs ls cells slots hR hS hl (by omega) (by omega) fun H' locs' ls' hR' hS' hl' => ?_
        exact m3 X p e R s m args below meth c hC H' locs' ls' _ _ mc ms hR' hS' hl' (by omega) (by omega) h1 h2
      · simp only [Option.some.injEq] at h
        subst h
        have hSI : S' = S ∧ I' = I := (mo_st mi pc al st S I).2 _ hs
        obtain ⟨rfl, rfl⟩ := hSI
        refine ⟨Nat.le_refl _, Nat.le_refl _, fun X p e R s m args below meth c hC H locs ls cells slots mc ms hR hS hl e1 e2 h1 h2 => ?_⟩
        obtain ⟨-, -, go⟩ := go_ret (l := l) (e := e) (below := below) hC hs
        have e1' : cells = mc := by omega
        have e2' : slots = ms := by omega
        subst e1' e2'
        exact go H locs ls _ _ hR hS
      · cases d with
        | zero => simp at h
        | succ d =>
          simp only at h
          cases hc : ex n d q.1 0 (ent q.1 q.2.1) [] S I with
          | none => rw [hc] at h; simp at h
          | some r1 =>
            rw [hc] at h
            obtain ⟨mj, ag, r⟩ := q
            obtain ⟨v1, S1, I1⟩ := r1
            change ex n (d + 1) mi (pc + 3) al (psh v1 r) S1 I1 = _ at h
            change ex n d mj 0 (ent mj ag) [] S I = _ at hc
            obtain ⟨m1, m2, m3⟩ := ih _ _ _ _ _ _ _ _ _ _ h
            obtain ⟨c1, c2, -⟩ := ih _ _ _ _ _ _ _ _ _ _ hc
            refine ⟨Nat.le_trans c1 m1, Nat.le_trans c2 m2, fun X p e R s m args below meth c hC H locs ls cells slots mc ms hR hS hl e1 e2 h1 h2 => ?_⟩
            have hC' := hC
            obtain ⟨hx, hb, hml, hown, hts, hin, hr, hlk, hK, hH, hf, hlo⟩ := hC
            obtain ⟨vk, idx, hvk, hcall, hd⟩ := st_call hs
            obtain ⟨q, hq, rfl, hkind, hq10, h8, hao, hst⟩ := call_some hvk hcall
            obtain ⟨w1, w2, w3⟩ := lkm_ok hq (by omega)
            obtain ⟨hq6, hmk, hmj⟩ := w3.resolve_left (by omega)
            have hmk' : mK q.2.1 = vk := by clear hst; omega
            obtain ⟨p1, p2, p3, p4, p5, p6, p7, p8, p9⟩ := p_in hmj
            have hM := run_met (l := l) ih hmj hao hc X
            have hcode := code_in hmj
            have hws : ∀ w ∈ ws_ q.2.1, w ∈ GW ∧ ((w.onTables && w.keeps) = true ∨ ∃ ty, w = .arrayClass ty) := fun w hw => by
              have hw' : w ∈ GW := by
                rcases List.mem_cons.mp hw with rfl | hw
                · exact hcode
                · exact hw
              exact ⟨hw', good_of_word (List.mem_filter.mp hw').2⟩
            have hPM : ∀ U : State, U.heap = H → s.WarmedH U.vm → PM X ag S I (ag.map (cv X)).toArray U := fun U hU hW =>
              ⟨rfl, by rw [hU]; exact hR, hK.warm hW, by rw [hU]; exact (hH.move hW.alike).keep hS⟩
            have hsum := w_map_cat X r 8 h8
            have e3 : cells + (sN S1 - sN S) + (sN S' - sN S1) = mc := by clear hst; omega
            have e4 : slots + (sL S1 - sL S) + (sL S' - sL S1) = ms := by clear hst; omega
            have kk := fun (H1 : Heap) (locs1 : List Loc) (hR1 : Rel X S1 I1 H1) (hS1 : va_S (aX X) s.heap H1 locs1) => m3 X p e R s m args below meth c hC' H1 locs1 ls (cells + (sN S1 - sN S)) (slots + (sL S1 - sL S)) mc ms hR1 hS1 hl e3 e4 h1 h2
            have hroom1 : d + 1 + 1 ≤ R.frames := hf
            have hroom2 : 8 + (mL q.2.1 + 11) + 100 * (d + 1) ≤ R.locals := by clear hst; omega
            have hcs : cells + (sN S1 - sN S) ≤ R.cells ∧ slots + (sL S1 - sL S) ≤ R.slots := ⟨by clear hst; omega, by clear hst; omega⟩
            have hfix : CallFix p m c (mB mi) (mL mi) s args GW (cN (mC mi)) := ⟨hx, hb, hml, hown, hts⟩
            have hinit := hts _ p3
            have base : CallB R s args (cN (mC mi)) idx (mY q.2.1) (mB q.2.1) (mL q.2.1) (mR q.2.1) (ws_ q.2.1) { frames := d + 1, cells := sN S1 - sN S, slots := sL S1 - sL S, locals := 100 * (d + 1) } (sN S1 - sN S) (sL S1 - sL S) (mP q.2.1) ∨ va_CN R s args (cN (mC mi)) idx (mY q.2.1) "QueueDrive" (mB q.2.1) (mL q.2.1) (mR q.2.1) (ws_ q.2.1) { frames := d + 1, cells := sN S1 - sN S, slots := sL S1 - sL S, locals := 100 * (d + 1) } (sN S1 - sN S) (sL S1 - sL S) (mP q.2.1) := by
              by_cases h3 : q.1 < 3
              · have hw := hts _ (w1 (Or.inl h3))
                unfold mW at hw
                rw [if_neg (show ¬ q.1 = 10 by omega), if_neg (show ¬ q.1 = 11 by omega), if_neg (show ¬ q.1 = 12 by omega), if_neg (show ¬ q.1 = 13 by omega), if_pos (show q.1 < 3 from h3)] at hw
                exact Or.inl ⟨rfl, rfl, hroom1, hroom2, pay_in hts hws, List.mem_cons_self, hts _ hcode, hinit, p6, p7, hw⟩
              · have hw := hK.2.1 _ (w2 ⟨by omega, hq10⟩)
                unfold mW at hw
                rw [if_neg (show ¬ q.1 = 10 by omega), if_neg (show ¬ q.1 = 11 by omega), if_neg (show ¬ q.1 = 12 by omega), if_neg (show ¬ q.1 = 13 by omega), if_neg (show ¬ q.1 < 3 from h3)] at hw
                exact Or.inr ⟨⟨rfl, rfl, hroom1, hroom2, pay_in hts hws, List.mem_cons_self⟩, hts _ hcode, hinit, p6, p7, va_Nw.use rfl hw⟩
            have hkw := hts _ p1
            rcases hst with ⟨rfl, rfl, hlen⟩ | ⟨hv0, a, As, rfl, rfl, hlen, hr1, hr2⟩
            · rw [if_pos rfl] at hd
              rw [if_pos hmk'] at hkw
              rw [List.map_append, List.map_reverse]
              refine run_back (a := (ag.map (cv X)).toArray) (S' := S1) (I' := I1) (v := v1) (r := r) hS ?_ kk
              rcases base with base | base
              · exact va_runS (As := ag.map (cv X)) hfix hM ⟨base, hkw⟩ ⟨PM.blind X ag S I, hPM⟩ rfl (by rw [List.length_map, hlen]) hl.1 rfl (by show 2 * 0 + _ ≤ 8; omega) hd hcs
              · exact va_runSN (As := ag.map (cv X)) hfix hM ⟨base, hkw, trivial⟩ ⟨PM.blind X ag S I, hPM⟩ rfl (by rw [List.length_map, hlen]) hl.1 rfl (by show 2 * 0 + _ ≤ 8; omega) hd hcs
            · rw [if_neg (by omega)] at hkw
              rw [if_neg hv0] at hd
              by_cases hv1 : vk = 1
              · rw [if_pos hv1] at hd
                have hrc := hr1 hv1
                have hsel := hts _ (p2 (by omega))
                have recv : ∃ b : Nat, crO X a = some b ∧ ∃ cellB : Cell, H[b]? = some cellB ∧ cellB.vm.isStatics = false ∧ s.vm.findClass (mY q.2.1).cls = some cellB.cls := by
                  unfold rcv at hrc
                  split at hrc
                  · rename_i h15
                    have hT := of_decide_eq_true hrc
                    obtain ⟨t1, t2⟩ := isT_cases hT
                    refine ⟨_, crO_txt X hT, ?_⟩
                    rw [← p4, h15]
                    exact vk_recv hH.2.2.1 t1 hS
                  · rename_i h15
                    have hKd := of_decide_eq_true hrc
                    have hcl : 2 ≤ mC q.2.1 ∧ mC q.2.1 < 12 := m_ok1 hmj (by omega) h15
                    have hci : mC q.2.1 - 2 < 10 := by omega
                    obtain ⟨q0, he⟩ := rel_at (X := X) (I := I) hKd (by omega)
                    rw [ce_obj (ci := mC q.2.1 - 2) (by rw [hKd.2.2]; omega) (by omega)] at he
                    refine ⟨_, crO_cell X hKd.1, ?_⟩
                    have hrv := va_recv hK.1 hR.2.1 (vwc_at hci) he
                    have hnm : (rwT (mC q.2.1 - 2)).1 = (mY q.2.1).cls := by rw [(kk_ok hci).2.2.1, ← p4]; congr 1; omega
                    rw [← hnm]
                    exact hrv
                obtain ⟨b, hb1, hcell⟩ := recv
                have hPM' : ∀ U : State, U.heap = H → s.WarmedH U.vm → PM X ((2, a) :: As) S I (Value.ref b :: As.map (cv X)).toArray U := fun U hU hW => by
                  have := hPM U hU hW
                  rw [List.map_cons, cv_r, hb1] at this
                  exact this
                rw [List.map_append, List.map_reverse, List.map_cons, cv_r, hb1]
                refine run_back (a := (Value.ref b :: As.map (cv X)).toArray) (S' := S1) (I' := I1) (v := v1) (r := r) hS ?_ kk
                rcases base with base | base
                · exact va_runV (C := (mY q.2.1).cls) (As := As.map (cv X)) hfix hM ⟨base, hkw, hsel⟩ ⟨PM.blind X _ S I, hcell, hPM'⟩ rfl (by rw [List.length_map, hlen]) hl.1 rfl (by show 2 * 0 + _ ≤ 8; omega) hd hcs
                · exact va_runVN (C := (mY q.2.1).cls) (As := As.map (cv X)) hfix hM ⟨base, hkw, hsel⟩ ⟨PM.blind X _ S I, hcell, hPM'⟩ rfl (by rw [List.length_map, hlen]) hl.1 rfl (by show 2 * 0 + _ ≤ 8; omega) hd hcs
              · rw [if_neg hv1] at hd
                have ha0 := hr2 (by omega)
                have hPM' : ∀ U : State, U.heap = H → s.WarmedH U.vm → PM X ((2, a) :: As) S I (Value.ref (xB X + a.toNat) :: As.map (cv X)).toArray U := fun U hU hW => by
                  have := hPM U hU hW
                  rw [List.map_cons, cv_ref X ha0] at this
                  exact this
                have hret : mR q.2.1 = none := m_ok2 hmj (by omega)
                rw [List.map_append, List.map_reverse, List.map_cons, cv_ref X ha0]
                refine run_back (a := (Value.ref (xB X + a.toNat) :: As.map (cv X)).toArray) (S' := S1) (I' := I1) (v := v1) (r := r) hS ?_ kk
                rcases base with base | base
                · rw [hret] at base
                  exact va_runI (As := As.map (cv X)) hfix hM ⟨base, p8 (by omega), hkw⟩ ⟨PM.blind X _ S I, hPM'⟩ rfl (by rw [List.length_map, hlen]) hl.1 rfl (by show 2 * 0 + _ ≤ 8; omega) hd hcs
                · rw [hret] at base
                  exact va_runIN (As := As.map (cv X)) hfix hM ⟨base, p8 (by omega), hkw⟩ ⟨PM.blind X _ S I, hPM'⟩ rfl (by rw [List.length_map, hlen]) hl.1 rfl (by show 2 * 0 + _ ≤ 8; omega) hd hcs
end GRun
