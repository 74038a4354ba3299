/-! one step of the abstract machine is one of the machine's: what is made; copying; calls that are walked here -/
theorem ce_new {X : XX} {S : SS} {I : II} {k : Int} {len : Nat} {j : Int} (hj : j ≠ (sN S : Int)) : ce X (newS S k len) (newI S I) j = ce X S I j := by
  have h1 : sH (newS S k len) j = sH S j := by
    show (if j = (S.1 : Int) then _ else _) = _
    rw [if_neg hj]
  have h2 : ∀ i, sG (newS S k len) j i = sG S j i := fun i => by
    show (if j = (S.1 : Int) then _ else _) = _
    rw [if_neg hj]
  have h3 : ∀ i, newI S I j i = I j i := fun i => by
    show (if j = (S.1 : Int) then _ else _) = _
    rw [if_neg hj]
  unfold ce fV
  simp only [h1, h2, h3]
theorem new_at (S : SS) (k : Int) (len : Nat) : sH (newS S k len) (sN S : Int) = (k, (len : Int)) := by
  show (if (S.1 : Int) = (S.1 : Int) then _ else _) = _
  rw [if_pos rfl]
theorem newG_at (S : SS) (k : Int) (len : Nat) (i : Int) : sG (newS S k len) (sN S : Int) i = -1 := by
  show (if (S.1 : Int) = (S.1 : Int) then _ else _) = _
  rw [if_pos rfl]
theorem newI_at (S : SS) (I : II) (i : Int) : newI S I (sN S : Int) i = 0 := by
  show (if (S.1 : Int) = (S.1 : Int) then _ else _) = _
  rw [if_pos rfl]
theorem rel_new {X : XX} {S : SS} {I : II} {H H1 : Heap} {k : Int} {len : Nat} (hR : Rel X S I H) (hk : k ≠ 99) (h1 : va_at (xD X) vwc (xB X + sN S, ce X (newS S k len) (newI S I) (sN S : Int)) H1) (z : H1.size = H.size + 1) (oq : ∀ q : Nat, q < H.size → H1[q]? = H[q]?) : Rel X (newS S k len) (newI S I) H1 := by
  obtain ⟨r1, r2, r3, r4, r5, r6⟩ := hR
  have hw := ws_push (X := X) (S := S) (S' := newS S k len) (I := I) (I' := newI S I) (e := ce X (newS S k len) (newI S I) (sN S : Int)) rfl (fun j hj => by
    show (if j = (S.1 : Int) then _ else _ : Int × Int).1 = _
    rw [if_neg hj]) (by rw [new_at]; exact hk) rfl (fun j hj => ce_new hj)
  refine ⟨by rw [z, r1]; rfl, ?_, ?_, fun a => ?_, ?_, fun i => ?_⟩
  · rw [← hw]
    refine (r2.kept fun k x hx => oq x.1 ((r2 k x hx).lt)).app fun k x hx => ?_
    have hz : k < 1 := (List.getElem?_eq_some_iff.mp hx).1
    rw [show k = 0 by omega] at hx
    cases hx
    exact h1
  · rw [← hw]
    exact r3.push r2 r1.symm (Nat.le_add_right _ _)
  · show 0 ≤ (if a = (S.1 : Int) then (k, (len : Int)) else sH S a : Int × Int).2
    split
    · exact Int.natCast_nonneg _
    · exact r4 a
  · show (if (-2 : Int) = (S.1 : Int) then (k, (len : Int)) else sH S (-2)) = _
    rw [if_neg (by omega)]
    exact r5
  · rw [r6]
    congr 1
theorem va_S_new {A : Nat → Prop} {H0 H H1 : Heap} {locs : List Loc} (hS : va_S A H0 H locs) (z : H1.size = H.size + 1) (oq : ∀ q : Nat, q < H.size → H1[q]? = H[q]?) : va_S A H0 H1 locs :=
  ⟨Nat.le_trans hS.1 (by omega), fun x h1 h2 => (oq x (Nat.lt_of_lt_of_le h1 hS.1)).trans (hS.2.1 x h1 h2), hS.2.2⟩
section GM
variable {X : XX} {mi d : Nat} {p : Program} {l : Launch} {e : Env} {R : Room} {s : State} {m : MethodId} {args : Array Value} {below : List Frame} {meth : Method} {c : Code} {Q : State → Prop}
variable {pc pc' ln : Nat} {al al' st st' : List AV} {S S' : SS} {I I' : II}
theorem GO.make {k : Int} {len : Nat} (h : ∀ (H : Heap) (locs : List Loc) (ls : Array Slot) (cells slots : Nat), Rel X S I H → va_S (aX X) s.heap H locs → cells + 1 ≤ R.cells → slots + len ≤ R.slots → (∀ (H' : Heap), Rel X (newS S k len) (newI S I) H' → va_S (aX X) s.heap H' locs → W p l e R s m args below meth c H' locs (cells + 1) (slots + len) Q (F0 m pc' ls (st'.map (cv X)))) → W p l e R s m args below meth c H locs cells slots Q (F0 m pc ls (st.map (cv X)))) :
    GO X mi p l e R s m args below meth c Q pc al st S I pc' al st' (newS S k len) (newI S I) :=
  ⟨1, len, rfl, rfl, fun H locs ls cells slots hR hS hl h1 h2 kk => h H locs ls cells slots hR hS h1 h2 (fun H' hR' hS' => kk H' locs ls hR' hS' hl)⟩
theorem newA_some {k : Int} {dd : Nat} (h : newA k dd pc al st S I = some (.inl (pc', al', st', S', I'))) : ∃ z r, st = (0, z) :: r ∧ 0 ≤ w z ∧ w z ≤ 100000 ∧ pc + dd = pc' ∧ al = al' ∧ (2, (S.1 : Int)) :: r = st' ∧ newS S k (w z).toNat = S' ∧ newI S I = I' := by
  unfold newA at h
  split at h
  · rename_i z r
    have hg := gd_some h
    clear h
    obtain ⟨⟨h0, h1⟩, h⟩ := hg
    exact ⟨z, r, rfl, h0, h1, nx_some h⟩
  · cases h
theorem go_newarrI (hC : Ctx X mi d p R s m args meth c) {ty : ArrayType} {k : Int} {t0 : Nat} {wn : Nat} (hw : tAt wn (.arrayClass (newarray.typeOf ty)) = true) (hk : k = 20 ∨ k = 21 ∨ k = 22 ∨ k = 23) (ht : (tysX X)[t0]? = some (xC X k.toNat, newarray.typeOf ty)) (hnm : va_RA s (xC X k.toNat) (newarray.typeOf ty) → s.vm.findClass ("[" ++ (newarray.typeOf ty).toString) = some (xC X k.toNat))
    (hbb : componentBytes (newarray.typeOf ty) ≤ 8) (hdv : (k ≠ 21 ∧ defaultValue (newarray.typeOf ty) = .int 0) ∨ (k = 21 ∧ defaultValue (newarray.typeOf ty) = .long 0))
    (hd : decode (mB mi) pc = .ok (.newarray ty, 2)) (h : newA k 2 pc al st S I = some (.inl (pc', al', st', S', I'))) : GO X mi p l e R s m args below meth c Q pc al st S I pc' al' st' S' I' := by
  obtain ⟨hx, hb, hml, hown, hts, hin, hr, hlk, hK, hH, hf, hlo⟩ := hC
  obtain ⟨z, r, rfl, h0, h1, rfl, rfl, rfl, rfl, rfl⟩ := newA_some h
  refine .make fun H locs ls cells slots hR hS hc1 hc2 kk => ?_
  rw [List.map_cons, cv_i]
  have hbytes : (w z).toNat * componentBytes (newarray.typeOf ty) ≤ 536870912 := by
    have := Nat.mul_le_mul (show (w z).toNat ≤ 100000 by omega) hbb
    omega
  refine va_newaK hx hb (hts _ (gw_at hw rfl)) rfl hd rfl (by rw [w_lt0]; omega) (w_clamp z) hbytes hc1 hc2 hR.1 fun H1 cA e1 z1 o1 hAr hNm => ?_
  have hcA : cA = xC X k.toNat := Option.some.inj (hNm.symm.trans (hnm (hK.1.2 t0 _ ht).2))
  subst hcA
  have z2 : H1.size = H.size + 1 := by rw [z1, hR.1]
  have o2 : ∀ q : Nat, q < H.size → H1[q]? = H[q]? := fun q hq => o1 q (by rw [← hR.1]; exact hq)
  have kk2 := kk H1 (rel_new hR (by omega) ?_ z2 o2) (va_S_new hS z2 o2)
  · rw [List.map_cons, cv_ref X (Int.natCast_nonneg _)] at kk2
    exact kk2
  · rcases hdv with ⟨hk1, hdv⟩ | ⟨hk1, hdv⟩
    · rw [ce_int (k := k) (by rw [new_at]) (by omega), new_at]
      show H1[_]? = some (vp_cell _ _)
      rw [e1, hdv]
      simp only [newI_at]
      rfl
    · rw [ce_lng (by rw [new_at]; exact hk1), new_at]
      show H1[_]? = some (vp_cell _ _)
      rw [e1, hdv]
      simp only [newI_at]
      subst hk1
      rfl
theorem go_newarray (hC : Ctx X mi d p R s m args meth c) {ty : ArrayType} (hd : decode (mB mi) pc = .ok (.newarray ty, ln)) (h : gd (ln = 2) (newT ty pc al st S I) = some (.inl (pc', al', st', S', I'))) : GO X mi p l e R s m args below meth c Q pc al st S I pc' al' st' S' I' := by
  have hg := gd_some h
  clear h
  obtain ⟨hln, h⟩ := hg
  subst hln
  cases ty with
  | int => exact go_newarrI hC (t0 := 0) (wn := 142) (by decide +kernel) (Or.inl rfl) rfl va_nm_int (by decide) (Or.inl ⟨by decide, rfl⟩) hd h
  | long => exact go_newarrI hC (t0 := 1) (wn := 64) (by decide +kernel) (Or.inr (Or.inl rfl)) rfl va_nm_long (by decide) (Or.inr ⟨rfl, rfl⟩) hd h
  | char => exact go_newarrI hC (t0 := 2) (wn := 49) (by decide +kernel) (Or.inr (Or.inr (Or.inl rfl))) rfl va_nm_char (by decide) (Or.inl ⟨by decide, rfl⟩) hd h
  | boolean => exact go_newarrI hC (t0 := 3) (wn := 232) (by decide +kernel) (Or.inr (Or.inr (Or.inr rfl))) rfl va_nm_boolean (by decide) (Or.inl ⟨by decide, rfl⟩) hd h
  | _ => cases h
theorem lkc_ok {c i : Nat} {q : Nat × Nat} (h : lkc c i = some q) : q.1 < 10 ∧ cW ((c, i), q) ∈ GW := by
  have h1 := List.all_eq_true.mp lcl_ok _ (find_in h)
  simp only [cOk, Bool.and_eq_true, decide_eq_true_eq] at h1
  exact ⟨h1.2, gw_at h1.1.1 h1.1.2⟩
theorem go_anewarray (hC : Ctx X mi d p R s m args meth c) {idx : Nat} (hd : decode (mB mi) pc = .ok (.anewarray idx, ln)) (h : gd (ln = 3) (newR mi idx pc al st S I) = some (.inl (pc', al', st', S', I'))) : GO X mi p l e R s m args below meth c Q pc al st S I pc' al' st' S' I' := by
  obtain ⟨hx, hb, hml, hown, hts, hin, hr, hlk, hK, hH, hf, hlo⟩ := hC
  have hg := gd_some h
  clear h
  obtain ⟨hln, h⟩ := hg
  subst hln
  unfold newR at h
  split at h
  · rename_i q hq
    obtain ⟨hci, hw⟩ := lkc_ok hq
    have key : ∀ (k : Int) (t0 ci : Nat) (C : String), q.1 = ci → (k = 24 ∨ k = 25) → ci < 10 → (rwT ci).1 = C → va_AO C s → (tysX X)[t0]? = some (xC X k.toNat, .object C) → newA k 3 pc al st S I = some (.inl (pc', al', st', S', I')) → GO X mi p l e R s m args below meth c Q pc al st S I pc' al' st' S' I' := by
      intro k t0 ci C hq1 hk hci hCn hAO ht h
      obtain ⟨z, r, rfl, h0, h1, rfl, rfl, rfl, rfl, rfl⟩ := newA_some h
      refine .make fun H locs ls cells slots hR hS hc1 hc2 kk => ?_
      rw [List.map_cons, cv_i]
      have hlink := hts _ hw
      unfold cW at hlink
      rw [show ((mC mi, idx), q).2.1 = ci from hq1, hCn] at hlink
      refine W.anew hx hb hown hlink (va_AO.use hAO) rfl hd rfl (by rw [w_lt0]; omega) (by rw [w_clamp]; omega) hc1 (by rw [w_clamp]; exact hc2) fun cA kA comp f1 f2 f3 f4 => ?_
      obtain ⟨kA', comp', k1, k2, k3, k4⟩ := (hK.1.2 t0 _ ht).2
      have hcA : cA = xC X k.toNat := Option.some.inj (f1.symm.trans k4)
      subst hcA
      rw [w_clamp]
      generalize hH1 : H.push ({ cls := xC X k.toNat, slots := Array.replicate (w z).toNat .null, vm := .none } : Cell) = H1
      have z1 : H1.size = H.size + 1 := by rw [← hH1, Array.size_push]
      have e1 : H1[H.size]? = some (arrV (xC X k.toNat) (w z).toNat (fun _ => .null)) := by rw [← hH1, Array.getElem?_push_size, ← arrV_new]
      have o1 : ∀ q : Nat, q < H.size → H1[q]? = H[q]? := fun q hq => by rw [← hH1, Array.getElem?_push, if_neg (Nat.ne_of_lt hq)]
      have kk2 := kk H1 (rel_new hR (by omega) ?_ z1 o1) (va_S_new hS z1 o1)
      · rw [List.map_cons, cv_ref X (Int.natCast_nonneg _)] at kk2
        rw [hR.1]
        exact kk2
      · rw [ce_rf (k := k) (by rw [new_at]) hk, new_at]
        show H1[_]? = some (vp_cell _ _)
        rw [← hR.1, e1]
        simp only [newG_at]
        rfl
    split at h
    · rename_i h1
      exact key 24 4 1 _ h1 (Or.inl rfl) (by decide) rfl hK.2.2.2.1 rfl h
    · split at h
      · rename_i h1
        exact key 25 5 3 _ h1 (Or.inr rfl) (by decide) rfl hK.2.2.2.2 rfl h
      · cases h
  · cases h
theorem go_new (hC : Ctx X mi d p R s m args meth c) {idx : Nat} (hd : decode (mB mi) pc = .ok (.new idx, ln)) (h : gd (ln = 3) (newO mi idx pc al st S I) = some (.inl (pc', al', st', S', I'))) : GO X mi p l e R s m args below meth c Q pc al st S I pc' al' st' S' I' := by
  obtain ⟨hx, hb, hml, hown, hts, hin, hr, hlk, hK, hH, hf, hlo⟩ := hC
  have hg := gd_some h
  clear h
  obtain ⟨hln, h⟩ := hg
  subst hln
  unfold newO at h
  split at h
  · rename_i q hq
    obtain ⟨hci, hw⟩ := lkc_ok hq
    obtain ⟨k1, k2, k3, k4, k5, k6⟩ := kk_ok hci
    obtain ⟨rfl, rfl, rfl, rfl, rfl⟩ := nx_some h
    refine .make fun H locs ls cells slots hR hS hc1 hc2 kk => ?_
    have hKn := hK.1.1 q.1 _ (vwc_at hci)
    rw [k2] at hc2 kk
    refine W.newcK hx hb hown (hts _ hw) (hts _ k4) (hts _ k5) rfl hd hc1 hc2 hKn.2.1 hR.1 fun H1 kC hkC e1 z1 o1 => ?_
    have z2 : H1.size = H.size + 1 := by rw [z1, hR.1]
    have o2 : ∀ q : Nat, q < H.size → H1[q]? = H[q]? := fun q hq => o1 q (by rw [← hR.1]; exact hq)
    have kk2 := kk H1 (rel_new hR (by omega) ?_ z2 o2) (va_S_new hS z2 o2)
    · rw [List.map_cons, cv_ref X (Int.natCast_nonneg _)] at kk2
      exact kk2
    · rw [ce_obj (ci := q.1) (by rw [new_at]) (by omega)]
      refine ⟨_, vwc_at hci, (u_born (tyk q.1) hts k1 hKn hkC e1 (fun k hk => (k6 k hk).1)).to fun j hj => ?_⟩
      have hv : vp_V ((List.range (fN q.1)).map (fun f => cv X (fV (newS S (q.1 : Int) (rwT q.1).2.2) (newI S I) q.1 f (sN S : Int)))) j = cv X (fV (newS S (q.1 : Int) (rwT q.1).2.2) (newI S I) q.1 j (sN S : Int)) := by
        unfold vp_V
        rw [List.getD_eq_getElem?_getD, fields_at (by rw [k2]; exact hj)]
        rfl
      rw [hv]
      unfold fV
      obtain ⟨-, -, -, g4, -⟩ := k6 j hj
      rcases g4 with ⟨c0, c1⟩ | ⟨c0, c1⟩ | ⟨c0, c1⟩
      · rw [if_neg (by omega), newI_at, c1]; rfl
      · rw [if_neg (by omega), newI_at, c1]; rfl
      · rw [if_pos c0, newG_at]
        cases hty : tyk q.1 j <;> first | rfl | (rw [hty] at c1; cases c1)
  · cases h
end GM
