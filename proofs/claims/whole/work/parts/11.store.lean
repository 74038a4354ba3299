/-! one step of the abstract machine is one of the machine's: stores into arrays -/
section GA
variable {X : XX} {mi d : Nat} {p : Program} {l : Launch} {e : Env} {R : Room} {s : State} {m : MethodId} {args : Array Value} {below : List Frame} {meth : Method} {c : Code} {Q : State → Prop}
variable {pc pc' ln : Nat} {al al' st st' : List AV} {S S' : SS} {I I' : II}
theorem go_iastore (hC : Ctx X mi d p R s m args meth c) (hd : decode (mB mi) pc = .ok (.iastore, ln)) (h : gd (ln = 1) (astI 20 pc al st S I) = some (.inl (pc', al', st', S', I'))) : GO X mi p l e R s m args below meth c Q pc al st S I pc' al' st' S' I' := by
  obtain ⟨hx, hb, hml, hown, hts, hin, hr, hlk, hK, hH, hf, hlo⟩ := hC
  have hg := gd_some h
  clear h
  obtain ⟨hln, h⟩ := hg
  subst hln
  unfold astI at h
  split at h
  · rename_i v i a r
    have hg := gd_some h
    clear h
    obtain ⟨⟨hKd, ⟨h0, h1⟩, h2, h3⟩, h⟩ := hg
    obtain ⟨rfl, rfl, rfl, rfl, rfl⟩ := nx_some h
    refine .write rfl rfl fun H locs ls cells slots hR hS hl kk => ?_
    obtain ⟨q0, he⟩ := rel_at (X := X) (I := I) hKd (by omega)
    have he' := he
    rw [ce_int hKd.2.2 (by omega)] at he'
    rw [List.map_cons, List.map_cons, List.map_cons, cv_i, cv_i, cv_r, crO_cell X hKd.1]
    refine W.iast hx hb (hR.2.1 q0 _ he') ((hK.1.2 0 _ rfl).1 (sH S a).2.toNat (fun j => .int (Int32.ofInt (I a j)))) (fun q => by cases q) (by show ¬ (_ ∨ (arrV _ _ _).slots.size ≤ _); rw [arrV_size]; exact vp_in_w h0 h1) rfl rfl hd fun H1 e1 z oq => ?_
    refine kk H1 _ (rel_put (e1 := ce X S (up2 I a (w i) v) a) hR hKd (by omega) he ?_ z oq rfl rfl rfl (fun j hj => ce_other hj) (fun j => up_ne I (fun z => by have := hKd.1; omega))) (hS.put z oq (Nat.le_add_right _ _))
    rw [ce_int (I := up2 I a (w i) v) hKd.2.2 (by omega)]
    show H1[_]? = some (vp_cell _ _)
    rw [e1]
    rw [vp_cell_i, vp_cell_i, arrV_store]
    congr 2
    funext q
    unfold updV
    by_cases hq : q = (Int32.ofInt i).toNatClampNeg
    · rw [if_pos hq, hq, w_clamp, w_nat h0, up_at]
    · rw [if_neg hq, up_ne I (fun z => hq (by rw [w_clamp]; omega))]
  · cases h
theorem go_bastore (hC : Ctx X mi d p R s m args meth c) (hd : decode (mB mi) pc = .ok (.bastore, ln)) (h : gd (ln = 1) (astI 23 pc al st S I) = some (.inl (pc', al', st', S', I'))) : GO X mi p l e R s m args below meth c Q pc al st S I pc' al' st' S' I' := by
  obtain ⟨hx, hb, hml, hown, hts, hin, hr, hlk, hK, hH, hf, hlo⟩ := hC
  have hg := gd_some h
  clear h
  obtain ⟨hln, h⟩ := hg
  subst hln
  unfold astI at h
  split at h
  · rename_i v i a r
    have hg := gd_some h
    clear h
    obtain ⟨⟨hKd, ⟨h0, h1⟩, h2, h3⟩, h⟩ := hg
    obtain ⟨rfl, rfl, rfl, rfl, rfl⟩ := nx_some h
    refine .write rfl rfl fun H locs ls cells slots hR hS hl kk => ?_
    obtain ⟨q0, he⟩ := rel_at (X := X) (I := I) hKd (by omega)
    have he' := he
    rw [ce_int hKd.2.2 (by omega)] at he'
    rw [List.map_cons, List.map_cons, List.map_cons, cv_i, cv_i, cv_r, crO_cell X hKd.1]
    refine W.zast hx hb (hR.2.1 q0 _ he') ((hK.1.2 3 _ rfl).1 (sH S a).2.toNat (fun j => .int (Int32.ofInt (I a j)))) (fun q => by cases q) (by show ¬ (_ ∨ (arrV _ _ _).slots.size ≤ _); rw [arrV_size]; exact vp_in_w h0 h1) rfl rfl hd fun H1 e1 z oq => ?_
    refine kk H1 _ (rel_put (e1 := ce X S (up2 I a (w i) v) a) hR hKd (by omega) he ?_ z oq rfl rfl rfl (fun j hj => ce_other hj) (fun j => up_ne I (fun z => by have := hKd.1; omega))) (hS.put z oq (Nat.le_add_right _ _))
    rw [ce_int (I := up2 I a (w i) v) hKd.2.2 (by omega)]
    show H1[_]? = some (vp_cell _ _)
    rw [e1, show narrow .boolean (.int (Int32.ofInt v)) = .int (Int32.ofInt v) by rcases h2 rfl with rfl | rfl <;> rfl]
    rw [vp_cell_i, vp_cell_i, arrV_store]
    congr 2
    funext q
    unfold updV
    by_cases hq : q = (Int32.ofInt i).toNatClampNeg
    · rw [if_pos hq, hq, w_clamp, w_nat h0, up_at]
    · rw [if_neg hq, up_ne I (fun z => hq (by rw [w_clamp]; omega))]
  · cases h
theorem w_small {z : Int} (h0 : -2147483648 ≤ z) (h1 : z < 2147483648) : w z = z := Int32.toInt_ofInt_of_le (by omega) (by omega)
theorem nar_char {v : Int} (h0 : 0 ≤ v) (h1 : v < 65536) : narrow .char (.int (Int32.ofInt v)) = .int (Int32.ofInt v) := by
  have h := (pk_charN (q := v.toNat) (by omega)).1
  have e : nI v.toNat = Int32.ofInt v := by
    show Int32.ofNat v.toNat = _
    rw [← Int32.ofInt_eq_ofNat]
    congr 1
    omega
  rw [e] at h
  exact h
theorem go_castore (hC : Ctx X mi d p R s m args meth c) (hd : decode (mB mi) pc = .ok (.castore, ln)) (h : gd (ln = 1) (astI 22 pc al st S I) = some (.inl (pc', al', st', S', I'))) : GO X mi p l e R s m args below meth c Q pc al st S I pc' al' st' S' I' := by
  obtain ⟨hx, hb, hml, hown, hts, hin, hr, hlk, hK, hH, hf, hlo⟩ := hC
  have hg := gd_some h
  clear h
  obtain ⟨hln, h⟩ := hg
  subst hln
  unfold astI at h
  split at h
  · rename_i v i a r
    have hg := gd_some h
    clear h
    obtain ⟨⟨hKd, ⟨h0, h1⟩, h2, h3⟩, h⟩ := hg
    obtain ⟨rfl, rfl, rfl, rfl, rfl⟩ := nx_some h
    refine .write rfl rfl fun H locs ls cells slots hR hS hl kk => ?_
    obtain ⟨q0, he⟩ := rel_at (X := X) (I := I) hKd (by omega)
    have he' := he
    rw [ce_int hKd.2.2 (by omega)] at he'
    rw [List.map_cons, List.map_cons, List.map_cons, cv_i, cv_i, cv_r, crO_cell X hKd.1]
    refine W.cast hx hb (hR.2.1 q0 _ he') ((hK.1.2 2 _ rfl).1 (sH S a).2.toNat (fun j => .int (Int32.ofInt (I a j)))) (fun q => by cases q) (by show ¬ (_ ∨ (arrV _ _ _).slots.size ≤ _); rw [arrV_size]; exact vp_in_w h0 h1) rfl rfl hd fun H1 e1 z oq => ?_
    refine kk H1 _ (rel_put (e1 := ce X S (up2 I a (w i) v) a) hR hKd (by omega) he ?_ z oq rfl rfl rfl (fun j hj => ce_other hj) (fun j => up_ne I (fun z => by have := hKd.1; omega))) (hS.put z oq (Nat.le_add_right _ _))
    rw [ce_int (I := up2 I a (w i) v) hKd.2.2 (by omega)]
    show H1[_]? = some (vp_cell _ _)
    rw [e1, nar_char (h3 rfl).1 (h3 rfl).2]
    rw [vp_cell_i, vp_cell_i, arrV_store]
    congr 2
    funext q
    unfold updV
    by_cases hq : q = (Int32.ofInt i).toNatClampNeg
    · rw [if_pos hq, hq, w_clamp, w_nat h0, up_at]
    · rw [if_neg hq, up_ne I (fun z => hq (by rw [w_clamp]; omega))]
  · cases h
theorem go_lastore (hC : Ctx X mi d p R s m args meth c) (hd : decode (mB mi) pc = .ok (.lastore, ln)) (h : gd (ln = 1) (astJ pc al st S I) = some (.inl (pc', al', st', S', I'))) : GO X mi p l e R s m args below meth c Q pc al st S I pc' al' st' S' I' := by
  obtain ⟨hx, hb, hml, hown, hts, hin, hr, hlk, hK, hH, hf, hlo⟩ := hC
  have hg := gd_some h
  clear h
  obtain ⟨hln, h⟩ := hg
  subst hln
  unfold astJ at h
  split at h
  · rename_i v i a r
    have hg := gd_some h
    clear h
    obtain ⟨⟨hKd, h0, h1⟩, h⟩ := hg
    obtain ⟨rfl, rfl, rfl, rfl, rfl⟩ := nx_some h
    refine .write rfl rfl fun H locs ls cells slots hR hS hl kk => ?_
    obtain ⟨q0, he⟩ := rel_at (X := X) (I := I) hKd (by omega)
    have he' := he
    rw [ce_lng hKd.2.2] at he'
    rw [List.map_cons, List.map_cons, List.map_cons, cv_l, cv_i, cv_r, crO_cell X hKd.1]
    refine W.last hx hb (hR.2.1 q0 _ he') ((hK.1.2 1 _ rfl).1 (sH S a).2.toNat (fun j => .long (Int64.ofInt (I a j)))) (fun q => by cases q) (by show ¬ (_ ∨ (arrV _ _ _).slots.size ≤ _); rw [arrV_size]; exact vp_in_w h0 h1) rfl rfl hd fun H1 e1 z oq => ?_
    refine kk H1 _ (rel_put (e1 := ce X S (up2 I a (w i) v) a) hR hKd (by omega) he ?_ z oq rfl rfl rfl (fun j hj => ce_other hj) (fun j => up_ne I (fun z => by have := hKd.1; omega))) (hS.put z oq (Nat.le_add_right _ _))
    rw [ce_lng (I := up2 I a (w i) v) hKd.2.2]
    show H1[_]? = some (vp_cell _ _)
    rw [e1]
    rw [vp_cell_l, vp_cell_l, arrV_store]
    congr 2
    funext q
    unfold updV
    by_cases hq : q = (Int32.ofInt i).toNatClampNeg
    · rw [if_pos hq, hq, w_clamp, w_nat h0, up_at]
    · rw [if_neg hq, up_ne I (fun z => hq (by rw [w_clamp]; omega))]
  · cases h
theorem go_aastore (hC : Ctx X mi d p R s m args meth c) (hd : decode (mB mi) pc = .ok (.aastore, ln)) (h : gd (ln = 1) (astR pc al st S I) = some (.inl (pc', al', st', S', I'))) : GO X mi p l e R s m args below meth c Q pc al st S I pc' al' st' S' I' := by
  obtain ⟨hx, hb, hml, hown, hts, hin, hr, hlk, hK, hH, hf, hlo⟩ := hC
  have hg := gd_some h
  clear h
  obtain ⟨hln, h⟩ := hg
  subst hln
  unfold astR at h
  split at h
  · rename_i v i a r
    have hg := gd_some h
    clear h
    obtain ⟨⟨hKd, h0, h1⟩, h⟩ := hg
    obtain ⟨rfl, rfl, rfl, rfl, rfl⟩ := nx_some h
    have key : ∀ (k kv : Int) (t0 ci : Nat) (C : String), isK S a k → isK S v kv → (k = 24 ∨ k = 25) → kv = (ci : Int) → ci < 10 → (rwT ci).1 = C → (tysX X)[t0]? = some (xC X k.toNat, .object C) → GO X mi p l e R s m args below meth c Q pc al ((2, v) :: (0, i) :: (2, a) :: r) S I (pc + 1) al r (S.1, S.2.1, S.2.2.1, up2 (sG S) a (w i) v) I := by
      intro k kv t0 ci C hKa hKv hk hkv hci hCn ht
      refine .write rfl rfl fun H locs ls cells slots hR hS hl kk => ?_
      obtain ⟨q0, he⟩ := rel_at (X := X) (I := I) hKa (by omega)
      have he' := he
      rw [ce_rf hKa.2.2 hk] at he'
      obtain ⟨qv, hv⟩ := rel_at (X := X) (I := I) hKv (by omega)
      rw [ce_obj (hKv.2.2.trans hkv) (by omega)] at hv
      rw [List.map_cons, List.map_cons, List.map_cons, cv_r, cv_i, cv_r, crO_cell X hKa.1, crO_cell X hKv.1]
      obtain ⟨r', hr', cellV, g1, g2, g3, -⟩ := hR.2.1 qv _ hv
      have hr'' : r' = ((rwT ci).1, (rwT ci).2.1, (rwT ci).2.2) := Option.some.inj (hr'.symm.trans (vwc_at hci))
      subst hr''
      have hcls := (hK.1.1 ci _ (vwc_at hci)).2
      obtain ⟨kA, comp, k1, k2, k3, -⟩ := (hK.1.2 t0 _ ht).2
      have hcomp : comp = (xD X).1 ci := by
        have := hcls.1
        rw [hCn] at this
        exact Option.some.inj (k3.symm.trans this)
      subst hcomp
      obtain ⟨kC, hkC, -⟩ := id hcls.2
      have hlt : (Int32.ofInt i).toNatClampNeg < (sH S a).2.toNat := Nat.not_le.mp fun q => vp_in_w h0 h1 (Or.inr q)
      refine W.aast hx hb (hR.2.1 q0 _ he') (fun q h => by cases h) (fun h => by cases h) k1 k2 rfl hkC ⟨fun q => vp_in_w h0 h1 (Or.inl q), by show _ < (arrV _ _ _).slots.size; rw [arrV_size]; exact hlt⟩ g1 (fun q h => by rw [g3] at h; cases h) (by rw [g2]; exact hkC) (by rw [g2]; exact va_assign hcls) rfl rfl hd fun H1 e1 z oq => ?_
      refine kk H1 _ (rel_put (e1 := ce X (S.1, S.2.1, S.2.2.1, up2 (sG S) a (w i) v) I a) hR hKa (by omega) he ?_ z oq rfl rfl rfl (fun j hj => ce_otherG hj) (fun j => rfl)) (hS.put z oq (Nat.le_add_right _ _))
      rw [ce_rf (S := (S.1, S.2.1, S.2.2.1, up2 (sG S) a (w i) v)) hKa.2.2 hk]
      show H1[_]? = some (vp_cell _ _)
      rw [e1]
      rw [vp_cell_q, vp_cell_q, arrV_store]
      congr 2
      funext q
      unfold updV
      show _ = va_rf (crO X (up2 (sG S) a (w i) v a q))
      by_cases hq : q = (Int32.ofInt i).toNatClampNeg
      · rw [if_pos hq, hq, w_clamp, w_nat h0, up_at, crO_cell X hKv.1]
        rfl
      · rw [if_neg hq, up_ne _ (fun z => hq (by rw [w_clamp]; omega))]
    rcases hKd with ⟨ha, hv⟩ | ⟨ha, hv⟩
    · exact key 24 1 4 1 _ ha hv (Or.inl rfl) rfl (by decide) rfl rfl
    · exact key 25 3 5 3 _ ha hv (Or.inr rfl) rfl (by decide) rfl rfl
  · cases h
end GA
