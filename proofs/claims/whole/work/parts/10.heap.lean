/-! one step of the abstract machine is one of the machine's: fields and arrays -/
theorem find_in {α β : Type} [BEq α] [LawfulBEq α] {l : List (α × β)} {a : α} {q : β} (h : (l.find? (fun e => e.1 == a)).map (·.2) = some q) : (a, q) ∈ l := by
  rw [Option.map_eq_some_iff] at h
  obtain ⟨e, he, rfl⟩ := h
  have h1 := List.mem_of_find?_eq_some he
  have h2 := List.find?_some he
  have h3 : e.1 = a := eq_of_beq h2
  rw [← h3]
  exact h1
theorem lkf_ok {c i : Nat} {q : Nat × Nat × Nat × Nat} (h : lkf c i = some q) : q.1 < 10 ∧ q.2.1 < (rwT q.1).2.2 ∧ ((q.2.2.1 = 1 ∧ fW ((c, i), q) ∈ NW) ∨ (q.2.2.1 = 0 ∧ fW ((c, i), q) ∈ GW)) := by
  have h1 := List.all_eq_true.mp lfl_ok _ (find_in h)
  simp only [fOk, Bool.and_eq_true, decide_eq_true_eq] at h1
  obtain ⟨⟨⟨⟨h1, h2⟩, h3⟩, h4⟩, h5⟩ := h1
  refine ⟨h1, h2, ?_⟩
  by_cases hq : q.2.2.1 = 1
  · rw [if_pos hq] at h4
    exact Or.inl ⟨hq, nw_at h3 h4⟩
  · rw [if_neg hq] at h4
    exact Or.inr ⟨by omega, gw_at h3 h4⟩
theorem vwc_at {ci : Nat} (h : ci < 10) : vwc[ci]? = some ((rwT ci).1, (rwT ci).2.1, (rwT ci).2.2) := by
  have h1 : ci < vwc.length := h
  show vwc[ci]? = some (rwT ci)
  unfold rwT
  rw [List.getD_eq_getElem?_getD, List.getElem?_eq_getElem h1]
  rfl
theorem kk_ok {ci : Nat} (h : ci < 10) : (∀ x ∈ u_ws (rwT ci).1 (rwT ci).2.1 (rwT ci).2.2, x ∈ GW) ∧ fN ci = (rwT ci).2.2 ∧ (rwT ci).1 = cN (ci + 2) ∧ Cond.instantiable (rwT ci).1 (rwT ci).2.2 ∈ GW ∧ Cond.initialized (rwT ci).1 ∈ GW ∧
    ∀ k, k < (rwT ci).2.2 → parseFieldDescriptor ((rwT ci).2.1 k).2.2.1 = some (tyk ci k) ∧ ((rwT ci).2.1 k).2.2.2 = fF ci k ∧ ((rwT ci).2.1 k).1 = (rwT ci).1 ∧ ((fT ci k = 0 ∧ tyk ci k = .int) ∨ (fT ci k = 3 ∧ tyk ci k = .boolean) ∨ (fT ci k = 2 ∧ isRf (tyk ci k) = true)) ∧
      ∀ j, j < (rwT ci).2.2 → k ≠ j → ((rwT ci).2.1 k).2.1 ≠ ((rwT ci).2.1 j).2.1 := by
  have h1 := k_ok h
  simp only [kOk, Bool.and_eq_true, decide_eq_true_eq, List.all_eq_true, List.mem_range] at h1
  obtain ⟨⟨⟨⟨⟨⟨⟨h1, h2⟩, h3⟩, h4⟩, h5⟩, h6⟩, h7⟩, h8⟩ := h1
  refine ⟨fun x hx => gw_tbl (h1 x hx).2 (h1 x hx).1, h2, h3, gw_tbl h4 h5, gw_tbl h6 h7, fun k hk => ?_⟩
  rw [← h2] at hk
  obtain ⟨⟨⟨⟨g1, g2⟩, g3⟩, g4⟩, g5⟩ := h8 k hk
  refine ⟨g1, g2, g3, ?_, fun j hj hkj => ?_⟩
  · by_cases c0 : fT ci k = 0
    · rw [if_pos c0] at g4
      exact Or.inl ⟨c0, by simpa using g4⟩
    · rw [if_neg c0] at g4
      by_cases c3 : fT ci k = 3
      · rw [if_pos c3] at g4
        exact Or.inr (Or.inl ⟨c3, by simpa using g4⟩)
      · rw [if_neg c3] at g4
        simp only [Bool.and_eq_true, decide_eq_true_eq] at g4
        exact Or.inr (Or.inr g4)
  · rw [← h2] at hj
    have := g5 j hj
    simp only [Bool.or_eq_true, decide_eq_true_eq] at this
    exact this.resolve_left hkj
theorem ce_obj {X : XX} {S : SS} {I : II} {a : Int} {ci : Nat} (hk : (sH S a).1 = (ci : Int)) (h : ci < 20) : ce X S I a = .inr (ci, (List.range (fN ci)).map (fun f => cv X (fV S I ci f a))) := by
  unfold ce
  rw [hk, if_pos (by omega)]
  rfl
theorem ce_int {X : XX} {S : SS} {I : II} {a k : Int} (hk : (sH S a).1 = k) (h : k = 20 ∨ k = 22 ∨ k = 23) : ce X S I a = .inl (xC X k.toNat, (sH S a).2.toNat, .inl (fun i => Int32.ofInt (I a i))) := by
  unfold ce
  rw [hk, if_neg (by omega), if_neg (by omega), if_pos (by omega)]
theorem ce_lng {X : XX} {S : SS} {I : II} {a : Int} (hk : (sH S a).1 = 21) : ce X S I a = .inl (xC X 21, (sH S a).2.toNat, .inr (.inl (fun i => Int64.ofInt (I a i)))) := by
  unfold ce
  rw [hk, if_neg (by omega), if_pos rfl]
  rfl
theorem ce_rf {X : XX} {S : SS} {I : II} {a k : Int} (hk : (sH S a).1 = k) (h : k = 24 ∨ k = 25) : ce X S I a = .inl (xC X k.toNat, (sH S a).2.toNat, .inr (.inr (.inr (.inr (fun i => crO X (sG S a i)))))) := by
  unfold ce
  rw [hk, if_neg (by omega), if_neg (by omega), if_neg (by omega)]
/-- what a cell of the world is, at a place of it -/
theorem rel_at {X : XX} {S : SS} {I : II} {a k : Int} (hK : isK S a k) (hk : k ≠ 99) : ∃ q0 : Nat, (WS X S I)[q0]? = some (xB X + a.toNat, ce X S I a) := by
  obtain ⟨h0, hn, h1⟩ := hK
  obtain ⟨q0, h⟩ := ws_at (X := X) (I := I) h0 hn (by rw [h1]; exact hk)
  exact ⟨q0, by rw [h, wf_ce h0]⟩
theorem fields_at {X : XX} {S : SS} {I : II} {ci k : Nat} {a : Int} (hk : k < fN ci) : ((List.range (fN ci)).map (fun f => cv X (fV S I ci f a)))[k]? = some (cv X (fV S I ci k a)) := by
  rw [List.getElem?_map, List.getElem?_range hk]
  rfl
section GH
variable {X : XX} {mi d : Nat} {p : Program} {l : Launch} {e : Env} {R : Room} {s : State} {m : MethodId} {args : Array Value} {below : List Frame} {meth : Method} {c : Code} {Q : State → Prop}
variable {pc pc' ln : Nat} {al al' st st' : List AV} {S S' : SS} {I I' : II}
/-- a step that writes nothing -/
theorem GO.read (h : ∀ (H : Heap) (locs : List Loc) (ls : Array Slot) (cells slots : Nat), Rel X S I H → va_S (aX X) s.heap H locs → LH X ls (mL mi) al → W p l e R s m args below meth c H locs cells slots Q (F0 m pc' ls (st'.map (cv X))) → W p l e R s m args below meth c H locs cells slots Q (F0 m pc ls (st.map (cv X)))) :
    GO X mi p l e R s m args below meth c Q pc al st S I pc' al st' S I :=
  ⟨0, 0, rfl, rfl, fun H locs ls cells slots hR hS hl _ _ kk => h H locs ls cells slots hR hS hl (kk H locs ls hR hS hl)⟩
theorem isT_cases {i : Int} (h : isT i) : i.toNat < 12 ∧ ((i.toNat : Nat) : Int) = i := by omega
theorem crO_cell (X : XX) {z : Int} (h : 0 ≤ z) : crO X z = some (xB X + z.toNat) := by rw [crO, if_neg (by omega), if_pos h]
theorem crO_txt (X : XX) {z : Int} (h : isT (-10 - z)) : crO X z = some (xK X (-10 - z).toNat) := by
  rw [crO, if_neg (by omega), if_neg (by omega), if_neg (by omega), if_neg (by omega), if_pos (by omega)]
theorem crO_byt (X : XX) {z : Int} (h : isT (-100 - z)) : crO X z = some (xV X (-100 - z).toNat) := by
  rw [crO, if_neg (by omega), if_neg (by omega), if_neg (by omega), if_neg (by omega), if_neg (by omega)]
theorem go_getfield (hC : Ctx X mi d p R s m args meth c) {idx : Nat} (hd : decode (mB mi) pc = .ok (.getfield idx, ln)) (h : gd (ln = 3) (getf mi idx pc al st S I) = some (.inl (pc', al', st', S', I'))) : GO X mi p l e R s m args below meth c Q pc al st S I pc' al' st' S' I' := by
  obtain ⟨hx, hb, hml, hown, hts, hin, hr, hlk, hK, hH, hf, hlo⟩ := hC
  have hg := gd_some h
  clear h
  obtain ⟨hln, h⟩ := hg
  subst hln
  unfold getf at h
  split at h
  · rename_i a r
    split at h
    · rename_i h15
      rw [h15] at hown
      split at h
      · rename_i h9
        subst h9
        have hg := gd_some h
        clear h
        obtain ⟨hT, h⟩ := hg
        obtain ⟨rfl, rfl, rfl, rfl, rfl⟩ := nx_some h
        refine .read fun H locs ls cells slots hR hS hl kk => ?_
        obtain ⟨h1, h2⟩ := isT_cases hT
        rw [List.map_cons, cv_r, crO_txt X hT]
        rw [List.map_cons, cv_r, crO_byt X (z := -90 + a) (by show isT (-100 - (-90 + a)); rw [show -100 - (-90 + a) = -10 - a by omega]; exact hT), show -100 - (-90 + a) = -10 - a by omega] at kk
        exact vk_getf (o := "java/lang/String") (ref := "java/lang/String") hx hb ((hH.2.2.1).1 _ h1).2.2.1 hS hown (hts _ (gw_at (i := 1923) (by decide +kernel) (by decide +kernel))) (fun _ h => h) hd kk
      · split at h
        · rename_i h9
          subst h9
          have hg := gd_some h
          clear h
          obtain ⟨hT, h⟩ := hg
          obtain ⟨rfl, rfl, rfl, rfl, rfl⟩ := nx_some h
          refine .read fun H locs ls cells slots hR hS hl kk => ?_
          obtain ⟨h1, h2⟩ := isT_cases hT
          rw [List.map_cons, cv_r, crO_txt X hT]
          exact vk_getf (o := "java/lang/String") (ref := "java/lang/String") hx hb ((hH.2.2.1).1 _ h1).2.1 hS hown (hts _ (gw_at (i := 1924) (by decide +kernel) (by decide +kernel))) (fun _ h => h) hd kk
        · cases h
    · split at h
      · rename_i q hq
        have hg := gd_some h
        clear h
        obtain ⟨hKd, h⟩ := hg
        obtain ⟨rfl, rfl, rfl, rfl, rfl⟩ := nx_some h
        obtain ⟨hci, hk, hw⟩ := lkf_ok hq
        obtain ⟨k1, k2, k3, k4, k5, k6⟩ := kk_ok hci
        obtain ⟨g1, g2, g3, g4, g5⟩ := k6 _ hk
        refine .read fun H locs ls cells slots hR hS hl kk => ?_
        obtain ⟨q0, he⟩ := rel_at (X := X) (I := I) hKd (by omega)
        rw [ce_obj hKd.2.2 (by omega)] at he
        rw [List.map_cons, cv_r, crO_cell X hKd.1]
        rcases hw with ⟨hn, hw⟩ | ⟨hn, hw⟩
        · have hw1 := hK.2.1 _ hw
          unfold fW at hw1
          rw [if_pos hn] at hw1
          exact va_getN (ref := (rwT q.1).1) hx hb hts k1 hown hK.1 hR.2.1 q0 he (vwc_at hci) q.2.1 hk (va_Nw.use rfl hw1) (fun x hx => by rw [g3] at hx; exact hx) (fields_at (by rw [k2]; exact hk)) hd kk
        · have hw1 := hts _ hw
          unfold fW at hw1
          rw [if_neg (show ¬ q.2.2.1 = 1 by omega)] at hw1
          exact va_get (ref := (rwT q.1).1) hx hb hts k1 hown hK.1 hR.2.1 q0 he (vwc_at hci) q.2.1 hk hw1 (fun x hx => by rw [g3] at hx; exact hx) (fields_at (by rw [k2]; exact hk)) hd kk
      · cases h
  · cases h
theorem go_getstatic (hC : Ctx X mi d p R s m args meth c) {idx : Nat} (hd : decode (mB mi) pc = .ok (.getstatic idx, ln)) (h : gd (ln = 3) (gets mi idx pc al st S I) = some (.inl (pc', al', st', S', I'))) : GO X mi p l e R s m args below meth c Q pc al st S I pc' al' st' S' I' := by
  obtain ⟨hx, hb, hml, hown, hts, hin, hr, hlk, hK, hH, hf, hlo⟩ := hC
  have hg := gd_some h
  clear h
  obtain ⟨hln, h⟩ := hg
  subst hln
  unfold gets at h
  split at h
  · rename_i h15
    rw [h15] at hown
    split at h
    · rename_i h9
      subst h9
      obtain ⟨rfl, rfl, rfl, rfl, rfl⟩ := nx_some h
      refine .read fun H locs ls cells slots hR hS hl kk => ?_
      exact va_gets (ref := "java/lang/String") hx hb hH.1 hS hown (hts _ (gw_at (i := 409) (by decide +kernel) (by decide +kernel))) (fun _ h => h) hd kk
    · split at h
      · rename_i h9
        subst h9
        obtain ⟨rfl, rfl, rfl, rfl, rfl⟩ := nx_some h
        refine .read fun H locs ls cells slots hR hS hl kk => ?_
        exact va_gets (ref := "jdk/internal/util/Preconditions") hx hb hH.2.1 hS hown (hts _ (gw_at (i := 450) (by decide +kernel) (by decide +kernel))) (fun _ h => h) hd kk
      · cases h
  · cases h
/-- a step that writes one cell -/
theorem rel_put {H H1 : Heap} {a k : Int} {q0 : Nat} {e1 : va_E} (hR : Rel X S I H) (hKd : isK S a k) (hk : k ≠ 99) (he : (WS X S I)[q0]? = some (xB X + a.toNat, ce X S I a)) (h1 : va_at (xD X) vwc (xB X + a.toNat, e1) H1) (z : H1.size = H.size) (oq : ∀ q : Nat, q ≠ xB X + a.toNat → H1[q]? = H[q]?)
    (hN : sN S' = sN S) (hH : sH S' = sH S) (h2 : ce X S' I' a = e1) (ho : ∀ j, j ≠ a → ce X S' I' j = ce X S I j) (hs : ∀ i, I' (-2) i = I (-2) i) : Rel X S' I' H1 := by
  obtain ⟨r1, r2, r3, r4, r5, r6⟩ := hR
  obtain ⟨c0, cn, ck⟩ := hKd
  have hset := ws_set (S' := S') (I' := I') (e := e1) r3 c0 cn (by rw [ck]; exact hk) (by rw [wf_ce c0]; exact he) hN (fun j => by rw [hH]) h2 ho
  refine ⟨by rw [z, r1, hN], ?_, ?_, fun b => by rw [hH]; exact r4 b, by rw [hH]; exact r5, fun i => by rw [r6, hs]⟩
  · rw [← hset]
    exact r2.set r3 he h1 oq
  · rw [← hset]
    exact r3.set he
theorem GO.write (hN : sN S' = sN S) (hL : sL S' = sL S) (h : ∀ (H : Heap) (locs : List Loc) (ls : Array Slot) (cells slots : Nat), Rel X S I H → va_S (aX X) s.heap H locs → LH X ls (mL mi) al → (∀ (H' : Heap) (locs' : List Loc), Rel X S' I' H' → va_S (aX X) s.heap H' locs' → W p l e R s m args below meth c H' locs' cells slots Q (F0 m pc' ls (st'.map (cv X)))) → W p l e R s m args below meth c H locs cells slots Q (F0 m pc ls (st.map (cv X)))) :
    GO X mi p l e R s m args below meth c Q pc al st S I pc' al st' S' I' :=
  ⟨0, 0, hN, hL, fun H locs ls cells slots hR hS hl _ _ kk => h H locs ls cells slots hR hS hl (fun H' locs' hR' hS' => kk H' locs' ls hR' hS' hl)⟩
theorem ce_other {a k v j : Int} (hj : j ≠ a) : ce X S (up2 I a k v) j = ce X S I j := by
  have h1 : ∀ i, up2 I a k v j i = I j i := fun i => by rw [up2, if_neg (fun z => hj z.1)]
  unfold ce fV
  simp only [h1]
theorem ce_otherG {a k v j : Int} (hj : j ≠ a) : ce X (S.1, S.2.1, S.2.2.1, up2 (sG S) a k v) I j = ce X S I j := by
  have h1 : ∀ i, up2 S.2.2.2 a k v j i = S.2.2.2 j i := fun i => by rw [up2, if_neg (fun z => hj z.1)]
  unfold ce fV
  simp only [sG, sH, h1]
theorem up_at (I : II) (a k v : Int) : up2 I a k v a k = v := by rw [up2, if_pos ⟨rfl, rfl⟩]
theorem up_ne (I : II) {a k v b i : Int} (h : ¬ (b = a ∧ i = k)) : up2 I a k v b i = I b i := by rw [up2, if_neg h]
/-- an object's fields with one changed -/
theorem fields_set {ci k : Nat} {a : Int} {x : AV} (hk : k < fN ci) (h1 : fV S' I' ci k a = x) (h2 : ∀ j, j ≠ k → fV S' I' ci j a = fV S I ci j a) :
    ((List.range (fN ci)).map (fun f => cv X (fV S I ci f a))).set k (cv X x) = (List.range (fN ci)).map (fun f => cv X (fV S' I' ci f a)) := by
  apply List.ext_getElem?
  intro j
  by_cases hj : j = k
  · subst hj
    rw [List.getElem?_set_self (by rw [List.length_map, List.length_range]; exact hk), fields_at hk, h1]
  · rw [List.getElem?_set_ne (Ne.symm hj), List.getElem?_map, List.getElem?_map]
    by_cases hjn : j < fN ci
    · rw [List.getElem?_range hjn]
      show some (cv X (fV S I ci j a)) = some (cv X (fV S' I' ci j a))
      rw [h2 j hj]
    · rw [List.getElem?_eq_none (by rw [List.length_range]; omega)]
      rfl
theorem go_putfield (hC : Ctx X mi d p R s m args meth c) {idx : Nat} (hd : decode (mB mi) pc = .ok (.putfield idx, ln)) (h : gd (ln = 3) (putf mi idx pc al st S I) = some (.inl (pc', al', st', S', I'))) : GO X mi p l e R s m args below meth c Q pc al st S I pc' al' st' S' I' := by
  obtain ⟨hx, hb, hml, hown, hts, hin, hr, hlk, hK, hH, hf, hlo⟩ := hC
  have hg := gd_some h
  clear h
  obtain ⟨hln, h⟩ := hg
  subst hln
  unfold putf at h
  split at h
  · rename_i t v a r
    split at h
    · rename_i q hq
      have hg := gd_some h
      clear h
      obtain ⟨hKd, h⟩ := hg
      split at h
      · cases h
      rename_i hfin
      obtain ⟨hci, hk, hw⟩ := lkf_ok hq
      obtain ⟨k1, k2, k3, k4, k5, k6⟩ := kk_ok hci
      have hk' : q.2.1 < fN q.1 := by rw [k2]; exact hk
      obtain ⟨g1, g2, g3, g4, g5⟩ := k6 _ hk
      have key : ∀ (S' : SS) (I' : II), sN S' = sN S → sL S' = sL S → sH S' = sH S → (∀ i, I' (-2) i = I (-2) i) → (∀ j, j ≠ a → ce X S' I' j = ce X S I j) → fV S' I' q.1 q.2.1 a = (t, v) → (∀ j, j ≠ q.2.1 → fV S' I' q.1 j a = fV S I q.1 j a) →
          narrow (tyk q.1 q.2.1) (cv X (t, v)) = cv X (t, v) → fits (tyk q.1 q.2.1) (cv X (t, v)) = true → GO X mi p l e R s m args below meth c Q pc al ((t, v) :: (2, a) :: r) S I (pc + 3) al r S' I' := by
        intro S' I' hN hL hHe hs ho hv hvo hnar hfit
        refine .write hN hL fun H locs ls cells slots hR hS hl kk => ?_
        obtain ⟨q0, he⟩ := rel_at (X := X) (I := I) hKd (by omega)
        have he' := he
        rw [ce_obj hKd.2.2 (by omega)] at he'
        rw [List.map_cons, List.map_cons, cv_r X a, crO_cell X hKd.1]
        have hce : ce X S' I' a = .inr (q.1, ((List.range (fN q.1)).map (fun f => cv X (fV S I q.1 f a))).set q.2.1 (cv X (t, v))) := by
          rw [fields_set hk' hv hvo, ce_obj (by rw [hHe]; exact hKd.2.2) (by omega)]
        have hap := va_apart (own := cN (mC mi)) hts k1 (tyk q.1) (fun k hk => (k6 k hk).1) (fun a ha b hb hab => (k6 a ha).2.2.2.2 b hb hab) hK.1 (vwc_at hci)
        obtain ⟨rr, h1, cell, q1, q2, q3, q4⟩ := hR.2.1 q0 _ he'
        have hrr : rr = ((rwT q.1).1, (rwT q.1).2.1, (rwT q.1).2.2) := Option.some.inj (h1.symm.trans (vwc_at hci))
        subst hrr
        obtain ⟨hSl, hfc, kC, hkC, hkind⟩ := hK.1.1 q.1 _ (vwc_at hci)
        obtain ⟨cf, kf, fi, f, hi, hsl⟩ := hSl q.2.1 hk
        have hlay := hts _ (k1 _ (u_in_lay hk))
        unfold u_lay at hlay
        have hst := (u_facts hfc hkC (u_lays hts k1 hk) hi).1
        have fin : ∀ (H' : Heap) (locs' : List Loc), H'[xB X + a.toNat]? = some (cell.setSlot f.slot (cv X (t, v))) → H'.size = H.size → (∀ z, z ≠ xB X + a.toNat → H'[z]? = H[z]?) → va_S (aX X) s.heap H' locs' → W p l e R s m args below meth c H' locs' cells slots Q (F0 m (pc + 3) ls (r.map (cv X))) := by
          intro H' locs' e1 e2 e3 hS'
          rw [hsl] at e1
          refine kk H' locs' (rel_put hR hKd (by omega) he ?_ e2 e3 hN hHe hce ho hs) hS'
          exact ⟨_, vwc_at hci, t_OB.to (V := updV (vp_V ((List.range (fN q.1)).map (fun f => cv X (fV S I q.1 f a)))) q.2.1 (cv X (t, v))) ⟨_, e1, q2, q3, t_set q4 hap hk _⟩ (fun j _ => vp_updV_set (by rw [List.length_map, List.length_range]; exact hk') _ j)⟩
        have hA : aX X (xB X + a.toNat) := Nat.le_add_right _ _
        rcases hw with ⟨hn, hw⟩ | ⟨hn, hw⟩
        · have hff : fF q.1 q.2.1 = false := by
            cases hff : fF q.1 q.2.1 with
            | false => rfl
            | true => exact absurd ⟨hff, fun z => absurd z.2.2 (by omega)⟩ hfin
          have hw1 := va_Nw.use (A := args) (by unfold fW; rw [if_pos (show q.2.2.1 = 1 from hn)]; rfl) (hK.2.1 _ hw)
          unfold fW at hw1
          rw [if_pos (show q.2.2.1 = 1 from hn)] at hw1
          rw [if_neg (by rw [g2, hff]; decide)] at hlay
          have h6 := u_store hfc hkC hkind hlay hi g1 hnar hfit
          rw [g3] at hi
          refine va_WputK hx hb (f := f) hown hw1 hi hst (by rw [q2]; exact h6) q1 q3 (by rw [hsl]; exact k2_hasslot (q4 q.2.1 hk)) rfl rfl hd fun H' e1 e2 e3 => ?_
          exact fin H' _ e1 e2 e3 (hS.put e2 e3 hA)
        · have hw1 := hts _ hw
          unfold fW at hw1
          rw [if_neg (show ¬ q.2.2.1 = 1 by omega)] at hw1
          cases hff : fF q.1 q.2.1 with
          | false =>
            rw [if_neg (by rw [g2, hff]; decide)] at hlay
            have h6 := u_store hfc hkC hkind hlay hi g1 hnar hfit
            rw [g3] at hi
            refine W.putK hx hb (f := f) ⟨hown, hw1, ⟨_, _, _, hi⟩, hst⟩ (by rw [q2]; exact h6) q1 q3 (by rw [hsl]; exact k2_hasslot (q4 q.2.1 hk)) rfl rfl hd fun H' e1 e2 e3 => ?_
            exact fin H' _ e1 e2 e3 (hS.put e2 e3 hA)
          | true =>
            have hcond : mC mi = q.1 + 2 ∧ mK mi = 2 ∧ q.2.2.1 = 0 := Classical.byContradiction fun z => hfin ⟨hff, z⟩
            rw [if_pos (by rw [g2, hff])] at hlay
            have hcf : m.cls = cf := by
              obtain ⟨_, _, c', _, _, _, -, -, hf', -, -, -, hown2, -⟩ := Cond.laysFinal_spec hlay
              have e1 : c' = cf := by have := hi.symm.trans hf'; simp at this; exact this.1.symm
              rw [g3, k3, ← hcond.1] at hown2
              rw [← e1]; exact Option.some.inj (hown.symm.trans hown2)
            have h6 := u_fits hfc hkC hkind (Or.inr hlay) hi g1 hnar hfit
            rw [g3] at hi
            refine W.putFinK hx hb hown hw1 hi hst hcf (hin hcond.2.1) (by rw [q2]; exact h6) q1 q3 (by rw [hsl]; exact k2_hasslot (q4 q.2.1 hk)) rfl rfl hd fun H' e1 e2 e3 => ?_
            exact fin H' _ e1 e2 e3 (hS.put e2 e3 hA)
      have hs2 : ∀ i, up2 I a q.2.1 v (-2) i = I (-2) i := fun i => up_ne I (fun z => by have := hKd.1; omega)
      have hI : fT q.1 q.2.1 ≠ 2 → fV S (up2 I a q.2.1 v) q.1 q.2.1 a = (0, v) := fun z => by rw [fV, if_neg z, up_at]
      have hIo : ∀ j : Nat, j ≠ q.2.1 → fV S (up2 I a q.2.1 v) q.1 j a = fV S I q.1 j a := fun j hj => by unfold fV; rw [up_ne I (fun z => hj (by omega))]
      split at h
      · rename_i hc
        obtain ⟨rfl, rfl, rfl, rfl, rfl⟩ := nx_some h
        obtain ⟨hc, rfl⟩ := hc
        have ht : tyk q.1 q.2.1 = .int := by rcases g4 with ⟨z, z2⟩ | ⟨z, -⟩ | ⟨z, -⟩ <;> first | exact z2 | omega
        exact key S _ rfl rfl rfl hs2 (fun j hj => ce_other hj) (hI (by omega)) hIo (by rw [ht]; rfl) (by rw [ht]; rfl)
      · split at h
        · rename_i hc
          obtain ⟨rfl, rfl, rfl, rfl, rfl⟩ := nx_some h
          obtain ⟨hc, rfl, hv⟩ := hc
          have ht : tyk q.1 q.2.1 = .boolean := by rcases g4 with ⟨z, -⟩ | ⟨z, z2⟩ | ⟨z, -⟩ <;> first | exact z2 | omega
          exact key S _ rfl rfl rfl hs2 (fun j hj => ce_other hj) (hI (by omega)) hIo (by rw [ht]; rcases hv with rfl | rfl <;> rfl) (by rw [ht]; rcases hv with rfl | rfl <;> rfl)
        · split at h
          · rename_i hc
            obtain ⟨rfl, rfl, rfl, rfl, rfl⟩ := nx_some h
            obtain ⟨hc, rfl, hv⟩ := hc
            have ht : isRf (tyk q.1 q.2.1) = true := by rcases g4 with ⟨z, -⟩ | ⟨z, -⟩ | ⟨z, z2⟩ <;> first | exact z2 | omega
            refine key _ I rfl rfl rfl (fun _ => rfl) (fun j hj => ce_otherG hj) (by rw [fV, if_pos hc]; show (2, up2 (sG S) a q.2.1 v a q.2.1) = _; rw [up_at]) (fun j hj => by unfold fV; show (if _ then (2, up2 (sG S) a q.2.1 v a j) else _) = _; rw [up_ne _ (fun z => hj (by omega))]) ?_ ?_
            · rw [cv_ref X hv]
              cases hty : tyk q.1 q.2.1 <;> first | rfl | (rw [hty] at ht; cases ht)
            · rw [cv_ref X hv]
              cases hty : tyk q.1 q.2.1 <;> first | rfl | (rw [hty] at ht; cases ht)
          · cases h
    · cases h
  · cases h
theorem vp_in_w {i n : Int} (h0 : 0 ≤ w i) (h : w i < n) : vp_in (Int32.ofInt i) n.toNat := by
  intro q
  rcases q with q | q
  · rw [w_lt0] at q
    omega
  · rw [w_clamp] at q
    omega
theorem w_nat {i : Int} (h0 : 0 ≤ w i) : (((w i).toNat : Nat) : Int) = w i := by omega
theorem go_iaload (hC : Ctx X mi d p R s m args meth c) (hd : decode (mB mi) pc = .ok (.iaload, ln)) (h : gd (ln = 1) (aldI 20 pc al st S I) = some (.inl (pc', al', st', S', I'))) : GO X mi p l e R s m args below meth c Q pc al st S I pc' al' st' S' I' := by
  obtain ⟨hx, hb, hml, hown, hts, hin, hr, hlk, hK, hH, hf, hlo⟩ := hC
  have hg := gd_some h
  clear h
  obtain ⟨hln, h⟩ := hg
  subst hln
  unfold aldI at h
  split at h
  · rename_i i a r
    have hg := gd_some h
    clear h
    obtain ⟨⟨ha, hk, h0, h1⟩, h⟩ := hg
    obtain ⟨rfl, rfl, rfl, rfl, rfl⟩ := nx_some h
    refine .read fun H locs ls cells slots hR hS hl kk => ?_
    rw [List.map_cons, List.map_cons, cv_i, cv_r]
    rw [List.map_cons, cv_i] at kk
    rcases ha with ⟨a0, a1⟩ | rfl
    · obtain ⟨q0, he⟩ := rel_at (X := X) (I := I) (a := a) ⟨a0, a1, hk⟩ (by omega)
      rw [ce_int hk (Or.inl rfl)] at he
      rw [crO_cell X a0]
      refine va_iald hx hb hK.1 hR.2.1 q0 0 he rfl (vp_in_w h0 h1) hd ?_
      rw [w_clamp, w_nat h0]
      exact kk
    · rw [hR.2.2.2.2.1] at h1
      refine va_sld hx hb hH.2.2.2.1 (Nat.lt_of_lt_of_le hH.2.2.2.2.1 hH.2.2.2.2.2) (Nat.not_le.mpr hH.2.2.2.2.1) hS (vp_in_w h0 h1) hd ?_
      rw [hR.2.2.2.2.2, w_clamp, w_nat h0]
      exact kk
  · cases h
theorem go_caload (hC : Ctx X mi d p R s m args meth c) (hd : decode (mB mi) pc = .ok (.caload, ln)) (h : gd (ln = 1) (aldI 22 pc al st S I) = some (.inl (pc', al', st', S', I'))) : GO X mi p l e R s m args below meth c Q pc al st S I pc' al' st' S' I' := by
  obtain ⟨hx, hb, hml, hown, hts, hin, hr, hlk, hK, hH, hf, hlo⟩ := hC
  have hg := gd_some h
  clear h
  obtain ⟨hln, h⟩ := hg
  subst hln
  unfold aldI at h
  split at h
  · rename_i i a r
    have hg := gd_some h
    clear h
    obtain ⟨⟨ha, hk, h0, h1⟩, h⟩ := hg
    obtain ⟨rfl, rfl, rfl, rfl, rfl⟩ := nx_some h
    refine .read fun H locs ls cells slots hR hS hl kk => ?_
    rw [List.map_cons, List.map_cons, cv_i, cv_r]
    rw [List.map_cons, cv_i] at kk
    rcases ha with ⟨a0, a1⟩ | rfl
    · obtain ⟨q0, he⟩ := rel_at (X := X) (I := I) (a := a) ⟨a0, a1, hk⟩ (by omega)
      rw [ce_int hk (Or.inr (Or.inl rfl))] at he
      rw [crO_cell X a0]
      refine va_cald hx hb hK.1 hR.2.1 q0 2 he rfl (vp_in_w h0 h1) hd ?_
      rw [w_clamp, w_nat h0]
      exact kk
    · rw [hR.2.2.2.2.1] at hk
      exact absurd hk (show ¬ (20 : Int) = 22 by decide)
  · cases h
theorem go_baload (hC : Ctx X mi d p R s m args meth c) (hd : decode (mB mi) pc = .ok (.baload, ln)) (h : gd (ln = 1) (aldB pc al st S I) = some (.inl (pc', al', st', S', I'))) : GO X mi p l e R s m args below meth c Q pc al st S I pc' al' st' S' I' := by
  obtain ⟨hx, hb, hml, hown, hts, hin, hr, hlk, hK, hH, hf, hlo⟩ := hC
  have hg := gd_some h
  clear h
  obtain ⟨hln, h⟩ := hg
  subst hln
  unfold aldB at h
  split at h
  · rename_i i a r
    split at h
    · have hg := gd_some h
      clear h
      obtain ⟨⟨hT, h0, h1⟩, h⟩ := hg
      obtain ⟨rfl, rfl, rfl, rfl, rfl⟩ := nx_some h
      refine .read fun H locs ls cells slots hR hS hl kk => ?_
      rw [List.map_cons, List.map_cons, cv_i, cv_r, crO_byt X hT]
      rw [List.map_cons, cv_i] at kk
      obtain ⟨t1, t2⟩ := isT_cases hT
      have hlen : lenS.getD (-100 - a).toNat 0 = (txt (-100 - a)).length := by
        unfold lenS txt
        rw [List.getD_eq_getElem?_getD, List.getElem?_map, List.getD_eq_getElem?_getD]
        cases stx[(-100 - a).toNat]? <;> rfl
      have hby : (bytS.getD (-100 - a).toNat []).getD (w i).toNat 0 = Int32.ofInt ((txt (-100 - a)).getD (w i).toNat 0 : Nat) := by
        unfold bytS txt
        rw [List.getD_eq_getElem?_getD (l := stx.map _), List.getElem?_map, List.getD_eq_getElem?_getD (l := stx)]
        cases stx[(-100 - a).toNat]? with
        | none => rfl
        | some l =>
          show (l.map _).getD _ _ = Int32.ofInt ((l.getD _ _ : Nat))
          rw [List.getD_eq_getElem?_getD, List.getElem?_map, List.getD_eq_getElem?_getD]
          cases l[(w i).toNat]? with
          | none => rfl
          | some x => exact (Int32.ofInt_eq_ofNat).symm
      refine va_tb hx hb (hH.2.2.1.1 _ t1).2.2.2 hS (i := Int32.ofInt i) ?_ rfl hd ?_
      · rw [hlen]
        exact vp_in_w h0 h1
      · rw [w_clamp]
        rw [hby]
        exact kk
    · have hg := gd_some h
      clear h
      obtain ⟨⟨hKd, h0, h1⟩, h⟩ := hg
      obtain ⟨rfl, rfl, rfl, rfl, rfl⟩ := nx_some h
      refine .read fun H locs ls cells slots hR hS hl kk => ?_
      obtain ⟨q0, he⟩ := rel_at (X := X) (I := I) hKd (by omega)
      rw [ce_int hKd.2.2 (Or.inr (Or.inr rfl))] at he
      rw [List.map_cons, List.map_cons, cv_i, cv_r, crO_cell X hKd.1]
      rw [List.map_cons, cv_i] at kk
      refine va_zald hx hb hK.1 hR.2.1 q0 3 he rfl (vp_in_w h0 h1) hd ?_
      rw [w_clamp, w_nat h0]
      exact kk
  · cases h
theorem go_laload (hC : Ctx X mi d p R s m args meth c) (hd : decode (mB mi) pc = .ok (.laload, ln)) (h : gd (ln = 1) (aldJ pc al st S I) = some (.inl (pc', al', st', S', I'))) : GO X mi p l e R s m args below meth c Q pc al st S I pc' al' st' S' I' := by
  obtain ⟨hx, hb, hml, hown, hts, hin, hr, hlk, hK, hH, hf, hlo⟩ := hC
  have hg := gd_some h
  clear h
  obtain ⟨hln, h⟩ := hg
  subst hln
  unfold aldJ at h
  split at h
  · rename_i i a r
    have hg := gd_some h
    clear h
    obtain ⟨⟨hKd, h0, h1⟩, h⟩ := hg
    obtain ⟨rfl, rfl, rfl, rfl, rfl⟩ := nx_some h
    refine .read fun H locs ls cells slots hR hS hl kk => ?_
    obtain ⟨q0, he⟩ := rel_at (X := X) (I := I) hKd (by omega)
    rw [ce_lng hKd.2.2] at he
    rw [List.map_cons, List.map_cons, cv_i, cv_r, crO_cell X hKd.1]
    rw [List.map_cons, cv_l] at kk
    refine va_lald hx hb hK.1 hR.2.1 q0 1 he rfl (vp_in_w h0 h1) hd ?_
    rw [w_clamp, w_nat h0]
    exact kk
  · cases h
theorem go_aaload (hC : Ctx X mi d p R s m args meth c) (hd : decode (mB mi) pc = .ok (.aaload, ln)) (h : gd (ln = 1) (aldR pc al st S I) = some (.inl (pc', al', st', S', I'))) : GO X mi p l e R s m args below meth c Q pc al st S I pc' al' st' S' I' := by
  obtain ⟨hx, hb, hml, hown, hts, hin, hr, hlk, hK, hH, hf, hlo⟩ := hC
  have hg := gd_some h
  clear h
  obtain ⟨hln, h⟩ := hg
  subst hln
  unfold aldR at h
  split at h
  · rename_i i a r
    have hg := gd_some h
    clear h
    obtain ⟨⟨hKd, h0, h1⟩, h⟩ := hg
    obtain ⟨rfl, rfl, rfl, rfl, rfl⟩ := nx_some h
    refine .read fun H locs ls cells slots hR hS hl kk => ?_
    rcases hKd with hKd | hKd
    · obtain ⟨q0, he⟩ := rel_at (X := X) (I := I) hKd (by omega)
      rw [ce_rf hKd.2.2 (Or.inl rfl)] at he
      rw [List.map_cons, List.map_cons, cv_i, cv_r, crO_cell X hKd.1]
      rw [List.map_cons, cv_r] at kk
      refine va_aldq hx hb hK.1 hR.2.1 q0 4 he rfl (vp_in_w h0 h1) hd ?_
      rw [w_clamp, w_nat h0]
      exact kk
    · obtain ⟨q0, he⟩ := rel_at (X := X) (I := I) hKd (by omega)
      rw [ce_rf hKd.2.2 (Or.inr rfl)] at he
      rw [List.map_cons, List.map_cons, cv_i, cv_r, crO_cell X hKd.1]
      rw [List.map_cons, cv_r] at kk
      refine va_aldq hx hb hK.1 hR.2.1 q0 5 he rfl (vp_in_w h0 h1) hd ?_
      rw [w_clamp, w_nat h0]
      exact kk
  · cases h
theorem go_alen (hC : Ctx X mi d p R s m args meth c) (hd : decode (mB mi) pc = .ok (.arraylength, ln)) (h : gd (ln = 1) (alen pc al st S I) = some (.inl (pc', al', st', S', I'))) : GO X mi p l e R s m args below meth c Q pc al st S I pc' al' st' S' I' := by
  obtain ⟨hx, hb, hml, hown, hts, hin, hr, hlk, hK, hH, hf, hlo⟩ := hC
  have hg := gd_some h
  clear h
  obtain ⟨hln, h⟩ := hg
  subst hln
  unfold alen at h
  split at h
  · rename_i a r
    split at h
    · have hg := gd_some h
      clear h
      obtain ⟨hT, h⟩ := hg
      obtain ⟨rfl, rfl, rfl, rfl, rfl⟩ := nx_some h
      refine .read fun H locs ls cells slots hR hS hl kk => ?_
      rw [List.map_cons, cv_r, crO_byt X hT]
      rw [List.map_cons, cv_i] at kk
      obtain ⟨t1, t2⟩ := isT_cases hT
      have hlen : lenS.getD (-100 - a).toNat 0 = (txt (-100 - a)).length := by
        unfold lenS txt
        rw [List.getD_eq_getElem?_getD, List.getElem?_map, List.getD_eq_getElem?_getD]
        cases stx[(-100 - a).toNat]? <;> rfl
      refine va_tlen hx hb (hH.2.2.1.1 _ t1).2.2.2 hS rfl hd ?_
      rw [hlen]
      rw [Int32.ofInt_eq_ofNat] at kk
      exact kk
    · have hg := gd_some h
      clear h
      obtain ⟨⟨ha, hk, hk2⟩, h⟩ := hg
      obtain ⟨rfl, rfl, rfl, rfl, rfl⟩ := nx_some h
      refine .read fun H locs ls cells slots hR hS hl kk => ?_
      rw [List.map_cons, cv_r]
      rw [List.map_cons, cv_i] at kk
      rcases ha with ⟨a0, a1⟩ | rfl
      · obtain ⟨q0, he⟩ := rel_at (X := X) (I := I) (a := a) ⟨a0, a1, rfl⟩ (by omega)
        rw [crO_cell X a0]
        have hv : Int32.ofNat (sH S a).2.toNat = Int32.ofInt (sH S a).2 := by
          rw [← Int32.ofInt_eq_ofNat]
          congr 1
          have := hR.2.2.2.1 a
          omega
        rcases (by omega : (sH S a).1 = 20 ∨ (sH S a).1 = 21 ∨ (sH S a).1 = 22 ∨ (sH S a).1 = 23 ∨ (sH S a).1 = 24 ∨ (sH S a).1 = 25) with hk | hk | hk | hk | hk | hk
        · rw [ce_int hk (by omega)] at he
          exact va_alen hx hb hK.1 hR.2.1 q0 0 he rfl hv hd kk
        · rw [ce_lng hk] at he
          exact va_alen hx hb hK.1 hR.2.1 q0 1 he rfl hv hd kk
        · rw [ce_int hk (by omega)] at he
          exact va_alen hx hb hK.1 hR.2.1 q0 2 he rfl hv hd kk
        · rw [ce_int hk (by omega)] at he
          exact va_alen hx hb hK.1 hR.2.1 q0 3 he rfl hv hd kk
        · rw [ce_rf hk (by omega)] at he
          exact va_alen hx hb hK.1 hR.2.1 q0 4 he rfl hv hd kk
        · rw [ce_rf hk (by omega)] at he
          exact va_alen hx hb hK.1 hR.2.1 q0 5 he rfl hv hd kk
      · rw [hR.2.2.2.2.1] at kk
        refine va_slen hx hb hH.2.2.2.1 (Nat.lt_of_lt_of_le hH.2.2.2.2.1 hH.2.2.2.2.2) (Nat.not_le.mpr hH.2.2.2.2.1) hS hd ?_
        rw [← Int32.ofInt_eq_ofNat]
        exact kk
  · cases h
end GH
