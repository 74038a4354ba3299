theorem args0_sl (X : XX) : ∀ (ag : List AV), ag.all (fun x => decide (x.1 ≠ 9)) = true → lg_sl (ag.map (cv X)) = (args0 ag).map (fun x => if x.1 = 9 then Slot.second else Slot.val (cv X x))
  | [], _ => rfl
  | x :: l, h => by
    have h1 : x.1 ≠ 9 ∧ l.all (fun x => decide (x.1 ≠ 9)) = true := by simpa using h
    have ih := args0_sl X l h1.2
    unfold args0
    show (if (cv X x).category = 2 then [Slot.val (cv X x), .second] else [.val (cv X x)]) ++ lg_sl (l.map (cv X)) = _
    rw [ih, cv_cat]
    by_cases hx : x.1 = 1
    · have hc : cat x = 2 := by rw [cat, if_pos hx]
      rw [if_pos hc, if_pos hx, List.map_cons, List.map_cons, if_neg h1.1, if_pos rfl]
      rfl
    · have hc : ¬ cat x = 2 := by rw [cat, if_neg hx]; decide
      rw [if_neg hc, if_neg hx, List.map_cons, if_neg h1.1]
      rfl
theorem LH_ent (X : XX) {mj : Nat} {ag : List AV} (h : argsOk mj ag = true) : LH X ((lg_sl (ag.map (cv X)) ++ List.replicate (mL mj - (lg_sl (ag.map (cv X))).length) Slot.unset).toArray) (mL mj) (ent mj ag) := by
  unfold argsOk at h
  simp only [Bool.and_eq_true, decide_eq_true_eq] at h
  have hs := args0_sl X ag h.2
  have hlen : (lg_sl (ag.map (cv X))).length = (args0 ag).length := by rw [hs, List.length_map]
  have hE := lv_entry (ag.map (cv X)) (n := mL mj) (by rw [hlen]; exact h.1)
  refine ⟨hE.1, ?_, hE.2.1, fun i x hx h9 => ?_⟩
  · unfold ent
    rw [List.length_append, List.length_replicate]
    omega
  · unfold ent at hx
    rw [List.getElem?_toArray]
    by_cases hi : i < (args0 ag).length
    · rw [List.getElem?_append_left hi] at hx
      rw [List.getElem?_append_left (by rw [hlen]; exact hi), hs, List.getElem?_map, hx]
      show some (if x.1 = 9 then Slot.second else Slot.val (cv X x)) = some _
      rw [if_neg h9]
    · rw [List.getElem?_append_right (by omega)] at hx
      have := (List.getElem?_replicate ▸ hx : (if i - (args0 ag).length < mL mj - (args0 ag).length then some uU else none) = some x)
      split at this
      · cases this
        exact absurd rfl h9
      · cases this
/-- what a run says of the machine -/
def RunOk (l : Launch) (n : Nat) : Prop := ∀ (d mi pc : Nat) (al st : List AV) (S : SS) (I : II) (v : AV) (S' : SS) (I' : II), ex n d mi pc al st S I = some (v, S', I') → sN S ≤ sN S' ∧ sL S ≤ sL S' ∧
  ∀ (X : XX) (p : Program) (e : Env) (R : Room) (s : State) (m : MethodId) (args : Array Value) (below : List Frame) (meth : Method) (c : Code), Ctx X mi d p R s m args meth c → ∀ (H : Heap) (locs : List Loc) (ls : Array Slot) (cells slots mc ms : Nat), Rel X S I H → va_S (aX X) s.heap H locs → LH X ls (mL mi) al →
    cells + (sN S' - sN S) = mc → slots + (sL S' - sL S) = ms → mc ≤ R.cells → ms ≤ R.slots → W p l e R s m args below meth c H locs cells slots (MQ below (QM X v S' I') args s mc ms (aX X)) (F0 m pc ls (st.map (cv X)))
def ws_ (mj : Nat) : List Cond := Cond.code (mY mj) (mB mj) (mL mj) (mR mj) :: GW
theorem run_met {l : Launch} {n : Nat} (ih : RunOk l n) {d mj : Nat} {ag : List AV} {S S' : SS} {I I' : II} {v : AV} (hj : mj < 325) (ha : argsOk mj ag = true) (h : ex n d mj 0 (ent mj ag) [] S I = some (v, S', I')) (X : XX) :
    Met l (mY mj) (ws_ mj) { frames := d + 1, cells := sN S' - sN S, slots := sL S' - sL S, locals := 100 * (d + 1) } (PM X ag S I) (QM X v S' I') (sN S' - sN S) (sL S' - sL S) (aX X) := by
  obtain ⟨p1, p2, p3, p4, p5, p6, p7, p8, p9⟩ := p_in hj
  refine Met.ofW (cc := mB mj) (maxL := mL mj) (ret := mR mj) p5 rfl ?_
  intro p e s m args below meth c s₁ B hml hv
  obtain ⟨rfl, hR, hK, hH⟩ := hv
  have hts := atoms_spec (ws := ws_ mj) B.pre
  have hC : Ctx X mj d p (headSpec (ws_ mj) { frames := d + 1, cells := sN S' - sN S, slots := sL S' - sL S, locals := 100 * (d + 1) }).room s m (ag.map (cv X)).toArray meth c :=
    ⟨B.exec, B.bytes, hml, by rw [p4]; exact findClass_of_methodNamed B.named, fun x hx => hts x (List.mem_cons_of_mem _ hx), fun hk => ((name_of_methodNamed B.named B.method).1).trans (p8 hk), B.returns, B.notSynchronized, hK, hH, Nat.le_refl _, Nat.le_refl _⟩
  obtain ⟨-, -, hW⟩ := ih d mj 0 _ _ _ _ _ _ _ h
  rw [lg_entry_eq]
  exact hW X p e _ s m _ below meth c hC s.heap [] _ 0 0 _ _ hR va_S.rf (LH_ent X ha) (Nat.zero_add _) (Nat.zero_add _) (Nat.le_refl _) (Nat.le_refl _)
theorem call_some {vk mi idx pc : Nat} {al st : List AV} {S : SS} {I : II} {mj : Nat} {ag r : List AV} (hvk : vk < 3) (h : call vk mi idx pc al st S I = some (.inr (.inr (mj, ag, r)))) : ∃ q, lkm (mC mi) idx = some q ∧ q.2.1 = mj ∧ (q.1 = vk ∨ q.1 = vk + 3) ∧ q.1 < 10 ∧ (r.map cat).sum ≤ 8 ∧ argsOk mj ag = true ∧
    ((vk = 0 ∧ st = ag.reverse ++ r ∧ ag.length = mP mj) ∨ (vk ≠ 0 ∧ ∃ (a : Int) (As : List AV), ag = (2, a) :: As ∧ st = As.reverse ++ (2, a) :: r ∧ As.length = mP mj ∧ (vk = 1 → rcv S (mC mj) a = true) ∧ (vk = 2 → 0 ≤ a))) := by
  unfold call at h
  split at h
  · rename_i q hq
    split at h
    · split at h
      · split at h <;> cases h
      · cases h
    split at h
    · split at h
      · unfold acpy at h
        split at h
        · unfold gd at h
          split at h <;> cases h
        · cases h
      · cases h
    split at h
    · split at h
      · split at h <;> cases h
      · cases h
    split at h
    · split at h
      · split at h <;> cases h
      · cases h
    rename_i n10 n11 n12 n13
    split at h
    · rename_i hk
      split at h
      · rename_i h0
        split at h
        · rename_i h1
          obtain ⟨h1, h2, h3⟩ := h1
          simp only [Option.some.injEq, Sum.inr.injEq, Prod.mk.injEq] at h
          obtain ⟨rfl, rfl, rfl⟩ := h
          refine ⟨q, hq, rfl, hk, by omega, h2, h3, Or.inl ⟨h0, ?_, ?_⟩⟩
          · rw [List.reverse_reverse, List.take_append_drop]
          · rw [List.length_reverse, List.length_take]; omega
        · cases h
      · rename_i h0
        split at h
        · rename_i a rr hdr
          split at h
          · rename_i h1
            obtain ⟨h1, h2, h3, h4, h5⟩ := h1
            simp only [Option.some.injEq, Sum.inr.injEq, Prod.mk.injEq] at h
            obtain ⟨rfl, rfl, rfl⟩ := h
            refine ⟨q, hq, rfl, hk, ?_, h2, h5, Or.inr ⟨h0, a, (st.take (mP q.2.1)).reverse, rfl, ?_, ?_, h3, h4⟩⟩
            · omega
            · rw [List.reverse_reverse, ← hdr, List.take_append_drop]
            · rw [List.length_reverse, List.length_take]; omega
          · cases h
        · cases h
    · cases h
  · cases h
theorem st_call {mi pc : Nat} {al st : List AV} {S : SS} {I : II} {q : Nat × List AV × List AV} (h : st1 mi pc al st S I = some (.inr (.inr q))) : ∃ vk idx, vk < 3 ∧ call vk mi idx pc al st S I = some (.inr (.inr q)) ∧ decode (mB mi) pc = .ok (if vk = 0 then .invokestatic idx else if vk = 1 then .invokevirtual idx else .invokespecial idx, 3) := by
  unfold st1 at h
  split at h
  · rename_i z hd
    obtain ⟨i, ln⟩ := z
    cases i with
    | invokestatic n =>
      have hg := gd_some h
      obtain ⟨hln, hh⟩ := hg
      change ln = 3 at hln
      subst hln
      exact ⟨0, n, by decide, hh, hd⟩
    | invokevirtual n =>
      have hg := gd_some h
      obtain ⟨hln, hh⟩ := hg
      change ln = 3 at hln
      subst hln
      exact ⟨1, n, by decide, hh, hd⟩
    | invokespecial n =>
      have hg := gd_some h
      obtain ⟨hln, hh⟩ := hg
      change ln = 3 at hln
      subst hln
      exact ⟨2, n, by decide, hh, hd⟩
    | _ => exfalso; simp only [st2, gd, nx, jmp, ldL, stL, stJ, bin, una, cmpd, getf, gets, putf, newA, newT, newO, newR, aldI, aldB, aldJ, aldR, astI, astJ, astR, alen, swt, swl, retI] at h <;> (repeat' split at h) <;> (first | cases h | skip)
  · cases h
