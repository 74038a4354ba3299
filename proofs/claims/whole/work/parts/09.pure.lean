/-! one step of the abstract machine is one of the machine's: numbers, locals, branches -/
def GO (X : XX) (mi : Nat) (p : Program) (l : Launch) (e : Env) (R : Room) (s : State) (m : MethodId) (args : Array Value) (below : List Frame) (meth : Method) (c : Code) (Q : State → Prop) (pc : Nat) (al st : List AV) (S : SS) (I : II) (pc' : Nat) (al' st' : List AV) (S' : SS) (I' : II) : Prop :=
  ∃ dc ds : Nat, sN S' = sN S + dc ∧ sL S' = sL S + ds ∧ ∀ (H : Heap) (locs : List Loc) (ls : Array Slot) (cells slots : Nat), Rel X S I H → va_S (aX X) s.heap H locs → LH X ls (mL mi) al → cells + dc ≤ R.cells → slots + ds ≤ R.slots →
    (∀ (H' : Heap) (locs' : List Loc) (ls' : Array Slot), Rel X S' I' H' → va_S (aX X) s.heap H' locs' → LH X ls' (mL mi) al' → W p l e R s m args below meth c H' locs' (cells + dc) (slots + ds) Q (F0 m pc' ls' (st'.map (cv X)))) →
    W p l e R s m args below meth c H locs cells slots Q (F0 m pc ls (st.map (cv X)))
theorem gd_some {c : Prop} {inst : Decidable c} {r : SR} {q : NX ⊕ (AV × SS × II) ⊕ (Nat × List AV × List AV)} (h : @gd c inst r = some q) : c ∧ r = some q := by
  unfold gd at h
  split at h
  · rename_i hc; exact ⟨hc, h⟩
  · cases h
theorem nx_some {pc pc' : Nat} {al st al' st' : List AV} {S S' : SS} {I I' : II} (h : nx pc al st S I = some (.inl (pc', al', st', S', I'))) : pc = pc' ∧ al = al' ∧ st = st' ∧ S = S' ∧ I = I' := by
  simp only [nx, Option.some.injEq, Sum.inl.injEq, Prod.mk.injEq] at h
  exact h
theorem jmp_some {pc pc' : Nat} {off : Int} {al st al' st' : List AV} {S S' : SS} {I I' : II} (h : jmp pc off al st S I = some (.inl (pc', al', st', S', I'))) : (pc : Int) + off = (pc' : Int) ∧ al = al' ∧ st = st' ∧ S = S' ∧ I = I' := by
  unfold jmp at h
  split at h
  · obtain ⟨h1, h2⟩ := nx_some h
    exact ⟨by omega, h2⟩
  · cases h
theorem cmpd_some {c : ClassFile.Cond} {x y : Int} {t f : SR} {q : NX ⊕ (AV × SS × II) ⊕ (Nat × List AV × List AV)} (h : cmpd c x y t f = some q) : (t = some q ∧ (match c with | .eq => w x = w y | .ne => w x ≠ w y | .lt => w x < w y | .ge => ¬ w x < w y | .gt => w y < w x | .le => ¬ w y < w x)) ∨ (f = some q ∧ (match c with | .eq => w x ≠ w y | .ne => w x = w y | .lt => ¬ w x < w y | .ge => w x < w y | .gt => ¬ w y < w x | .le => w y < w x)) := by
  cases c <;> simp only [cmpd] at h <;> split at h <;> simp_all
section GP
variable {X : XX} {mi d : Nat} {p : Program} {l : Launch} {e : Env} {R : Room} {s : State} {m : MethodId} {args : Array Value} {below : List Frame} {meth : Method} {c : Code} {Q : State → Prop}
variable {pc pc' ln : Nat} {al al' st st' : List AV} {S S' : SS} {I I' : II}
theorem GO.pure (h : ∀ (H : Heap) (locs : List Loc) (ls : Array Slot) (cells slots : Nat), LH X ls (mL mi) al → (∀ ls', LH X ls' (mL mi) al' → W p l e R s m args below meth c H locs cells slots Q (F0 m pc' ls' (st'.map (cv X)))) → W p l e R s m args below meth c H locs cells slots Q (F0 m pc ls (st.map (cv X)))) :
    GO X mi p l e R s m args below meth c Q pc al st S I pc' al' st' S I :=
  ⟨0, 0, rfl, rfl, fun H locs ls cells slots hR hS hl _ _ kk => h H locs ls cells slots hl (fun ls' hl' => kk H locs ls' hR hS hl')⟩
theorem go_iconst (hC : Ctx X mi d p R s m args meth c) {z : Int} (hd : decode (mB mi) pc = .ok (.iconst z, ln)) (h : gd (ln = 1) (nx (pc + 1) al ((0, z) :: st) S I) = some (.inl (pc', al', st', S', I'))) : GO X mi p l e R s m args below meth c Q pc al st S I pc' al' st' S' I' := by
  obtain ⟨hx, hb, hml, hown, hts, hin, hr, hlk, hK, hH, hf, hlo⟩ := hC
  have hg := gd_some h
  clear h
  obtain ⟨hln, h⟩ := hg
  subst hln
  obtain ⟨rfl, rfl, rfl, rfl, rfl⟩ := nx_some h
  exact .pure fun H locs ls cells slots hl kk => lv_iconst hx hb hd rfl (kk ls hl)
theorem go_bipush (hC : Ctx X mi d p R s m args meth c) {z : Int} (hd : decode (mB mi) pc = .ok (.bipush z, ln)) (h : gd (ln = 2 ∧ -128 ≤ z ∧ z < 128) (nx (pc + 2) al ((0, z) :: st) S I) = some (.inl (pc', al', st', S', I'))) : GO X mi p l e R s m args below meth c Q pc al st S I pc' al' st' S' I' := by
  obtain ⟨hx, hb, hml, hown, hts, hin, hr, hlk, hK, hH, hf, hlo⟩ := hC
  have hg := gd_some h
  clear h
  obtain ⟨⟨hln, h1, h2⟩, h⟩ := hg
  subst hln
  obtain ⟨rfl, rfl, rfl, rfl, rfl⟩ := nx_some h
  exact .pure fun H locs ls cells slots hl kk => lv_bipush hx hb hd (Int8.toInt32_ofInt (by simpa using h1) (by rw [show Int8.maxValue.toInt = 127 from rfl]; omega)) (kk ls hl)
theorem go_sipush (hC : Ctx X mi d p R s m args meth c) {z : Int} (hd : decode (mB mi) pc = .ok (.sipush z, ln)) (h : gd (ln = 3 ∧ -32768 ≤ z ∧ z < 32768) (nx (pc + 3) al ((0, z) :: st) S I) = some (.inl (pc', al', st', S', I'))) : GO X mi p l e R s m args below meth c Q pc al st S I pc' al' st' S' I' := by
  obtain ⟨hx, hb, hml, hown, hts, hin, hr, hlk, hK, hH, hf, hlo⟩ := hC
  have hg := gd_some h
  clear h
  obtain ⟨⟨hln, h1, h2⟩, h⟩ := hg
  subst hln
  obtain ⟨rfl, rfl, rfl, rfl, rfl⟩ := nx_some h
  exact .pure fun H locs ls cells slots hl kk => lv_sipush hx hb hd (Int16.toInt32_ofInt (by simpa using h1) (by rw [show Int16.maxValue.toInt = 32767 from rfl]; omega)) (kk ls hl)
theorem go_lconst (hC : Ctx X mi d p R s m args meth c) {z : Fin 2} (hd : decode (mB mi) pc = .ok (.lconst z, ln)) (h : gd (ln = 1) (nx (pc + 1) al ((1, (z : Nat)) :: st) S I) = some (.inl (pc', al', st', S', I'))) : GO X mi p l e R s m args below meth c Q pc al st S I pc' al' st' S' I' := by
  obtain ⟨hx, hb, hml, hown, hts, hin, hr, hlk, hK, hH, hf, hlo⟩ := hC
  have hg := gd_some h
  clear h
  obtain ⟨hln, h⟩ := hg
  subst hln
  obtain ⟨rfl, rfl, rfl, rfl, rfl⟩ := nx_some h
  exact .pure fun H locs ls cells slots hl kk => lv_lconst hx hb hd (Int64.ofInt_eq_ofNat).symm (kk ls hl)
theorem go_null (hC : Ctx X mi d p R s m args meth c)  (hd : decode (mB mi) pc = .ok (.aconst_null, ln)) (h : gd (ln = 1) (nx (pc + 1) al ((2, -1) :: st) S I) = some (.inl (pc', al', st', S', I'))) : GO X mi p l e R s m args below meth c Q pc al st S I pc' al' st' S' I' := by
  obtain ⟨hx, hb, hml, hown, hts, hin, hr, hlk, hK, hH, hf, hlo⟩ := hC
  have hg := gd_some h
  clear h
  obtain ⟨hln, h⟩ := hg
  subst hln
  obtain ⟨rfl, rfl, rfl, rfl, rfl⟩ := nx_some h
  exact .pure fun H locs ls cells slots hl kk => lv_null hx hb hd (kk ls hl)
theorem ldL_some {n t : Nat} (h : ldL n t pc al st S I = some (.inl (pc', al', st', S', I'))) : ∃ z, al[n]? = some (t, z) ∧ pc = pc' ∧ al = al' ∧ (t, z) :: st = st' ∧ S = S' ∧ I = I' := by
  unfold ldL at h
  split at h
  · rename_i x hx
    split at h
    · rename_i ht
      subst ht
      exact ⟨x.2, hx, nx_some h⟩
    · cases h
  · cases h
theorem stL_some {n t : Nat} (h : stL n t pc al st S I = some (.inl (pc', al', st', S', I'))) : ∃ z r, st = (t, z) :: r ∧ n < al.length ∧ isLong al n = false ∧ pc = pc' ∧ al.set n (t, z) = al' ∧ r = st' ∧ S = S' ∧ I = I' := by
  unfold stL at h
  split at h
  · rename_i x r
    split at h
    · rename_i ht
      obtain ⟨ht, h1, h2⟩ := ht
      subst ht
      exact ⟨x.2, r, rfl, h1, h2, nx_some h⟩
    · cases h
  · cases h
theorem stJ_some {n : Nat} (h : stJ n pc al st S I = some (.inl (pc', al', st', S', I'))) : ∃ z r, st = (1, z) :: r ∧ n + 1 < al.length ∧ isLong al n = false ∧ pc = pc' ∧ (al.set n (1, z)).set (n + 1) uU = al' ∧ r = st' ∧ S = S' ∧ I = I' := by
  unfold stJ at h
  split at h
  · rename_i x r
    split at h
    · rename_i ht
      obtain ⟨ht, h1, h2⟩ := ht
      obtain ⟨xt, xz⟩ := x
      subst ht
      exact ⟨xz, r, rfl, h1, h2, nx_some h⟩
    · cases h
  · cases h
theorem LH.get {ls : Array Slot} {nL n t : Nat} {z : Int} (h : LH X ls nL al) (hn : al[n]? = some (t, z)) (ht : t ≠ 9) : ls[n]? = some (.val (cv X (t, z))) := h.2.2.2 n (t, z) hn ht
theorem go_iload (hC : Ctx X mi d p R s m args meth c) {n : Nat} (hd : decode (mB mi) pc = .ok (.iload n, ln)) (h : gd (ln = 2) (ldL n 0 (pc + 2) al st S I) = some (.inl (pc', al', st', S', I'))) : GO X mi p l e R s m args below meth c Q pc al st S I pc' al' st' S' I' := by
  obtain ⟨hx, hb, hml, hown, hts, hin, hr, hlk, hK, hH, hf, hlo⟩ := hC
  have hg := gd_some h
  clear h
  obtain ⟨hln, h⟩ := hg
  subst hln
  obtain ⟨z, hz, rfl, rfl, rfl, rfl, rfl⟩ := ldL_some h
  exact .pure fun H locs ls cells slots hl kk => lv_iload hx hb hd (hl.get hz (by decide)) (kk ls hl)
theorem go_iload_n (hC : Ctx X mi d p R s m args meth c) {n : Fin 4} (hd : decode (mB mi) pc = .ok (.iload_n n, ln)) (h : gd (ln = 1) (ldL n 0 (pc + 1) al st S I) = some (.inl (pc', al', st', S', I'))) : GO X mi p l e R s m args below meth c Q pc al st S I pc' al' st' S' I' := by
  obtain ⟨hx, hb, hml, hown, hts, hin, hr, hlk, hK, hH, hf, hlo⟩ := hC
  have hg := gd_some h
  clear h
  obtain ⟨hln, h⟩ := hg
  subst hln
  obtain ⟨z, hz, rfl, rfl, rfl, rfl, rfl⟩ := ldL_some h
  exact .pure fun H locs ls cells slots hl kk => lv_iload_n hx hb hd rfl (hl.get hz (by decide)) (kk ls hl)
theorem go_lload (hC : Ctx X mi d p R s m args meth c) {n : Nat} (hd : decode (mB mi) pc = .ok (.lload n, ln)) (h : gd (ln = 2) (ldL n 1 (pc + 2) al st S I) = some (.inl (pc', al', st', S', I'))) : GO X mi p l e R s m args below meth c Q pc al st S I pc' al' st' S' I' := by
  obtain ⟨hx, hb, hml, hown, hts, hin, hr, hlk, hK, hH, hf, hlo⟩ := hC
  have hg := gd_some h
  clear h
  obtain ⟨hln, h⟩ := hg
  subst hln
  obtain ⟨z, hz, rfl, rfl, rfl, rfl, rfl⟩ := ldL_some h
  exact .pure fun H locs ls cells slots hl kk => lv_lload hx hb hd (hl.get hz (by decide)) (kk ls hl)
theorem go_lload_n (hC : Ctx X mi d p R s m args meth c) {n : Fin 4} (hd : decode (mB mi) pc = .ok (.lload_n n, ln)) (h : gd (ln = 1) (ldL n 1 (pc + 1) al st S I) = some (.inl (pc', al', st', S', I'))) : GO X mi p l e R s m args below meth c Q pc al st S I pc' al' st' S' I' := by
  obtain ⟨hx, hb, hml, hown, hts, hin, hr, hlk, hK, hH, hf, hlo⟩ := hC
  have hg := gd_some h
  clear h
  obtain ⟨hln, h⟩ := hg
  subst hln
  obtain ⟨z, hz, rfl, rfl, rfl, rfl, rfl⟩ := ldL_some h
  exact .pure fun H locs ls cells slots hl kk => lv_lload_n hx hb hd rfl (hl.get hz (by decide)) (kk ls hl)
theorem go_aload (hC : Ctx X mi d p R s m args meth c) {n : Nat} (hd : decode (mB mi) pc = .ok (.aload n, ln)) (h : gd (ln = 2) (ldL n 2 (pc + 2) al st S I) = some (.inl (pc', al', st', S', I'))) : GO X mi p l e R s m args below meth c Q pc al st S I pc' al' st' S' I' := by
  obtain ⟨hx, hb, hml, hown, hts, hin, hr, hlk, hK, hH, hf, hlo⟩ := hC
  have hg := gd_some h
  clear h
  obtain ⟨hln, h⟩ := hg
  subst hln
  obtain ⟨z, hz, rfl, rfl, rfl, rfl, rfl⟩ := ldL_some h
  refine .pure fun H locs ls cells slots hl kk => ?_
  have h1 := hl.get hz (by decide)
  have h2 := kk ls hl
  rw [List.map_cons, cv_r] at h2
  rw [cv_r] at h1
  cases hc : crO X z with
  | none => rw [hc] at h1 h2; exact lv_aloadN hx hb hd h1 h2
  | some a => rw [hc] at h1 h2; exact lv_aload hx hb hd h1 h2
theorem go_aload_n (hC : Ctx X mi d p R s m args meth c) {n : Fin 4} (hd : decode (mB mi) pc = .ok (.aload_n n, ln)) (h : gd (ln = 1) (ldL n 2 (pc + 1) al st S I) = some (.inl (pc', al', st', S', I'))) : GO X mi p l e R s m args below meth c Q pc al st S I pc' al' st' S' I' := by
  obtain ⟨hx, hb, hml, hown, hts, hin, hr, hlk, hK, hH, hf, hlo⟩ := hC
  have hg := gd_some h
  clear h
  obtain ⟨hln, h⟩ := hg
  subst hln
  obtain ⟨z, hz, rfl, rfl, rfl, rfl, rfl⟩ := ldL_some h
  refine .pure fun H locs ls cells slots hl kk => ?_
  have h1 := hl.get hz (by decide)
  have h2 := kk ls hl
  rw [List.map_cons, cv_r] at h2
  rw [cv_r] at h1
  cases hc : crO X z with
  | none => rw [hc] at h1 h2; exact lv_aload_nN hx hb hd rfl h1 h2
  | some a => rw [hc] at h1 h2; exact lv_aload_n hx hb hd rfl h1 h2
theorem go_istore (hC : Ctx X mi d p R s m args meth c) {n : Nat} (hd : decode (mB mi) pc = .ok (.istore n, ln)) (h : gd (ln = 2) (stL n 0 (pc + 2) al st S I) = some (.inl (pc', al', st', S', I'))) : GO X mi p l e R s m args below meth c Q pc al st S I pc' al' st' S' I' := by
  obtain ⟨hx, hb, hml, hown, hts, hin, hr, hlk, hK, hH, hf, hlo⟩ := hC
  have hg := gd_some h
  clear h
  obtain ⟨hln, h⟩ := hg
  subst hln
  obtain ⟨z, r, rfl, h1, h2, rfl, rfl, rfl, rfl, rfl⟩ := stL_some h
  exact .pure fun H locs ls cells slots hl kk => lv_istore hx hb hd hl.has (by rw [← hl.2.1]; exact h1) rfl (fun ls' h' => kk ls' (LH_st1 (x := (0, z)) hl h1 h2 h'))
theorem go_istore_n (hC : Ctx X mi d p R s m args meth c) {n : Fin 4} (hd : decode (mB mi) pc = .ok (.istore_n n, ln)) (h : gd (ln = 1) (stL n 0 (pc + 1) al st S I) = some (.inl (pc', al', st', S', I'))) : GO X mi p l e R s m args below meth c Q pc al st S I pc' al' st' S' I' := by
  obtain ⟨hx, hb, hml, hown, hts, hin, hr, hlk, hK, hH, hf, hlo⟩ := hC
  have hg := gd_some h
  clear h
  obtain ⟨hln, h⟩ := hg
  subst hln
  obtain ⟨z, r, rfl, h1, h2, rfl, rfl, rfl, rfl, rfl⟩ := stL_some h
  exact .pure fun H locs ls cells slots hl kk => lv_istore_n hx hb hd rfl hl.has (by rw [← hl.2.1]; exact h1) rfl (fun ls' h' => kk ls' (LH_st1 (x := (0, z)) hl h1 h2 h'))
theorem go_lstore (hC : Ctx X mi d p R s m args meth c) {n : Nat} (hd : decode (mB mi) pc = .ok (.lstore n, ln)) (h : gd (ln = 2) (stJ n (pc + 2) al st S I) = some (.inl (pc', al', st', S', I'))) : GO X mi p l e R s m args below meth c Q pc al st S I pc' al' st' S' I' := by
  obtain ⟨hx, hb, hml, hown, hts, hin, hr, hlk, hK, hH, hf, hlo⟩ := hC
  have hg := gd_some h
  clear h
  obtain ⟨hln, h⟩ := hg
  subst hln
  obtain ⟨z, r, rfl, h1, h2, rfl, rfl, rfl, rfl, rfl⟩ := stJ_some h
  exact .pure fun H locs ls cells slots hl kk => lv_lstore hx hb hd hl.has (by rw [← hl.2.1]; exact h1) rfl (fun ls' h' => kk ls' (LH_st2 (x := (1, z)) hl h1 h2 h'))
theorem go_lstore_n (hC : Ctx X mi d p R s m args meth c) {n : Fin 4} (hd : decode (mB mi) pc = .ok (.lstore_n n, ln)) (h : gd (ln = 1) (stJ n (pc + 1) al st S I) = some (.inl (pc', al', st', S', I'))) : GO X mi p l e R s m args below meth c Q pc al st S I pc' al' st' S' I' := by
  obtain ⟨hx, hb, hml, hown, hts, hin, hr, hlk, hK, hH, hf, hlo⟩ := hC
  have hg := gd_some h
  clear h
  obtain ⟨hln, h⟩ := hg
  subst hln
  obtain ⟨z, r, rfl, h1, h2, rfl, rfl, rfl, rfl, rfl⟩ := stJ_some h
  exact .pure fun H locs ls cells slots hl kk => lv_lstore_n hx hb hd rfl hl.has (by rw [← hl.2.1]; exact h1) rfl (fun ls' h' => kk ls' (LH_st2 (x := (1, z)) hl h1 h2 h'))
theorem go_astore (hC : Ctx X mi d p R s m args meth c) {n : Nat} (hd : decode (mB mi) pc = .ok (.astore n, ln)) (h : gd (ln = 2) (stL n 2 (pc + 2) al st S I) = some (.inl (pc', al', st', S', I'))) : GO X mi p l e R s m args below meth c Q pc al st S I pc' al' st' S' I' := by
  obtain ⟨hx, hb, hml, hown, hts, hin, hr, hlk, hK, hH, hf, hlo⟩ := hC
  have hg := gd_some h
  clear h
  obtain ⟨hln, h⟩ := hg
  subst hln
  obtain ⟨z, r, rfl, h1, h2, rfl, rfl, rfl, rfl, rfl⟩ := stL_some h
  refine .pure fun H locs ls cells slots hl kk => ?_
  have k2 := fun ls' h' => kk ls' (LH_st1 (x := (2, z)) hl h1 h2 h')
  rw [List.map_cons]
  rw [cv_r] at k2 ⊢
  cases hc : crO X z with
  | none => rw [hc] at k2; exact lv_astoreN hx hb hd hl.has (by rw [← hl.2.1]; exact h1) rfl k2
  | some a => rw [hc] at k2; exact lv_astore hx hb hd hl.has (by rw [← hl.2.1]; exact h1) rfl k2
theorem go_astore_n (hC : Ctx X mi d p R s m args meth c) {n : Fin 4} (hd : decode (mB mi) pc = .ok (.astore_n n, ln)) (h : gd (ln = 1) (stL n 2 (pc + 1) al st S I) = some (.inl (pc', al', st', S', I'))) : GO X mi p l e R s m args below meth c Q pc al st S I pc' al' st' S' I' := by
  obtain ⟨hx, hb, hml, hown, hts, hin, hr, hlk, hK, hH, hf, hlo⟩ := hC
  have hg := gd_some h
  clear h
  obtain ⟨hln, h⟩ := hg
  subst hln
  obtain ⟨z, r, rfl, h1, h2, rfl, rfl, rfl, rfl, rfl⟩ := stL_some h
  refine .pure fun H locs ls cells slots hl kk => ?_
  have k2 := fun ls' h' => kk ls' (LH_st1 (x := (2, z)) hl h1 h2 h')
  rw [List.map_cons]
  rw [cv_r] at k2 ⊢
  cases hc : crO X z with
  | none => rw [hc] at k2; exact lv_astore_nN hx hb hd rfl hl.has (by rw [← hl.2.1]; exact h1) rfl k2
  | some a => rw [hc] at k2; exact lv_astore_n hx hb hd rfl hl.has (by rw [← hl.2.1]; exact h1) rfl k2
theorem go_iinc (hC : Ctx X mi d p R s m args meth c) {n : Nat} {z : Int} (hd : decode (mB mi) pc = .ok (.iinc n z, ln)) (h : gd (ln = 3) (match al[n]? with | some (0, x) => nx (pc + 3) (al.set n (0, x + z)) st S I | _ => none) = some (.inl (pc', al', st', S', I'))) : GO X mi p l e R s m args below meth c Q pc al st S I pc' al' st' S' I' := by
  obtain ⟨hx, hb, hml, hown, hts, hin, hr, hlk, hK, hH, hf, hlo⟩ := hC
  have hg := gd_some h
  clear h
  obtain ⟨hln, h⟩ := hg
  subst hln
  split at h
  · rename_i x hn
    obtain ⟨rfl, rfl, rfl, rfl, rfl⟩ := nx_some h
    have h1 : n < al.length := (List.getElem?_eq_some_iff.mp hn).1
    refine .pure fun H locs ls cells slots hl kk => ?_
    have h2 : isLong al n = false := by
      cases n with
      | zero => rfl
      | succ k =>
        cases hk : al[k]? with
        | none => simp [isLong, hk]
        | some y =>
          by_cases hy : y.1 = 1
          · exfalso
            have e1 := hl.2.2.2 k y hk (by rw [hy]; decide)
            have e2 := hl.2.2.1.1 k _ e1 (by rw [cv_cat, cat, if_pos hy])
            have e3 := hl.get hn (by decide)
            rw [e2] at e3
            cases e3
          · simp [isLong, hk, hy]
    obtain ⟨k, hk⟩ := List.getElem?_of_mem (mem_asl (X := X).mpr ⟨(0, x), hn, (by show (0 : Nat) ≠ 9; decide), rfl⟩)
    exact lv_iinc hx hb hd hl.has hk (v := Int32.ofInt (x + z)) (Int32.ofInt_add x z).symm (by rw [← hl.2.1]; exact h1) rfl (fun ls' h' => kk ls' (LH_st1 (x := (0, x + z)) hl h1 h2 h'))
  · cases h
theorem bin_some {f : Int → Int → Int} (h : bin f pc al st S I = some (.inl (pc', al', st', S', I'))) : ∃ x y r, st = (0, y) :: (0, x) :: r ∧ pc + 1 = pc' ∧ al = al' ∧ (0, f x y) :: r = st' ∧ S = S' ∧ I = I' := by
  unfold bin at h
  split at h
  · rename_i y x r
    exact ⟨x, y, r, rfl, nx_some h⟩
  · cases h
theorem una_some {f : Int → Int} (h : una f pc al st S I = some (.inl (pc', al', st', S', I'))) : ∃ x r, st = (0, x) :: r ∧ pc + 1 = pc' ∧ al = al' ∧ (0, f x) :: r = st' ∧ S = S' ∧ I = I' := by
  unfold una at h
  split at h
  · rename_i x r
    exact ⟨x, r, rfl, nx_some h⟩
  · cases h
theorem go_iadd (hC : Ctx X mi d p R s m args meth c)  (hd : decode (mB mi) pc = .ok (.iadd, ln)) (h : gd (ln = 1) (bin (fun x y => x + y) pc al st S I) = some (.inl (pc', al', st', S', I'))) : GO X mi p l e R s m args below meth c Q pc al st S I pc' al' st' S' I' := by
  obtain ⟨hx, hb, hml, hown, hts, hin, hr, hlk, hK, hH, hf, hlo⟩ := hC
  have hg := gd_some h
  clear h
  obtain ⟨hln, h⟩ := hg
  subst hln
  obtain ⟨x, y, r, rfl, rfl, rfl, rfl, rfl, rfl⟩ := bin_some h
  refine .pure fun H locs ls cells slots hl kk => lv_iadd hx hb hd ?_
  have h1 := kk ls hl
  rw [List.map_cons, cv_i, Int32.ofInt_add] at h1
  exact h1
theorem go_isub (hC : Ctx X mi d p R s m args meth c)  (hd : decode (mB mi) pc = .ok (.isub, ln)) (h : gd (ln = 1) (bin (fun x y => x - y) pc al st S I) = some (.inl (pc', al', st', S', I'))) : GO X mi p l e R s m args below meth c Q pc al st S I pc' al' st' S' I' := by
  obtain ⟨hx, hb, hml, hown, hts, hin, hr, hlk, hK, hH, hf, hlo⟩ := hC
  have hg := gd_some h
  clear h
  obtain ⟨hln, h⟩ := hg
  subst hln
  obtain ⟨x, y, r, rfl, rfl, rfl, rfl, rfl, rfl⟩ := bin_some h
  refine .pure fun H locs ls cells slots hl kk => lv_isub hx hb hd ?_
  have h1 := kk ls hl
  rw [List.map_cons, cv_i, Int32.ofInt_sub] at h1
  exact h1
theorem go_imul (hC : Ctx X mi d p R s m args meth c)  (hd : decode (mB mi) pc = .ok (.imul, ln)) (h : gd (ln = 1) (bin (fun x y => x * y) pc al st S I) = some (.inl (pc', al', st', S', I'))) : GO X mi p l e R s m args below meth c Q pc al st S I pc' al' st' S' I' := by
  obtain ⟨hx, hb, hml, hown, hts, hin, hr, hlk, hK, hH, hf, hlo⟩ := hC
  have hg := gd_some h
  clear h
  obtain ⟨hln, h⟩ := hg
  subst hln
  obtain ⟨x, y, r, rfl, rfl, rfl, rfl, rfl, rfl⟩ := bin_some h
  refine .pure fun H locs ls cells slots hl kk => lv_imul hx hb hd ?_
  have h1 := kk ls hl
  rw [List.map_cons, cv_i, Int32.ofInt_mul] at h1
  exact h1
theorem go_iand (hC : Ctx X mi d p R s m args meth c)  (hd : decode (mB mi) pc = .ok (.iand, ln)) (h : gd (ln = 1) (bin iAnd pc al st S I) = some (.inl (pc', al', st', S', I'))) : GO X mi p l e R s m args below meth c Q pc al st S I pc' al' st' S' I' := by
  obtain ⟨hx, hb, hml, hown, hts, hin, hr, hlk, hK, hH, hf, hlo⟩ := hC
  have hg := gd_some h
  clear h
  obtain ⟨hln, h⟩ := hg
  subst hln
  obtain ⟨x, y, r, rfl, rfl, rfl, rfl, rfl, rfl⟩ := bin_some h
  refine .pure fun H locs ls cells slots hl kk => lv_iand hx hb hd ?_
  have h1 := kk ls hl
  rw [List.map_cons, cv_i, iAnd, Int32.ofInt_toInt] at h1
  exact h1
theorem go_ior (hC : Ctx X mi d p R s m args meth c)  (hd : decode (mB mi) pc = .ok (.ior, ln)) (h : gd (ln = 1) (bin iOr pc al st S I) = some (.inl (pc', al', st', S', I'))) : GO X mi p l e R s m args below meth c Q pc al st S I pc' al' st' S' I' := by
  obtain ⟨hx, hb, hml, hown, hts, hin, hr, hlk, hK, hH, hf, hlo⟩ := hC
  have hg := gd_some h
  clear h
  obtain ⟨hln, h⟩ := hg
  subst hln
  obtain ⟨x, y, r, rfl, rfl, rfl, rfl, rfl, rfl⟩ := bin_some h
  refine .pure fun H locs ls cells slots hl kk => lv_ior hx hb hd ?_
  have h1 := kk ls hl
  rw [List.map_cons, cv_i, iOr, Int32.ofInt_toInt] at h1
  exact h1
theorem go_ixor (hC : Ctx X mi d p R s m args meth c)  (hd : decode (mB mi) pc = .ok (.ixor, ln)) (h : gd (ln = 1) (bin iXor pc al st S I) = some (.inl (pc', al', st', S', I'))) : GO X mi p l e R s m args below meth c Q pc al st S I pc' al' st' S' I' := by
  obtain ⟨hx, hb, hml, hown, hts, hin, hr, hlk, hK, hH, hf, hlo⟩ := hC
  have hg := gd_some h
  clear h
  obtain ⟨hln, h⟩ := hg
  subst hln
  obtain ⟨x, y, r, rfl, rfl, rfl, rfl, rfl, rfl⟩ := bin_some h
  refine .pure fun H locs ls cells slots hl kk => lv_ixor hx hb hd ?_
  have h1 := kk ls hl
  rw [List.map_cons, cv_i, iXor, Int32.ofInt_toInt] at h1
  exact h1
theorem go_ishl (hC : Ctx X mi d p R s m args meth c)  (hd : decode (mB mi) pc = .ok (.ishl, ln)) (h : gd (ln = 1) (bin iShl pc al st S I) = some (.inl (pc', al', st', S', I'))) : GO X mi p l e R s m args below meth c Q pc al st S I pc' al' st' S' I' := by
  obtain ⟨hx, hb, hml, hown, hts, hin, hr, hlk, hK, hH, hf, hlo⟩ := hC
  have hg := gd_some h
  clear h
  obtain ⟨hln, h⟩ := hg
  subst hln
  obtain ⟨x, y, r, rfl, rfl, rfl, rfl, rfl, rfl⟩ := bin_some h
  refine .pure fun H locs ls cells slots hl kk => lv_ishl hx hb hd ?_
  have h1 := kk ls hl
  rw [List.map_cons, cv_i, iShl, Int32.ofInt_toInt] at h1
  exact h1
theorem go_ishr (hC : Ctx X mi d p R s m args meth c)  (hd : decode (mB mi) pc = .ok (.ishr, ln)) (h : gd (ln = 1) (bin iShr pc al st S I) = some (.inl (pc', al', st', S', I'))) : GO X mi p l e R s m args below meth c Q pc al st S I pc' al' st' S' I' := by
  obtain ⟨hx, hb, hml, hown, hts, hin, hr, hlk, hK, hH, hf, hlo⟩ := hC
  have hg := gd_some h
  clear h
  obtain ⟨hln, h⟩ := hg
  subst hln
  obtain ⟨x, y, r, rfl, rfl, rfl, rfl, rfl, rfl⟩ := bin_some h
  refine .pure fun H locs ls cells slots hl kk => lv_ishr hx hb hd ?_
  have h1 := kk ls hl
  rw [List.map_cons, cv_i, iShr, Int32.ofInt_toInt] at h1
  exact h1
theorem go_iushr (hC : Ctx X mi d p R s m args meth c)  (hd : decode (mB mi) pc = .ok (.iushr, ln)) (h : gd (ln = 1) (bin iUshr pc al st S I) = some (.inl (pc', al', st', S', I'))) : GO X mi p l e R s m args below meth c Q pc al st S I pc' al' st' S' I' := by
  obtain ⟨hx, hb, hml, hown, hts, hin, hr, hlk, hK, hH, hf, hlo⟩ := hC
  have hg := gd_some h
  clear h
  obtain ⟨hln, h⟩ := hg
  subst hln
  obtain ⟨x, y, r, rfl, rfl, rfl, rfl, rfl, rfl⟩ := bin_some h
  refine .pure fun H locs ls cells slots hl kk => lv_iushr hx hb hd rfl ?_
  have h1 := kk ls hl
  rw [List.map_cons, cv_i, iUshr, Int32.ofInt_toInt] at h1
  exact h1
theorem go_i2b (hC : Ctx X mi d p R s m args meth c)  (hd : decode (mB mi) pc = .ok (.i2b, ln)) (h : gd (ln = 1) (una iB (pc) al st S I) = some (.inl (pc', al', st', S', I'))) : GO X mi p l e R s m args below meth c Q pc al st S I pc' al' st' S' I' := by
  obtain ⟨hx, hb, hml, hown, hts, hin, hr, hlk, hK, hH, hf, hlo⟩ := hC
  have hg := gd_some h
  clear h
  obtain ⟨hln, h⟩ := hg
  subst hln
  obtain ⟨x, r, rfl, rfl, rfl, rfl, rfl, rfl⟩ := una_some h
  refine .pure fun H locs ls cells slots hl kk => lv_i2b hx hb hd rfl ?_
  have h1 := kk ls hl
  rw [List.map_cons, cv_i, iB, Int32.ofInt_toInt] at h1
  exact h1
theorem go_i2s (hC : Ctx X mi d p R s m args meth c)  (hd : decode (mB mi) pc = .ok (.i2s, ln)) (h : gd (ln = 1) (una iS (pc) al st S I) = some (.inl (pc', al', st', S', I'))) : GO X mi p l e R s m args below meth c Q pc al st S I pc' al' st' S' I' := by
  obtain ⟨hx, hb, hml, hown, hts, hin, hr, hlk, hK, hH, hf, hlo⟩ := hC
  have hg := gd_some h
  clear h
  obtain ⟨hln, h⟩ := hg
  subst hln
  obtain ⟨x, r, rfl, rfl, rfl, rfl, rfl, rfl⟩ := una_some h
  refine .pure fun H locs ls cells slots hl kk => lv_i2s hx hb hd rfl ?_
  have h1 := kk ls hl
  rw [List.map_cons, cv_i, iS, Int32.ofInt_toInt] at h1
  exact h1
theorem go_i2c (hC : Ctx X mi d p R s m args meth c)  (hd : decode (mB mi) pc = .ok (.i2c, ln)) (h : gd (ln = 1) (una iC (pc) al st S I) = some (.inl (pc', al', st', S', I'))) : GO X mi p l e R s m args below meth c Q pc al st S I pc' al' st' S' I' := by
  obtain ⟨hx, hb, hml, hown, hts, hin, hr, hlk, hK, hH, hf, hlo⟩ := hC
  have hg := gd_some h
  clear h
  obtain ⟨hln, h⟩ := hg
  subst hln
  obtain ⟨x, r, rfl, rfl, rfl, rfl, rfl, rfl⟩ := una_some h
  refine .pure fun H locs ls cells slots hl kk => lv_i2c hx hb hd rfl ?_
  have h1 := kk ls hl
  rw [List.map_cons, cv_i, iC, Int32.ofInt_toInt] at h1
  exact h1
theorem go_ineg (hC : Ctx X mi d p R s m args meth c)  (hd : decode (mB mi) pc = .ok (.ineg, ln)) (h : gd (ln = 1) (una (fun x => -x) pc al st S I) = some (.inl (pc', al', st', S', I'))) : GO X mi p l e R s m args below meth c Q pc al st S I pc' al' st' S' I' := by
  obtain ⟨hx, hb, hml, hown, hts, hin, hr, hlk, hK, hH, hf, hlo⟩ := hC
  have hg := gd_some h
  clear h
  obtain ⟨hln, h⟩ := hg
  subst hln
  obtain ⟨x, r, rfl, rfl, rfl, rfl, rfl, rfl⟩ := una_some h
  refine .pure fun H locs ls cells slots hl kk => lv_ineg hx hb hd ?_
  have h1 := kk ls hl
  rw [List.map_cons, cv_i, Int32.ofInt_neg] at h1
  exact h1
theorem go_idiv (hC : Ctx X mi d p R s m args meth c)  (hd : decode (mB mi) pc = .ok (.idiv, ln)) (h : gd (ln = 1) (match st with | (0, y) :: (0, x) :: r => gd (w y ≠ 0) (nx (pc + 1) al ((0, iDiv x y) :: r) S I) | _ => none) = some (.inl (pc', al', st', S', I'))) : GO X mi p l e R s m args below meth c Q pc al st S I pc' al' st' S' I' := by
  obtain ⟨hx, hb, hml, hown, hts, hin, hr, hlk, hK, hH, hf, hlo⟩ := hC
  have hg := gd_some h
  clear h
  obtain ⟨hln, h⟩ := hg
  subst hln
  split at h
  · rename_i y x r
    have hg := gd_some h
    clear h
    obtain ⟨h0, h⟩ := hg
    obtain ⟨rfl, rfl, rfl, rfl, rfl⟩ := nx_some h
    refine .pure fun H locs ls cells slots hl kk => lv_idiv hx hb hd (fun q => h0 (by unfold w; rw [q]; rfl)) ?_
    have h1 := kk ls hl
    rw [List.map_cons, cv_i, iDiv, Int32.ofInt_toInt] at h1
    exact h1
  · cases h
theorem go_irem (hC : Ctx X mi d p R s m args meth c)  (hd : decode (mB mi) pc = .ok (.irem, ln)) (h : gd (ln = 1) (match st with | (0, y) :: (0, x) :: r => gd (w y ≠ 0) (nx (pc + 1) al ((0, iRem x y) :: r) S I) | _ => none) = some (.inl (pc', al', st', S', I'))) : GO X mi p l e R s m args below meth c Q pc al st S I pc' al' st' S' I' := by
  obtain ⟨hx, hb, hml, hown, hts, hin, hr, hlk, hK, hH, hf, hlo⟩ := hC
  have hg := gd_some h
  clear h
  obtain ⟨hln, h⟩ := hg
  subst hln
  split at h
  · rename_i y x r
    have hg := gd_some h
    clear h
    obtain ⟨h0, h⟩ := hg
    obtain ⟨rfl, rfl, rfl, rfl, rfl⟩ := nx_some h
    refine .pure fun H locs ls cells slots hl kk => lv_irem hx hb hd (fun q => h0 (by unfold w; rw [q]; rfl)) ?_
    have h1 := kk ls hl
    rw [List.map_cons, cv_i, iRem, Int32.ofInt_toInt] at h1
    exact h1
  · cases h
theorem go_i2l (hC : Ctx X mi d p R s m args meth c)  (hd : decode (mB mi) pc = .ok (.i2l, ln)) (h : gd (ln = 1) (match st with | (0, x) :: r => nx (pc + 1) al ((1, w x) :: r) S I | _ => none) = some (.inl (pc', al', st', S', I'))) : GO X mi p l e R s m args below meth c Q pc al st S I pc' al' st' S' I' := by
  obtain ⟨hx, hb, hml, hown, hts, hin, hr, hlk, hK, hH, hf, hlo⟩ := hC
  have hg := gd_some h
  clear h
  obtain ⟨hln, h⟩ := hg
  subst hln
  split at h
  · obtain ⟨rfl, rfl, rfl, rfl, rfl⟩ := nx_some h
    exact .pure fun H locs ls cells slots hl kk => lv_i2l hx hb hd (Int64.ofInt_int32ToInt _).symm (kk ls hl)
  · cases h
theorem go_lcmp (hC : Ctx X mi d p R s m args meth c)  (hd : decode (mB mi) pc = .ok (.lcmp, ln)) (h : gd (ln = 1) (match st with | (1, y) :: (1, x) :: r => nx (pc + 1) al ((0, lCmp x y) :: r) S I | _ => none) = some (.inl (pc', al', st', S', I'))) : GO X mi p l e R s m args below meth c Q pc al st S I pc' al' st' S' I' := by
  obtain ⟨hx, hb, hml, hown, hts, hin, hr, hlk, hK, hH, hf, hlo⟩ := hC
  have hg := gd_some h
  clear h
  obtain ⟨hln, h⟩ := hg
  subst hln
  split at h
  · rename_i y x r
    obtain ⟨rfl, rfl, rfl, rfl, rfl⟩ := nx_some h
    refine .pure fun H locs ls cells slots hl kk => W.lcmp hx hb hd ?_
    have h1 := kk ls hl
    rw [List.map_cons, cv_i] at h1
    have h2 : Int32.ofInt (lCmp x y) = lg_cmp (Int64.ofInt x) (Int64.ofInt y) := by
      unfold lCmp lg_cmp
      have e1 : (Int64.ofInt x > Int64.ofInt y) ↔ wl y < wl x := Int64.lt_iff_toInt_lt
      have e2 : (Int64.ofInt x = Int64.ofInt y) ↔ wl x = wl y := Int64.toInt_inj.symm
      by_cases c1 : wl y < wl x
      · rw [if_pos c1, if_pos (e1.mpr c1)]; rfl
      · rw [if_neg c1, if_neg (fun z => c1 (e1.mp z))]
        by_cases c2 : wl x = wl y
        · rw [if_pos c2, if_pos (e2.mpr c2)]; rfl
        · rw [if_neg c2, if_neg (fun z => c2 (e2.mp z))]; rfl
    rw [h2] at h1
    exact h1
  · cases h
theorem go_dup (hC : Ctx X mi d p R s m args meth c)  (hd : decode (mB mi) pc = .ok (.dup, ln)) (h : gd (ln = 1) (match st with | x :: r => if x.1 = 1 then none else nx (pc + 1) al (x :: x :: r) S I | _ => none) = some (.inl (pc', al', st', S', I'))) : GO X mi p l e R s m args below meth c Q pc al st S I pc' al' st' S' I' := by
  obtain ⟨hx, hb, hml, hown, hts, hin, hr, hlk, hK, hH, hf, hlo⟩ := hC
  have hg := gd_some h
  clear h
  obtain ⟨hln, h⟩ := hg
  subst hln
  split at h
  · rename_i x r
    split at h
    · cases h
    · rename_i h1
      obtain ⟨rfl, rfl, rfl, rfl, rfl⟩ := nx_some h
      exact .pure fun H locs ls cells slots hl kk => lv_dup hx hb hd (by rw [cv_cat, cat, if_neg h1]) (kk ls hl)
  · cases h
theorem go_pop (hC : Ctx X mi d p R s m args meth c)  (hd : decode (mB mi) pc = .ok (.pop, ln)) (h : gd (ln = 1) (match st with | x :: r => if x.1 = 1 then none else nx (pc + 1) al r S I | _ => none) = some (.inl (pc', al', st', S', I'))) : GO X mi p l e R s m args below meth c Q pc al st S I pc' al' st' S' I' := by
  obtain ⟨hx, hb, hml, hown, hts, hin, hr, hlk, hK, hH, hf, hlo⟩ := hC
  have hg := gd_some h
  clear h
  obtain ⟨hln, h⟩ := hg
  subst hln
  split at h
  · rename_i x r
    split at h
    · cases h
    · rename_i h1
      obtain ⟨rfl, rfl, rfl, rfl, rfl⟩ := nx_some h
      exact .pure fun H locs ls cells slots hl kk => lv_pop hx hb hd (by rw [cv_cat, cat, if_neg h1]) (kk ls hl)
  · cases h
theorem go_dup2 (hC : Ctx X mi d p R s m args meth c)  (hd : decode (mB mi) pc = .ok (.dup2, ln)) (h : gd (ln = 1) (match st with | x :: y :: r => if x.1 = 1 ∨ y.1 = 1 then none else nx (pc + 1) al (x :: y :: x :: y :: r) S I | _ => none) = some (.inl (pc', al', st', S', I'))) : GO X mi p l e R s m args below meth c Q pc al st S I pc' al' st' S' I' := by
  obtain ⟨hx, hb, hml, hown, hts, hin, hr, hlk, hK, hH, hf, hlo⟩ := hC
  have hg := gd_some h
  clear h
  obtain ⟨hln, h⟩ := hg
  subst hln
  split at h
  · rename_i x y r
    split at h
    · cases h
    · rename_i h1
      obtain ⟨rfl, rfl, rfl, rfl, rfl⟩ := nx_some h
      exact .pure fun H locs ls cells slots hl kk => lv_dup2_11 hx hb hd (by rw [cv_cat, cat, if_neg (fun z => h1 (Or.inl z))]) (by rw [cv_cat, cat, if_neg (fun z => h1 (Or.inr z))]) (kk ls hl)
  · cases h
theorem go_goto (hC : Ctx X mi d p R s m args meth c) {off : Int} (hd : decode (mB mi) pc = .ok (.goto off, ln)) (h : gd (ln = 3) (jmp pc off al st S I) = some (.inl (pc', al', st', S', I'))) : GO X mi p l e R s m args below meth c Q pc al st S I pc' al' st' S' I' := by
  obtain ⟨hx, hb, hml, hown, hts, hin, hr, hlk, hK, hH, hf, hlo⟩ := hC
  have hg := gd_some h
  clear h
  obtain ⟨hln, h⟩ := hg
  subst hln
  obtain ⟨h1, rfl, rfl, rfl, rfl⟩ := jmp_some h
  exact .pure fun H locs ls cells slots hl kk => lv_goto hx hb hd h1 (kk ls hl)
theorem w_ge (x y : Int) : Int32.ofInt y ≤ Int32.ofInt x ↔ ¬ w x < w y := by rw [w_le]; omega
theorem crO_some (X : XX) {z : Int} (h1 : z ≠ -1) (h3 : z ≠ -3) : crO X z ≠ none := by
  unfold crO
  rw [if_neg h1]
  split
  · simp
  split
  · simp
  try rw [if_neg h3]
  split <;> simp
theorem e0_32 : Int32.ofInt 0 = 0 := rfl
theorem go_icmp (hC : Ctx X mi d p R s m args meth c) {c0 : ClassFile.Cond} {off : Int} (hd : decode (mB mi) pc = .ok (.if_icmp c0 off, ln)) (h : gd (ln = 3 ∧ 0 ≤ (pc : Int) + off) (match st with | (0, y) :: (0, x) :: r => cmpd c0 x y (jmp pc off al r S I) (nx (pc + 3) al r S I) | _ => none) = some (.inl (pc', al', st', S', I'))) : GO X mi p l e R s m args below meth c Q pc al st S I pc' al' st' S' I' := by
  obtain ⟨hx, hb, hml, hown, hts, hin, hr, hlk, hK, hH, hf, hlo⟩ := hC
  have hg := gd_some h
  clear h
  obtain ⟨⟨hln, hz⟩, h⟩ := hg
  subst hln
  have hT : (pc : Int) + off = (((pc : Int) + off).toNat : Int) := by omega
  split at h
  · rename_i y x r
    cases c0
    · have hi := w_eq x y
      rcases cmpd_some h with ⟨h, hc⟩ | ⟨h, hc⟩
      · obtain ⟨h1, rfl, rfl, rfl, rfl⟩ := jmp_some h
        exact .pure fun H locs ls cells slots hl kk => lv_icmp_eq hx hb hd h1 (fun _ => kk ls hl) (fun z => absurd (hi.mpr hc) z)
      · obtain ⟨rfl, rfl, rfl, rfl, rfl⟩ := nx_some h
        exact .pure fun H locs ls cells slots hl kk => lv_icmp_eq hx hb hd hT (fun z => absurd (hi.mp z) hc) (fun _ => kk ls hl)
    · have hi := w_eq x y
      rcases cmpd_some h with ⟨h, hc⟩ | ⟨h, hc⟩
      · obtain ⟨h1, rfl, rfl, rfl, rfl⟩ := jmp_some h
        exact .pure fun H locs ls cells slots hl kk => lv_icmp_ne hx hb hd h1 (fun _ => kk ls hl) (fun z => absurd (hi.mp z) hc)
      · obtain ⟨rfl, rfl, rfl, rfl, rfl⟩ := nx_some h
        exact .pure fun H locs ls cells slots hl kk => lv_icmp_ne hx hb hd hT (fun z => absurd (hi.mpr hc) z) (fun _ => kk ls hl)
    · have hi := w_lt x y
      rcases cmpd_some h with ⟨h, hc⟩ | ⟨h, hc⟩
      · obtain ⟨h1, rfl, rfl, rfl, rfl⟩ := jmp_some h
        exact .pure fun H locs ls cells slots hl kk => lv_icmp_lt hx hb hd h1 (fun _ => kk ls hl) (fun z => absurd (hi.mpr hc) z)
      · obtain ⟨rfl, rfl, rfl, rfl, rfl⟩ := nx_some h
        exact .pure fun H locs ls cells slots hl kk => lv_icmp_lt hx hb hd hT (fun z => absurd (hi.mp z) hc) (fun _ => kk ls hl)
    · have hi := w_ge x y
      rcases cmpd_some h with ⟨h, hc⟩ | ⟨h, hc⟩
      · obtain ⟨h1, rfl, rfl, rfl, rfl⟩ := jmp_some h
        exact .pure fun H locs ls cells slots hl kk => lv_icmp_ge hx hb hd h1 (fun _ => kk ls hl) (fun z => absurd (hi.mpr hc) z)
      · obtain ⟨rfl, rfl, rfl, rfl, rfl⟩ := nx_some h
        exact .pure fun H locs ls cells slots hl kk => lv_icmp_ge hx hb hd hT (fun z => absurd (hi.mp z) (fun z => z hc)) (fun _ => kk ls hl)
    · have hi := w_lt y x
      rcases cmpd_some h with ⟨h, hc⟩ | ⟨h, hc⟩
      · obtain ⟨h1, rfl, rfl, rfl, rfl⟩ := jmp_some h
        exact .pure fun H locs ls cells slots hl kk => lv_icmp_gt hx hb hd h1 (fun _ => kk ls hl) (fun z => absurd (hi.mpr hc) z)
      · obtain ⟨rfl, rfl, rfl, rfl, rfl⟩ := nx_some h
        exact .pure fun H locs ls cells slots hl kk => lv_icmp_gt hx hb hd hT (fun z => absurd (hi.mp z) hc) (fun _ => kk ls hl)
    · have hi := w_ge y x
      rcases cmpd_some h with ⟨h, hc⟩ | ⟨h, hc⟩
      · obtain ⟨h1, rfl, rfl, rfl, rfl⟩ := jmp_some h
        exact .pure fun H locs ls cells slots hl kk => lv_icmp_le hx hb hd h1 (fun _ => kk ls hl) (fun z => absurd (hi.mpr hc) z)
      · obtain ⟨rfl, rfl, rfl, rfl, rfl⟩ := nx_some h
        exact .pure fun H locs ls cells slots hl kk => lv_icmp_le hx hb hd hT (fun z => absurd (hi.mp z) (fun z => z hc)) (fun _ => kk ls hl)
  · cases h
theorem go_ifc (hC : Ctx X mi d p R s m args meth c) {c0 : ClassFile.Cond} {off : Int} (hd : decode (mB mi) pc = .ok (.ifCond c0 off, ln)) (h : gd (ln = 3 ∧ 0 ≤ (pc : Int) + off) (match st with | (0, x) :: r => cmpd c0 x 0 (jmp pc off al r S I) (nx (pc + 3) al r S I) | _ => none) = some (.inl (pc', al', st', S', I'))) : GO X mi p l e R s m args below meth c Q pc al st S I pc' al' st' S' I' := by
  obtain ⟨hx, hb, hml, hown, hts, hin, hr, hlk, hK, hH, hf, hlo⟩ := hC
  have hg := gd_some h
  clear h
  obtain ⟨⟨hln, hz⟩, h⟩ := hg
  subst hln
  have hT : (pc : Int) + off = (((pc : Int) + off).toNat : Int) := by omega
  split at h
  · rename_i x r
    cases c0
    · have hi := w_eq x 0
      rw [e0_32] at hi
      rcases cmpd_some h with ⟨h, hc⟩ | ⟨h, hc⟩
      · obtain ⟨h1, rfl, rfl, rfl, rfl⟩ := jmp_some h
        exact .pure fun H locs ls cells slots hl kk => lv_if_eq hx hb hd h1 (fun _ => kk ls hl) (fun z => absurd (hi.mpr hc) z)
      · obtain ⟨rfl, rfl, rfl, rfl, rfl⟩ := nx_some h
        exact .pure fun H locs ls cells slots hl kk => lv_if_eq hx hb hd hT (fun z => absurd (hi.mp z) hc) (fun _ => kk ls hl)
    · have hi := w_eq x 0
      rw [e0_32] at hi
      rcases cmpd_some h with ⟨h, hc⟩ | ⟨h, hc⟩
      · obtain ⟨h1, rfl, rfl, rfl, rfl⟩ := jmp_some h
        exact .pure fun H locs ls cells slots hl kk => lv_if_ne hx hb hd h1 (fun _ => kk ls hl) (fun z => absurd (hi.mp z) hc)
      · obtain ⟨rfl, rfl, rfl, rfl, rfl⟩ := nx_some h
        exact .pure fun H locs ls cells slots hl kk => lv_if_ne hx hb hd hT (fun z => absurd (hi.mpr hc) z) (fun _ => kk ls hl)
    · have hi := w_lt x 0
      rw [e0_32] at hi
      rcases cmpd_some h with ⟨h, hc⟩ | ⟨h, hc⟩
      · obtain ⟨h1, rfl, rfl, rfl, rfl⟩ := jmp_some h
        exact .pure fun H locs ls cells slots hl kk => lv_if_lt hx hb hd h1 (fun _ => kk ls hl) (fun z => absurd (hi.mpr hc) z)
      · obtain ⟨rfl, rfl, rfl, rfl, rfl⟩ := nx_some h
        exact .pure fun H locs ls cells slots hl kk => lv_if_lt hx hb hd hT (fun z => absurd (hi.mp z) hc) (fun _ => kk ls hl)
    · have hi := w_ge x 0
      rw [e0_32] at hi
      rcases cmpd_some h with ⟨h, hc⟩ | ⟨h, hc⟩
      · obtain ⟨h1, rfl, rfl, rfl, rfl⟩ := jmp_some h
        exact .pure fun H locs ls cells slots hl kk => lv_if_ge hx hb hd h1 (fun _ => kk ls hl) (fun z => absurd (hi.mpr hc) z)
      · obtain ⟨rfl, rfl, rfl, rfl, rfl⟩ := nx_some h
        exact .pure fun H locs ls cells slots hl kk => lv_if_ge hx hb hd hT (fun z => absurd (hi.mp z) (fun z => z hc)) (fun _ => kk ls hl)
    · have hi := w_lt 0 x
      rw [e0_32] at hi
      rcases cmpd_some h with ⟨h, hc⟩ | ⟨h, hc⟩
      · obtain ⟨h1, rfl, rfl, rfl, rfl⟩ := jmp_some h
        exact .pure fun H locs ls cells slots hl kk => lv_if_gt hx hb hd h1 (fun _ => kk ls hl) (fun z => absurd (hi.mpr hc) z)
      · obtain ⟨rfl, rfl, rfl, rfl, rfl⟩ := nx_some h
        exact .pure fun H locs ls cells slots hl kk => lv_if_gt hx hb hd hT (fun z => absurd (hi.mp z) hc) (fun _ => kk ls hl)
    · have hi := w_ge 0 x
      rw [e0_32] at hi
      rcases cmpd_some h with ⟨h, hc⟩ | ⟨h, hc⟩
      · obtain ⟨h1, rfl, rfl, rfl, rfl⟩ := jmp_some h
        exact .pure fun H locs ls cells slots hl kk => lv_if_le hx hb hd h1 (fun _ => kk ls hl) (fun z => absurd (hi.mpr hc) z)
      · obtain ⟨rfl, rfl, rfl, rfl, rfl⟩ := nx_some h
        exact .pure fun H locs ls cells slots hl kk => lv_if_le hx hb hd hT (fun z => absurd (hi.mp z) (fun z => z hc)) (fun _ => kk ls hl)
  · cases h
theorem go_ifnull (hC : Ctx X mi d p R s m args meth c) {off : Int} (hd : decode (mB mi) pc = .ok (.ifnull off, ln)) (h : gd (ln = 3) (match st with | (2, x) :: r => if x = -1 then jmp pc off al r S I else gd (x ≠ -3) (nx (pc + 3) al r S I) | _ => none) = some (.inl (pc', al', st', S', I'))) : GO X mi p l e R s m args below meth c Q pc al st S I pc' al' st' S' I' := by
  obtain ⟨hx, hb, hml, hown, hts, hin, hr, hlk, hK, hH, hf, hlo⟩ := hC
  have hg := gd_some h
  clear h
  obtain ⟨hln, h⟩ := hg
  subst hln
  split at h
  · rename_i x r
    split at h
    · rename_i hz
      subst hz
      obtain ⟨h1, rfl, rfl, rfl, rfl⟩ := jmp_some h
      refine .pure fun H locs ls cells slots hl kk => ?_
      rw [List.map_cons, cv_r, show crO X (-1) = none from rfl]
      exact lv_ifnullN hx hb hd h1 (kk ls hl)
    · rename_i hz
      have hg := gd_some h
      clear h
      obtain ⟨hz3, h⟩ := hg
      obtain ⟨rfl, rfl, rfl, rfl, rfl⟩ := nx_some h
      refine .pure fun H locs ls cells slots hl kk => ?_
      rw [List.map_cons, cv_r]
      cases hc : crO X x with
      | some a => exact lv_ifnull hx hb hd (kk ls hl)
      | none => exact absurd hc (crO_some X hz hz3)
  · cases h
theorem go_ifnonnull (hC : Ctx X mi d p R s m args meth c) {off : Int} (hd : decode (mB mi) pc = .ok (.ifnonnull off, ln)) (h : gd (ln = 3) (match st with | (2, x) :: r => if x = -1 then nx (pc + 3) al r S I else gd (x ≠ -3) (jmp pc off al r S I) | _ => none) = some (.inl (pc', al', st', S', I'))) : GO X mi p l e R s m args below meth c Q pc al st S I pc' al' st' S' I' := by
  obtain ⟨hx, hb, hml, hown, hts, hin, hr, hlk, hK, hH, hf, hlo⟩ := hC
  have hg := gd_some h
  clear h
  obtain ⟨hln, h⟩ := hg
  subst hln
  split at h
  · rename_i x r
    split at h
    · rename_i hz
      subst hz
      obtain ⟨rfl, rfl, rfl, rfl, rfl⟩ := nx_some h
      refine .pure fun H locs ls cells slots hl kk => ?_
      rw [List.map_cons, cv_r, show crO X (-1) = none from rfl]
      exact lv_ifnonnullN hx hb hd (kk ls hl)
    · rename_i hz
      have hg := gd_some h
      clear h
      obtain ⟨hz3, h⟩ := hg
      obtain ⟨h1, rfl, rfl, rfl, rfl⟩ := jmp_some h
      refine .pure fun H locs ls cells slots hl kk => ?_
      rw [List.map_cons, cv_r]
      cases hc : crO X x with
      | some a => exact lv_ifnonnull hx hb hd h1 (kk ls hl)
      | none => exact absurd hc (crO_some X hz hz3)
  · cases h
theorem go_tsw (hC : Ctx X mi d p R s m args meth c) {dd lo hi : Int} {offs : Array Int} (hd : decode (mB mi) pc = .ok (.tableswitch dd lo hi offs, ln)) (h : swt dd lo hi offs pc al st S I = some (.inl (pc', al', st', S', I'))) : GO X mi p l e R s m args below meth c Q pc al st S I pc' al' st' S' I' := by
  obtain ⟨hx, hb, hml, hown, hts, hin, hr, hlk, hK, hH, hf, hlo⟩ := hC
  unfold swt at h
  split at h
  · rename_i x r
    split at h
    · rename_i hz
      obtain ⟨h1, rfl, rfl, rfl, rfl⟩ := jmp_some h
      exact .pure fun H locs ls cells slots hl kk => lv_tableOut hx hb hd hz h1 (kk ls hl)
    · rename_i hz
      split at h
      · rename_i o ho
        obtain ⟨h1, rfl, rfl, rfl, rfl⟩ := jmp_some h
        exact .pure fun H locs ls cells slots hl kk => lv_tableIn hx hb hd (fun q => hz (Or.inl q)) (fun q => hz (Or.inr q)) ho h1 (kk ls hl)
      · cases h
  · cases h
theorem go_lsw (hC : Ctx X mi d p R s m args meth c) {dd : Int} {ps : Array (Int × Int)} (hd : decode (mB mi) pc = .ok (.lookupswitch dd ps, ln)) (h : swl dd ps pc al st S I = some (.inl (pc', al', st', S', I'))) : GO X mi p l e R s m args below meth c Q pc al st S I pc' al' st' S' I' := by
  obtain ⟨hx, hb, hml, hown, hts, hin, hr, hlk, hK, hH, hf, hlo⟩ := hC
  unfold swl at h
  split at h
  · rename_i x r
    split at h
    · rename_i hz
      obtain ⟨h1, rfl, rfl, rfl, rfl⟩ := jmp_some h
      exact .pure fun H locs ls cells slots hl kk => lv_lookup hx hb hd hz rfl h1 (kk ls hl)
    · cases h
  · cases h
end GP
