/-! returns, calls, and whole runs: what the abstract machine answers the machine answers -/
theorem codes_all : mtp.map cAt ++ (mt_8.drop 5).map cOf = mtl.map cOf := by
  unfold mtp mtl
  simp only [List.map_append, code_0, code_1, code_2, code_3, code_4, code_5, code_6, code_7, code_8, List.append_assoc]
  rw [← List.map_append, List.take_append_drop]
theorem mtp_len : mtp.length = 325 := by decide +kernel
theorem mtl_len : mtl.length = 326 := by decide +kernel
theorem code_gen {α β γ : Type} {A : List α} {B : List β} {C : List γ} {f : α → γ} {g : β → γ} (h : A.map f ++ C = B.map g) {i : Nat} (hi : i < A.length) : ∃ a b, A[i]? = some a ∧ B[i]? = some b ∧ f a = g b := by
  have h3 : (A.map f ++ C)[i]? = (B.map g)[i]? := by rw [h]
  rw [List.getElem?_append_left (by rw [List.length_map]; exact hi), List.getElem?_map, List.getElem?_map, List.getElem?_eq_getElem hi] at h3
  cases hb : B[i]? with
  | none => rw [hb] at h3; cases h3
  | some b =>
    rw [hb] at h3
    exact ⟨_, b, List.getElem?_eq_getElem hi, rfl, Option.some.inj h3⟩
theorem code_in {i : Nat} (h : i < 325) : Cond.code (mY i) (mB i) (mL i) (mR i) ∈ GW := by
  obtain ⟨a, b, -, hb, hab⟩ := code_gen codes_all (i := i) (by rw [mtp_len]; exact h)
  have h5 : mE i = b := by
    unfold mE
    rw [List.getD_eq_getElem?_getD, hb]
    rfl
  have h6 : Cond.code (mE i).2.1 (mE i).2.2.1 (mE i).2.2.2.1 (mE i).2.2.2.2.1 ∈ tables_1 := by
    rw [h5]
    exact List.mem_of_getElem? hab
  exact gw_tbl h6 rfl
theorem p_in {i : Nat} (h : i < 325) : ((if mK i = 0 then Cond.static (mY i) else Cond.instanceMethod (mY i)) ∈ GW) ∧ (mK i = 1 → Cond.selects (mY i).cls (mY i) (mY i) ∈ GW) ∧ Cond.initialized (mY i).cls ∈ GW ∧ cN (mC i) = (mY i).cls ∧ plainName (mY i).cls = true ∧
    ((mY i).cls ≠ "java/lang/invoke/MethodHandle" ∧ (mY i).cls ≠ "java/lang/invoke/VarHandle") ∧ (∀ sig, parseMethodDescriptor (mY i).desc = some sig → mP i = sig.parameters.length) ∧ (mK i = 2 → (mY i).name = "<init>") ∧ mL i ≤ 30 := by
  have h1 := p_ok h
  unfold pOk at h1
  split at h1
  rename_i a b c d
  simp only [Bool.and_eq_true, decide_eq_true_eq, Bool.or_eq_true] at h1
  obtain ⟨⟨⟨⟨⟨⟨⟨⟨⟨⟨⟨⟨⟨h1, h2⟩, h3⟩, h4⟩, h5⟩, h6⟩, h7⟩, h8⟩, h9⟩, h10⟩, h11⟩, h12⟩, h13⟩, h14⟩ := h1
  refine ⟨gw_at h1 h2, fun hk => ?_, gw_at h4 h5, h6, h7, ⟨h8, h9⟩, fun sig hs => ?_, h11, h13⟩
  · rcases h3 with h3 | h3
    · exact absurd hk h3
    · exact List.mem_filter.mpr ⟨List.mem_of_getElem? h3.1, h3.2⟩
  · unfold mP
    rw [hs]
    rfl
def rv (X : XX) (v : AV) : Option Value := if v.1 = 9 then none else some (cv X v)
def QM (X : XX) (v : AV) (S : SS) (I : II) : Array Value → State → Outcome → State → Prop := fun _ st o t => o = .returned (rv X v) ∧ Rel X S I t.heap ∧ va_F (aX X) st t
def PM (X : XX) (ag : List AV) (S : SS) (I : II) : Array Value → State → Prop := va_Pc (ag.map (cv X)) (fun U => Rel X S I U.heap ∧ KN X U ∧ KH X U U.heap)
theorem nw_tabs {x : Cond} (h : x ∈ NW) : (∃ a i b n d h, x = .fieldLinkNest a i b n d h) ∨ ∃ a i y h, x = .methodLinkNest a i y h := by
  have h1 := (List.mem_filter.mp h).2
  cases x <;> simp only [isNst] at h1 <;> first | (exact Or.inl ⟨_, _, _, _, _, _, rfl⟩) | (exact Or.inr ⟨_, _, _, _, rfl⟩) | (cases h1)
theorem KN.warm {X : XX} {s U : State} (hW : s.WarmedH U.vm) (h : KN X s) : KN X U := by
  obtain ⟨h1, h2, h3, h4, h5⟩ := h
  refine ⟨h1.moved hW.alike, fun x hx => ?_, fun q hq => (h3 q hq).warm hW, h4.moved hW.alike, h5.moved hW.alike⟩
  have h6 := h2 x hx
  rcases nw_tabs hx with ⟨a, i, b, n, d, hh, rfl⟩ | ⟨a, i, y, hh, rfl⟩
  · exact h6.warmF hW
  · exact h6.warmM hW
theorem KH.move {X : XX} {s U : State} {H : Heap} (hvm : s.vm.Alike U.vm) (h : KH X s H) : KH X U H := by
  obtain ⟨h1, h2, h3, h4, h5, h6⟩ := h
  exact ⟨h1.moved hvm, h2.moved hvm, h3.moved hvm, h4.moved hvm, h5, h6⟩
theorem KH.keep {X : XX} {s : State} {H H1 : Heap} {locs : List Loc} (h : KH X s H) (hS : va_S (aX X) H H1 locs) : KH X s H1 := by
  obtain ⟨h1, h2, h3, h4, h5, h6⟩ := h
  exact ⟨h1.kept hS.2.1, h2.kept hS.2.1, h3.kept hS.2.1, h4.kept (hS.2.1 _ (Nat.lt_of_lt_of_le h5 h6) (Nat.not_le.mpr h5)), h5, Nat.le_trans h6 hS.1⟩
theorem PM.blind (X : XX) (ag : List AV) (S : SS) (I : II) : FrameBlind (PM X ag S I) := fun a U g mk q => by
  obtain ⟨rfl, h1, h2, h3⟩ := q
  exact ⟨rfl, h1, KN.warm (State.WarmedH.refl U) h2, KH.move (Vm.Alike.refl U.vm) h3⟩
