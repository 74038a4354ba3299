/-! what the abstract machine's state is of the machine's: numbers, references, locals, the world -/
/-- the first own cell, the script's cell, the constant texts' cells, their bytes' cells, the thing of the machine's, classes of arrays, tables of the worlds, the script's length and numbers -/
abbrev XX : Type := Nat × Nat × (Nat → Nat) × (Nat → Nat) × Option Nat × (Nat → ClassId) × va_G × Nat × (Nat → Int32)
abbrev xB (X : XX) : Nat := X.1
abbrev xS (X : XX) : Nat := X.2.1
abbrev xK (X : XX) : Nat → Nat := X.2.2.1
abbrev xV (X : XX) : Nat → Nat := X.2.2.2.1
abbrev xQ (X : XX) : Option Nat := X.2.2.2.2.1
abbrev xC (X : XX) : Nat → ClassId := X.2.2.2.2.2.1
abbrev xD (X : XX) : va_G := X.2.2.2.2.2.2.1
abbrev xL (X : XX) : Nat := X.2.2.2.2.2.2.2.1
abbrev xs (X : XX) : Nat → Int32 := X.2.2.2.2.2.2.2.2
def crO (X : XX) (z : Int) : Option Nat := if z = -1 then none else if 0 ≤ z then some (xB X + z.toNat) else if z = -2 then some (xS X) else if z = -3 then xQ X else if -100 < z then some (xK X (-10 - z).toNat) else some (xV X (-100 - z).toNat)
def cv (X : XX) : AV → Value
  | (0, z) => .int (Int32.ofInt z)
  | (1, z) => .long (Int64.ofInt z)
  | (_, z) => va_rf (crO X z)
theorem cv_i (X : XX) (z : Int) : cv X (0, z) = .int (Int32.ofInt z) := rfl
theorem cv_l (X : XX) (z : Int) : cv X (1, z) = .long (Int64.ofInt z) := rfl
theorem cv_r (X : XX) (z : Int) : cv X (2, z) = va_rf (crO X z) := rfl
theorem cv_ref (X : XX) {z : Int} (h : 0 ≤ z) : cv X (2, z) = .ref (xB X + z.toNat) := by
  rw [cv_r, crO, if_neg (by omega), if_pos h]; rfl
theorem cv_cat (X : XX) (x : AV) : (cv X x).category = cat x := by
  obtain ⟨t, z⟩ := x
  match t with
  | 0 => rfl
  | 1 => rfl
  | n + 2 =>
    show (va_rf (crO X z)).category = _
    have hc : cat (n + 2, z) = 1 := by simp [cat]
    rw [hc]
    cases crO X z <;> rfl
theorem cv_cats (X : XX) (l : List AV) : ((l.map (cv X)).map fun v => v.category) = l.map cat := by
  rw [List.map_map]
  apply List.map_congr_left
  intro x _
  exact cv_cat X x
/-! locals -/
def LH (X : XX) (ls : Array Slot) (nL : Nat) (al : List AV) : Prop := ls.size = nL ∧ al.length = nL ∧ lv_wf ls ∧ ∀ (i : Nat) (x : AV), al[i]? = some x → x.1 ≠ 9 → ls[i]? = some (.val (cv X x))
def asl (X : XX) (al : List AV) : List (Nat × Value) := (List.range al.length).filterMap (fun i => (al[i]?).bind (fun x => if x.1 = 9 then none else some (i, cv X x)))
theorem mem_asl {X : XX} {al : List AV} {i : Nat} {v : Value} : (i, v) ∈ asl X al ↔ ∃ x, al[i]? = some x ∧ x.1 ≠ 9 ∧ v = cv X x := by
  unfold asl
  rw [List.mem_filterMap]
  constructor
  · rintro ⟨j, hj, h⟩
    rw [Option.bind_eq_some_iff] at h
    obtain ⟨x, hx, h⟩ := h
    split at h
    · cases h
    · rename_i h9
      cases h
      exact ⟨x, hx, h9, rfl⟩
  · rintro ⟨x, hx, h9, rfl⟩
    refine ⟨i, List.mem_range.mpr (List.getElem?_eq_some_iff.mp hx).1, ?_⟩
    rw [hx, Option.bind_some, if_neg h9]
theorem LH.has {X : XX} {ls : Array Slot} {nL : Nat} {al : List AV} (h : LH X ls nL al) : lv_has ls nL (asl X al) := by
  refine ⟨h.1, h.2.2.1, fun q hq => ?_⟩
  obtain ⟨x, hx, h9, hv⟩ := mem_asl.mp hq
  rw [hv]
  exact h.2.2.2 q.1 x hx h9
theorem cat_2 {X : XX} {x : AV} (h : x.1 ≠ 1) : (cv X x).category ≠ 2 := by
  rw [cv_cat, cat, if_neg h]; decide
theorem isLong_no {al : List AV} {n i : Nat} {x : AV} (h : isLong al n = false) (hx : al[i]? = some x) (hi : i + 1 = n) : x.1 ≠ 1 := by
  subst hi
  intro hx1
  simp only [isLong, hx] at h
  rw [hx1] at h
  simp at h
theorem LH_st1 {X : XX} {ls ls' : Array Slot} {nL n : Nat} {al : List AV} {x : AV} (h : LH X ls nL al) (hn : n < al.length) (hL : isLong al n = false)
    (h' : lv_has ls' nL ((n, cv X x) :: (asl X al).filter (fun q => !(q.1 == n) && !(q.1 + 1 == n && q.2.category == 2)))) : LH X ls' nL (al.set n x) := by
  refine ⟨h'.1, by rw [List.length_set]; exact h.2.1, h'.2.1, fun i y hy h9 => ?_⟩
  by_cases hi : i = n
  · subst hi
    rw [List.getElem?_set_self hn] at hy
    cases hy
    exact h'.2.2 _ List.mem_cons_self
  · rw [List.getElem?_set_ne (Ne.symm hi)] at hy
    refine h'.2.2 (i, cv X y) (List.mem_cons_of_mem _ (List.mem_filter.mpr ⟨mem_asl.mpr ⟨y, hy, h9, rfl⟩, ?_⟩))
    simp only [Bool.and_eq_true, Bool.not_eq_true', beq_eq_false_iff_ne, ne_eq, Bool.and_eq_false_iff]
    refine ⟨hi, ?_⟩
    by_cases h1 : i + 1 = n
    · exact Or.inr (cat_2 (isLong_no hL hy h1))
    · exact Or.inl h1
theorem LH_st2 {X : XX} {ls ls' : Array Slot} {nL n : Nat} {al : List AV} {x : AV} (h : LH X ls nL al) (hn : n + 1 < al.length) (hL : isLong al n = false)
    (h' : lv_has ls' nL ((n, cv X x) :: (asl X al).filter (fun q => !(q.1 == n) && (!(q.1 == n + 1) && !(q.1 + 1 == n && q.2.category == 2))))) : LH X ls' nL ((al.set n x).set (n + 1) uU) := by
  refine ⟨h'.1, by rw [List.length_set, List.length_set]; exact h.2.1, h'.2.1, fun i y hy h9 => ?_⟩
  by_cases hi1 : i = n + 1
  · subst hi1
    rw [List.getElem?_set_self (by rw [List.length_set]; omega)] at hy
    cases hy
    exact absurd rfl h9
  rw [List.getElem?_set_ne (Ne.symm hi1)] at hy
  by_cases hi : i = n
  · subst hi
    rw [List.getElem?_set_self (by omega)] at hy
    cases hy
    exact h'.2.2 _ List.mem_cons_self
  · rw [List.getElem?_set_ne (Ne.symm hi)] at hy
    refine h'.2.2 (i, cv X y) (List.mem_cons_of_mem _ (List.mem_filter.mpr ⟨mem_asl.mpr ⟨y, hy, h9, rfl⟩, ?_⟩))
    simp only [Bool.and_eq_true, Bool.not_eq_true', beq_eq_false_iff_ne, ne_eq, Bool.and_eq_false_iff]
    refine ⟨hi, hi1, ?_⟩
    by_cases h1 : i + 1 = n
    · exact Or.inr (cat_2 (isLong_no hL hy h1))
    · exact Or.inl h1
/-! the world -/
def aX (X : XX) : Nat → Prop := fun q => xB X ≤ q
def ce (X : XX) (S : SS) (I : II) (j : Int) : va_E :=
  if (sH S j).1 < 20 then .inr ((sH S j).1.toNat, (List.range (fN (sH S j).1.toNat)).map (fun f => cv X (fV S I (sH S j).1.toNat f j)))
  else .inl (xC X (sH S j).1.toNat, (sH S j).2.toNat, if (sH S j).1 = 21 then .inr (.inl (fun i => Int64.ofInt (I j i))) else if (sH S j).1 ≤ 23 then .inl (fun i => Int32.ofInt (I j i)) else .inr (.inr (.inr (.inr (fun i => crO X (sG S j i))))))
def Lw (X : XX) (S : SS) : List Nat := ((List.range (sN S)).filter (fun j : Nat => decide ((sH S (j : Int)).1 ≠ 99))).map (fun j => xB X + j)
def Wf (X : XX) (S : SS) (I : II) (a : Nat) : va_E := ce X S I ((a : Int) - xB X)
def WS (X : XX) (S : SS) (I : II) : va_W := ([] : va_W) ++ va_pl (Lw X S) (Wf X S I)
def tysX (X : XX) : List (ClassId × FieldType) := [(xC X 20, .int), (xC X 21, .long), (xC X 22, .char), (xC X 23, .boolean), (xC X 24, .object "QueueDrive$Drive"), (xC X 25, .object "QueueDrive$Lane")]
def Rel (X : XX) (S : SS) (I : II) (H : Heap) : Prop := H.size = xB X + sN S ∧ va_P (xD X) vwc (WS X S I) H ∧ va_D (aX X) (WS X S I) ∧ (∀ a, 0 ≤ (sH S a).2) ∧ sH S (-2) = (20, (xL X : Int)) ∧ ∀ i : Nat, xs X i = Int32.ofInt (I (-2) i)
def lenS : List Nat := stx.map (·.length)
def bytS : List (List Int32) := stx.map (fun l => l.map (fun c => Int32.ofNat c))
/-- what is known of the tables -/
def KN (X : XX) (s : State) : Prop := va_K (xD X) vwc (tysX X) s ∧ (∀ x ∈ NW, va_Nw x s) ∧ (∀ q ∈ lsl, vk_R (cN q.1.1) q.1.2 (stn.getD q.2.1 "") (xK X q.2.1) s) ∧ va_AO "QueueDrive$Drive" s ∧ va_AO "QueueDrive$Lane" s
/-- what is known of cells that nobody writes -/
def KH (X : XX) (s : State) (H : Heap) : Prop := va_Z "java/lang/String" "COMPACT_STRINGS" "Z" (.int 1) (aX X) s H ∧ va_Z "jdk/internal/util/Preconditions" "SIOOBE_FORMATTER" "Ljava/util/function/BiFunction;" (va_rf (xQ X)) (aX X) s H ∧ vk_S 12 lenS bytS (xK X) (xV X) (aX X) s H ∧ va_X (xS X) (xL X) (xs X) s H ∧ xS X < xB X ∧ xB X ≤ H.size
def Ctx (X : XX) (mi d : Nat) (p : Program) (R : Room) (s : State) (m : MethodId) (args : Array Value) (meth : Method) (c : Code) : Prop :=
  p.tables.exec = Jvm.exec ∧ c.code = mB mi ∧ c.maxLocals = mL mi ∧ s.vm.findClass (cN (mC mi)) = some m.cls ∧ (∀ x ∈ GW, x.before args s = true) ∧ (mK mi = 2 → meth.name = "<init>") ∧ meth.sig.returnType = mR mi ∧ meth.locks = false ∧ KN X s ∧ KH X s s.heap ∧ d + 1 ≤ R.frames ∧ 100 * (d + 1) ≤ R.locals
theorem aX_hi {X : XX} {s : State} (h : KH X s s.heap) : ∀ q : Nat, s.heap.size ≤ q → aX X q := fun q hq => Nat.le_trans h.2.2.2.2.2 hq
theorem w_clamp (z : Int) : (Int32.ofInt z).toNatClampNeg = (w z).toNat := rfl
theorem w_lt0 (z : Int) : (Int32.ofInt z) < 0 ↔ w z < 0 := by
  rw [Int32.lt_iff_toInt_lt]; rfl
theorem w_lt (x y : Int) : Int32.ofInt x < Int32.ofInt y ↔ w x < w y := Int32.lt_iff_toInt_lt
theorem w_le (x y : Int) : Int32.ofInt x ≤ Int32.ofInt y ↔ w x ≤ w y := Int32.le_iff_toInt_le
theorem w_eq (x y : Int) : Int32.ofInt x = Int32.ofInt y ↔ w x = w y := Int32.toInt_inj.symm
theorem of_w (x : Int) : Int32.ofInt (w x) = Int32.ofInt x := Int32.ofInt_toInt _
/-- a place of the world -/
theorem ws_at {X : XX} {S : SS} {I : II} {a : Int} (h0 : 0 ≤ a) (hn : a < (sN S : Int)) (hk : (sH S a).1 ≠ 99) : ∃ k : Nat, (WS X S I)[k]? = some (xB X + a.toNat, Wf X S I (xB X + a.toNat)) := by
  have hr : a.toNat < sN S := by omega
  refine va_pl_get (X := []) (List.mem_map.mpr ⟨a.toNat, List.mem_filter.mpr ⟨List.mem_range.mpr hr, ?_⟩, rfl⟩)
  have : ((a.toNat : Nat) : Int) = a := by omega
  rw [this]
  exact decide_eq_true hk
theorem wf_ce {X : XX} {S : SS} {I : II} {a : Int} (h0 : 0 ≤ a) : Wf X S I (xB X + a.toNat) = ce X S I a := by
  unfold Wf
  congr 1
  omega
theorem ws_set {X : XX} {S S' : SS} {I I' : II} {a : Int} {k : Nat} {e : va_E} (hD : va_D (aX X) (WS X S I)) (h0 : 0 ≤ a) (hn : a < (sN S : Int)) (hk : (sH S a).1 ≠ 99) (h : (WS X S I)[k]? = some (xB X + a.toNat, Wf X S I (xB X + a.toNat)))
    (hN : sN S' = sN S) (hH : ∀ j, (sH S' j).1 = (sH S j).1) (he : ce X S' I' a = e) (ho : ∀ j, j ≠ a → ce X S' I' j = ce X S I j) : (WS X S I).set k (xB X + a.toNat, e) = WS X S' I' := by
  have hm : xB X + a.toNat ∈ Lw X S := by
    have hr : a.toNat < sN S := by omega
    refine List.mem_map.mpr ⟨a.toNat, List.mem_filter.mpr ⟨List.mem_range.mpr hr, ?_⟩, rfl⟩
    have : ((a.toNat : Nat) : Int) = a := by omega
    rw [this]
    exact decide_eq_true hk
  have h1 := va_pl_set (X := []) (e := e) hD hm h
  unfold WS at h1 ⊢
  rw [h1]
  have hL : Lw X S' = Lw X S := by
    unfold Lw
    rw [hN]
    congr 1
    apply List.filter_congr
    intro j _
    rw [hH]
  rw [hL]
  congr 1
  apply va_pl_congr
  intro q
  unfold va_up Wf
  by_cases hq : q = xB X + a.toNat
  · rw [if_pos hq, ← he]
    congr 1
    omega
  · rw [if_neg hq]
    exact (ho _ (by omega)).symm
theorem ws_push {X : XX} {S S' : SS} {I I' : II} {e : va_E} (hN : sN S' = sN S + 1) (hH : ∀ j : Int, j ≠ (sN S : Int) → (sH S' j).1 = (sH S j).1) (hk : (sH S' (sN S : Int)).1 ≠ 99) (he : ce X S' I' (sN S : Int) = e) (ho : ∀ j : Int, j ≠ (sN S : Int) → ce X S' I' j = ce X S I j) : WS X S I ++ [(xB X + sN S, e)] = WS X S' I' := by
  have hL : Lw X S' = Lw X S ++ [xB X + sN S] := by
    unfold Lw
    rw [hN, List.range_succ, List.filter_append, List.map_append]
    congr 1
    · congr 1
      apply List.filter_congr
      intro j hj
      have := List.mem_range.mp hj
      rw [hH]
      omega
    · rw [List.filter_cons_of_pos (by exact decide_eq_true hk)]
      rfl
  have hn : xB X + sN S ∉ Lw X S := by
    intro h
    obtain ⟨j, hj, h⟩ := List.mem_map.mp h
    have := List.mem_range.mp (List.mem_filter.mp hj).1
    omega
  unfold WS
  rw [hL, List.append_assoc, va_pl_push hn]
  congr 1
  apply va_pl_congr
  intro q
  unfold va_up Wf
  by_cases hq : q = xB X + sN S
  · rw [if_pos hq, ← he]
    congr 1
    omega
  · rw [if_neg hq]
    exact (ho _ (by omega)).symm
