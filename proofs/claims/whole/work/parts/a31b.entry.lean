/-! the law's entry: what the statement gives -/
def tms : List (String × Nat) := [(cN 8, 91), (cN 10, 366), (cN 10, 368), (cN 10, 370), (cN 10, 372), (cN 10, 108), (cN 10, 348), (cN 11, 92), (cN 11, 94), (cN 11, 96), (cN 11, 204), (cN 11, 392)]
def tmk (i : Nat) : Term := .string (tms.getD i ("", 0)).1 (tms.getD i ("", 0)).2
def FLT : List Cond := flatC (Jvm.Cond.and given_1 narrow_1)
theorem fl_at {w : Cond} {i : Nat} (h : FLT[i]? = some w) : w ∈ FLT := List.mem_of_getElem? h
def exP : List Nat := [45, 56, 66, 73, 83, 91, 129, 182, 197, 212, 228, 247]
def coP : List Nat := [46, 57, 67, 74, 84, 92, 130, 183, 198, 213, 229, 248]
def arP : List Nat := [47, 58, 68, 75, 85, 93, 131, 184, 199, 214, 230, 249]
def leP : List Nat := [48, 59, 69, 76, 86, 94, 132, 185, 200, 215, 231, 250]
def elP : List Nat := [49, 60, 70, 77, 0, 95, 133, 186, 201, 216, 232, 251]
def neP : List (List Nat) := [[0, 65, 71, 80, 87, 124, 158, 189, 203, 218, 236, 257], [0, 0, 72, 81, 88, 125, 159, 190, 204, 219, 237, 258], [0, 0, 0, 82, 89, 126, 160, 191, 205, 220, 238, 259], [0, 0, 0, 0, 90, 127, 161, 192, 206, 221, 239, 260], [0, 0, 0, 0, 0, 128, 162, 193, 207, 222, 240, 261], [0, 0, 0, 0, 0, 0, 163, 194, 208, 223, 241, 262], [0, 0, 0, 0, 0, 0, 0, 195, 209, 224, 242, 263], [0, 0, 0, 0, 0, 0, 0, 0, 211, 226, 244, 265], [0, 0, 0, 0, 0, 0, 0, 0, 0, 227, 245, 266], [0, 0, 0, 0, 0, 0, 0, 0, 0, 0, 246, 267], [0, 0, 0, 0, 0, 0, 0, 0, 0, 0, 0, 268], [0, 0, 0, 0, 0, 0, 0, 0, 0, 0, 0, 0]]
theorem tx_ex : ∀ i : Nat, i < 12 → FLT[exP.getD i 0]? = some (Cond.exactly (tmk i) "java/lang/String") := by decide +kernel
theorem tx_co : ∀ i : Nat, i < 12 → FLT[coP.getD i 0]? = some (Cond.eq (.field (tmk i) "java/lang/String" "coder" "B") (.int 0)) := by decide +kernel
theorem tx_ar : ∀ i : Nat, i < 12 → FLT[arP.getD i 0]? = some (Cond.arrayOf (.field (tmk i) "java/lang/String" "value" "[B") .byte) := by decide +kernel
theorem tx_le : ∀ i : Nat, i < 12 → FLT[leP.getD i 0]? = some (Cond.eq (.length (.field (tmk i) "java/lang/String" "value" "[B")) (.int (Int32.ofNat (lenS.getD i 0)))) := by decide +kernel
theorem tx_el : ∀ i : Nat, i < 12 → ∀ j : Nat, j < lenS.getD i 0 → FLT[elP.getD i 0 + j]? = some (Cond.eq (.elem (.field (tmk i) "java/lang/String" "value" "[B") (.int (Int32.ofNat j))) (.int ((bytS.getD i []).getD j 0))) := by decide +kernel
theorem tx_nl : ∀ i : Nat, i < 12 → ∀ j : Nat, j < 12 → i < j → FLT[(neP.getD i []).getD j 0]? = some (Cond.not (Cond.eq (tmk i) (tmk j))) := by decide +kernel
theorem tx_ne (i j : Nat) (hi : i < 12) (hj : j < 12) (h : i ≠ j) : Cond.not (Cond.eq (tmk i) (tmk j)) ∈ FLT ∨ Cond.not (Cond.eq (tmk j) (tmk i)) ∈ FLT := by
  by_cases c : i < j
  · exact Or.inl (fl_at (tx_nl i hi j hj c))
  · exact Or.inr (fl_at (tx_nl j hj i hi (by omega)))
theorem tx_sm : ∀ i : Nat, i < 12 → lenS.getD i 0 < 2 ^ 31 := by decide +kernel
theorem tx_eq : Cond.eq (Term.string (cN 8) 91) (Term.string (cN 11) 83) ∈ FLT := fl_at (i := 175) (by decide +kernel)
theorem tx_at : ∀ q ∈ lsl, q.2.1 < 12 ∧ (Term.string (cN q.1.1) q.1.2 = tmk q.2.1 ∨ q = ((11, 83), 0, 1345)) := by decide +kernel
theorem tx_w : ∀ q ∈ lsl, Cond.stringRef (cN q.1.1) q.1.2 (stn.getD q.2.1 "") ∈ tables_1 := fun q hq => by
  have h := List.all_eq_true.mp lsl_ok q hq
  simp only [sOk, Bool.and_eq_true] at h
  exact List.mem_of_getElem? (of_decide_eq_true h.1)
theorem arr_ofC {s : State} {A : Array Value} {ty : FieldType} (h : (Cond.arrayClass ty).before A s = true) : ∃ cA : ClassId, ArrOfT s cA ty ∧ s.vm.findClass ("[" ++ ty.toString) = some cA := by
  obtain ⟨c, k, comp, h1, h2, h3⟩ := Cond.arrayClass_spec h
  exact ⟨c, fun n z => ⟨fun k h => (by cases h), k, h2, comp, h3⟩, h1⟩
theorem arr_ofO {s : State} {A : Array Value} {C : String} (h : (Cond.arrayOver (.object C)).before A s = true) : ∃ cA : ClassId, ArrOfT s cA (.object C) ∧ va_RA s cA (.object C) := by
  obtain ⟨comp, c, k, h1, -, h3, h4, h5⟩ := Cond.arrayOver_spec h
  exact ⟨c, fun n z => ⟨fun k h => (by cases h), k, h3, comp, h4⟩, k, comp, h3, h4, h1, h5⟩
def ent_X (sz b L : Nat) (xs : Nat → Int32) (K V : Nat → Nat) (Q : Option Nat) (D : va_G) (c20 c21 c22 c23 c24 c25 : ClassId) : XX := (sz, b, K, V, Q, (fun k => if k = 20 then c20 else if k = 21 then c21 else if k = 22 then c22 else if k = 23 then c23 else if k = 24 then c24 else c25), D, L, xs)
theorem c325 : mB 325 = code := rfl
theorem l325 : mL 325 = 8 := by decide +kernel
theorem r325 : mR 325 = ret := by decide +kernel
