/-! the tables' words behind the program as data -/
def GW : List Cond := lw_tbl.filter goodWord
def isNst : Cond → Bool
  | .fieldLinkNest .. => true
  | .methodLinkNest .. => true
  | _ => false
def NW : List Cond := tables_1.filter isNst
def tAt (i : Nat) (x : Cond) : Bool := decide (tables_1[i]? = some x)
theorem gw_tbl {x : Cond} (h : x ∈ tables_1) (hg : goodWord x = true) : x ∈ GW := List.mem_filter.mpr ⟨List.mem_append_right _ h, hg⟩
theorem gw_at {x : Cond} {i : Nat} (h : tAt i x = true) (hg : goodWord x = true) : x ∈ GW := gw_tbl (List.mem_of_getElem? (of_decide_eq_true h)) hg
theorem nw_at {x : Cond} {i : Nat} (h : tAt i x = true) (hg : isNst x = true) : x ∈ NW := List.mem_filter.mpr ⟨List.mem_of_getElem? (of_decide_eq_true h), hg⟩
def rwD : vw_C := ("", TX2, 0)
def rwT (ci : Nat) : vw_C := vwc.getD ci rwD
def fW (q : (Nat × Nat) × Nat × Nat × Nat × Nat) : Cond := if q.2.2.2.1 = 1 then .fieldLinkNest (cN q.1.1) q.1.2 (rwT q.2.1).1 ((rwT q.2.1).2.1 q.2.2.1).2.1 ((rwT q.2.1).2.1 q.2.2.1).2.2.1 "QueueDrive"
  else .fieldLink (cN q.1.1) q.1.2 (rwT q.2.1).1 ((rwT q.2.1).2.1 q.2.2.1).2.1 ((rwT q.2.1).2.1 q.2.2.1).2.2.1
def fOk (q : (Nat × Nat) × Nat × Nat × Nat × Nat) : Bool := decide (q.2.1 < 10) && decide (q.2.2.1 < (rwT q.2.1).2.2) && tAt q.2.2.2.2 (fW q) && (if q.2.2.2.1 = 1 then isNst (fW q) else goodWord (fW q)) && decide (q.2.2.2.1 < 2)
theorem lfl_ok : lfl.all fOk = true := by decide +kernel
def mW (q : (Nat × Nat) × Nat × Nat × Nat) : Cond := if q.2.1 = 10 then .methodLink (cN q.1.1) q.1.2 objectInit else if q.2.1 = 11 then .methodLink (cN q.1.1) q.1.2 arraycopyName
  else if q.2.1 = 12 then .methodLink (cN q.1.1) q.1.2 Lib.Math.max.name else if q.2.1 = 13 then .methodLink (cN q.1.1) q.1.2 Lib.Math.min.name
  else if q.2.1 < 3 then .methodLink (cN q.1.1) q.1.2 (mY q.2.2.1) else .methodLinkNest (cN q.1.1) q.1.2 (mY q.2.2.1) "QueueDrive"
def mOk (q : (Nat × Nat) × Nat × Nat × Nat) : Bool := decide (20 ≤ q.2.1) || (tAt q.2.2.2 (mW q) && (if q.2.1 < 3 ∨ 10 ≤ q.2.1 then goodWord (mW q) else isNst (mW q)) && (decide (10 ≤ q.2.1) || (decide (q.2.1 < 6) && decide (mK q.2.2.1 = q.2.1 % 3) && decide (q.2.2.1 < 325))))
theorem lml_ok : lml.all mOk = true := by decide +kernel
theorem lw_privs_len : lw_privs.length = 85 := by decide +kernel
/-- the code words: by their places, the bytes not opened -/
def cAt (p : Nat × Nat × Nat × Nat) : Option Cond := tables_1[p.1]?
def cOf (e : mT) : Option Cond := some (.code e.2.1 e.2.2.1 e.2.2.2.1 e.2.2.2.2.1)
set_option maxRecDepth 100000 in
theorem code_0 : mtp_0.map cAt = (mt_0).map cOf := rfl
set_option maxRecDepth 100000 in
theorem code_1 : mtp_1.map cAt = (mt_1).map cOf := rfl
set_option maxRecDepth 100000 in
theorem code_2 : mtp_2.map cAt = (mt_2).map cOf := rfl
set_option maxRecDepth 100000 in
theorem code_3 : mtp_3.map cAt = (mt_3).map cOf := rfl
set_option maxRecDepth 100000 in
theorem code_4 : mtp_4.map cAt = (mt_4).map cOf := rfl
set_option maxRecDepth 100000 in
theorem code_5 : mtp_5.map cAt = (mt_5).map cOf := rfl
set_option maxRecDepth 100000 in
theorem code_6 : mtp_6.map cAt = (mt_6).map cOf := rfl
set_option maxRecDepth 100000 in
theorem code_7 : mtp_7.map cAt = (mt_7).map cOf := rfl
set_option maxRecDepth 100000 in
theorem code_8 : mtp_8.map cAt = (mt_8.take 5).map cOf := rfl
def cW (q : (Nat × Nat) × Nat × Nat) : Cond := .classLink (cN q.1.1) q.1.2 (rwT q.2.1).1
def cOk (q : (Nat × Nat) × Nat × Nat) : Bool := tAt q.2.2 (cW q) && goodWord (cW q) && decide (q.2.1 < 10)
theorem lcl_ok : lcl.all cOk = true := by decide +kernel
def iOk (q : (Nat × Nat) × Int × Nat) : Bool := tAt q.2.2 (.constant (cN q.1.1) q.1.2 (Int32.ofInt q.2.1)) && goodWord (.constant (cN q.1.1) q.1.2 (Int32.ofInt q.2.1))
theorem lil_ok : lil.all iOk = true := by decide +kernel
def lOk (q : (Nat × Nat) × Int × Nat) : Bool := tAt q.2.2 (.constantLong (cN q.1.1) q.1.2 (Int64.ofInt q.2.1)) && goodWord (.constantLong (cN q.1.1) q.1.2 (Int64.ofInt q.2.1))
theorem lll_ok : lll.all lOk = true := by decide +kernel
def sOk (q : (Nat × Nat) × Nat × Nat) : Bool := tAt q.2.2 (.stringRef (cN q.1.1) q.1.2 (stn.getD q.2.1 "")) && decide (q.2.1 < 12)
theorem lsl_ok : lsl.all sOk = true := by decide +kernel
/-- a kind's own words and types -/
def tyl : List (Nat → FieldType) := [tyX2, tyX3, tyX4, tyX5, tyX6, tyX7, tyX8, tyX9, tyX10, tyX11]
def tyk (ci : Nat) : Nat → FieldType := tyl.getD ci tyX2
def isRf : FieldType → Bool
  | .object _ => true
  | .array _ => true
  | _ => false
def kOk (ci : Nat) : Bool := (u_ws (rwT ci).1 (rwT ci).2.1 (rwT ci).2.2).all (fun x => goodWord x && decide (x ∈ tables_1)) && decide (fN ci = (rwT ci).2.2) && decide ((rwT ci).1 = cN (ci + 2)) &&
  decide (Cond.instantiable (rwT ci).1 (rwT ci).2.2 ∈ tables_1) && goodWord (Cond.instantiable (rwT ci).1 (rwT ci).2.2) && decide (Cond.initialized (rwT ci).1 ∈ tables_1) && goodWord (Cond.initialized (rwT ci).1) &&
  (List.range (fN ci)).all (fun k => decide (parseFieldDescriptor ((rwT ci).2.1 k).2.2.1 = some (tyk ci k)) && decide (((rwT ci).2.1 k).2.2.2 = fF ci k) && decide (((rwT ci).2.1 k).1 = (rwT ci).1) &&
    (if fT ci k = 0 then decide (tyk ci k = .int) else if fT ci k = 3 then decide (tyk ci k = .boolean) else decide (fT ci k = 2) && isRf (tyk ci k)) &&
    (List.range (fN ci)).all (fun j => decide (k = j) || decide (((rwT ci).2.1 k).2.1 ≠ ((rwT ci).2.1 j).2.1)))
theorem k_ok0 : (List.range 10).all kOk = true := by decide +kernel
theorem k_ok {ci : Nat} (h : ci < 10) : kOk ci = true := List.all_eq_true.mp k_ok0 ci (List.mem_range.mpr h)
