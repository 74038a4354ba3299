/-! each method's own words -/
def mP (mi : Nat) : Nat := ((parseMethodDescriptor (mY mi).desc).map (fun d => d.parameters.length)).getD 0
/-- method i's own words: code, static or by the object, selects, initialised -/
def pOk (i : Nat) : Bool := match mtp.getD i (0, 0, 0, 0) with
  | (a, b, c, d) => tAt b (if mK i = 0 then .static (mY i) else .instanceMethod (mY i)) && goodWord (if mK i = 0 then .static (mY i) else .instanceMethod (mY i)) &&
    (decide (mK i ≠ 1) || (decide (lw_tbl[c]? = some (.selects (mY i).cls (mY i) (mY i))) && goodWord (.selects (mY i).cls (mY i) (mY i)))) && tAt d (.initialized (mY i).cls) && goodWord (.initialized (mY i).cls) &&
    decide (cN (mC i) = (mY i).cls) && plainName (mY i).cls && decide ((mY i).cls ≠ "java/lang/invoke/MethodHandle") && decide ((mY i).cls ≠ "java/lang/invoke/VarHandle") && (parseMethodDescriptor (mY i).desc).isSome && decide (mK i = 2 → (mY i).name = "<init>") && decide (mK i < 3) && decide (mL i ≤ 30) && decide (mP i ≤ 7)
theorem p_ok0 : (List.range 80).all pOk = true := by decide +kernel
theorem p_ok1 : ((List.range 80).map (· + 80)).all pOk = true := by decide +kernel
theorem p_ok2 : ((List.range 80).map (· + 160)).all pOk = true := by decide +kernel
theorem p_ok3 : ((List.range 85).map (· + 240)).all pOk = true := by decide +kernel
theorem p_ok {i : Nat} (h : i < 325) : pOk i = true := by
  rcases Nat.lt_or_ge i 80 with h0 | h0
  · exact List.all_eq_true.mp p_ok0 i (List.mem_range.mpr h0)
  rcases Nat.lt_or_ge i 160 with h1 | h1
  · exact List.all_eq_true.mp p_ok1 i (List.mem_map.mpr ⟨i - 80, List.mem_range.mpr (by omega), by omega⟩)
  rcases Nat.lt_or_ge i 240 with h2 | h2
  · exact List.all_eq_true.mp p_ok2 i (List.mem_map.mpr ⟨i - 160, List.mem_range.mpr (by omega), by omega⟩)
  · exact List.all_eq_true.mp p_ok3 i (List.mem_map.mpr ⟨i - 240, List.mem_range.mpr (by omega), by omega⟩)
