/-! numbers packed into one, on the side of the class -/
theorem bv_nat {x : Int} (h0 : 0 ≤ x) (h1 : x < 4294967296) : (BitVec.ofInt 32 x).toNat = x.toNat := by
  rw [BitVec.toNat_ofInt]; omega
theorem bv_int {X : BitVec 32} (h : X.toNat < 2147483648) : X.toInt = (X.toNat : Int) := by
  rw [BitVec.toInt_eq_toNat_cond, if_pos (by omega)]
theorem iShr_eq (x : Int) (k : Nat) (y : Int) (h : iShr x y = ((BitVec.ofInt 32 x).sshiftRight k).toInt) (h0 : 0 ≤ x) (h1 : x < 2147483648) : iShr x y = x / 2 ^ k := by
  have e : (BitVec.ofInt 32 x).toInt = x := by rw [bv_int (by rw [bv_nat h0 (by omega)]; omega), bv_nat h0 (by omega)]; omega
  rw [h, BitVec.toInt_sshiftRight, e, Int.shiftRight_eq_div_pow]; rfl
theorem iShr3 {x : Int} (h0 : 0 ≤ x) (h1 : x < 2147483648) : iShr x 3 = x / 8 := iShr_eq x 3 3 rfl h0 h1
theorem iShr4 {x : Int} (h0 : 0 ≤ x) (h1 : x < 2147483648) : iShr x 4 = x / 16 := iShr_eq x 4 4 rfl h0 h1
theorem iShr7 {x : Int} (h0 : 0 ≤ x) (h1 : x < 2147483648) : iShr x 7 = x / 128 := iShr_eq x 7 7 rfl h0 h1
theorem iShr10 {x : Int} (h0 : 0 ≤ x) (h1 : x < 2147483648) : iShr x 10 = x / 1024 := iShr_eq x 10 10 rfl h0 h1
theorem iShr11 {x : Int} (h0 : 0 ≤ x) (h1 : x < 2147483648) : iShr x 11 = x / 2048 := iShr_eq x 11 11 rfl h0 h1
theorem and15 (z : Int) : iAnd z 15 = z % 16 := by
  have h1 : iAnd z 15 = (BitVec.ofInt 32 z &&& 15#32).toInt := rfl
  have h2 : (BitVec.ofInt 32 z &&& 15#32).toNat = (BitVec.ofInt 32 z).toNat % 16 := by
    rw [BitVec.toNat_and]; exact Nat.and_two_pow_sub_one_eq_mod _ 4
  have h3 : (BitVec.ofInt 32 z).toNat = (z % 4294967296).toNat := BitVec.toNat_ofInt ..
  rw [h1, bv_int (by omega), h2, h3]; omega
theorem and127 (z : Int) : iAnd z 127 = z % 128 := by
  have h1 : iAnd z 127 = (BitVec.ofInt 32 z &&& 127#32).toInt := rfl
  have h2 : (BitVec.ofInt 32 z &&& 127#32).toNat = (BitVec.ofInt 32 z).toNat % 128 := by
    rw [BitVec.toNat_and]; exact Nat.and_two_pow_sub_one_eq_mod _ 7
  have h3 : (BitVec.ofInt 32 z).toNat = (z % 4294967296).toNat := BitVec.toNat_ofInt ..
  rw [h1, bv_int (by omega), h2, h3]; omega
theorem and1 (z : Int) : iAnd z 1 = z % 2 := by
  have h1 : iAnd z 1 = (BitVec.ofInt 32 z &&& 1#32).toInt := rfl
  have h2 : (BitVec.ofInt 32 z &&& 1#32).toNat = (BitVec.ofInt 32 z).toNat % 2 := by
    rw [BitVec.toNat_and]; exact Nat.and_two_pow_sub_one_eq_mod _ 1
  have h3 : (BitVec.ofInt 32 z).toNat = (z % 4294967296).toNat := BitVec.toNat_ofInt ..
  rw [h1, bv_int (by omega), h2, h3]; omega
theorem iOr_nat {x y : Int} (h0 : 0 ≤ x) (h1 : x < 2147483648) (h2 : 0 ≤ y) (h3 : y < 2147483648) : iOr x y = ((x.toNat ||| y.toNat : Nat) : Int) := by
  have e1 : iOr x y = (BitVec.ofInt 32 x ||| BitVec.ofInt 32 y).toInt := rfl
  have e2 : (BitVec.ofInt 32 x ||| BitVec.ofInt 32 y).toNat = x.toNat ||| y.toNat := by rw [BitVec.toNat_or, bv_nat h0 (by omega), bv_nat h2 (by omega)]
  have e3 : x.toNat ||| y.toNat < 2 ^ 31 := Nat.or_lt_two_pow (by omega) (by omega)
  rw [e1, bv_int (by rw [e2]; omega), e2]
theorem iAnd_nat {x y : Int} (h0 : 0 ≤ x) (h1 : x < 2147483648) (h2 : 0 ≤ y) (h3 : y < 2147483648) : iAnd x y = ((x.toNat &&& y.toNat : Nat) : Int) := by
  have e1 : iAnd x y = (BitVec.ofInt 32 x &&& BitVec.ofInt 32 y).toInt := rfl
  have e2 : (BitVec.ofInt 32 x &&& BitVec.ofInt 32 y).toNat = x.toNat &&& y.toNat := by rw [BitVec.toNat_and, bv_nat h0 (by omega), bv_nat h2 (by omega)]
  have e3 : x.toNat &&& y.toNat ≤ x.toNat := Nat.and_le_left
  rw [e1, bv_int (by rw [e2]; omega), e2]
/-- low bits and high bits apart: or is plus -/
theorem iOr_add {x y : Int} (k : Nat) (h0 : 0 ≤ x) (h1 : x < 2 ^ k) (h2 : 0 ≤ y) (h3 : y * 2 ^ k < 2147483648) (hx : x < 2147483648) : iOr x (y * 2 ^ k) = x + y * 2 ^ k := by
  have p : (0 : Int) < 2 ^ k := Int.pow_pos (by decide)
  have q : 0 ≤ y * 2 ^ k := Int.mul_nonneg h2 (by omega)
  rw [iOr_nat h0 hx q h3]
  have e1 : (y * 2 ^ k).toNat = y.toNat <<< k := by
    rw [Nat.shiftLeft_eq, Int.toNat_mul h2 (by omega)]
    rfl
  have e2 : x.toNat < 2 ^ k := by
    have : ((x.toNat : Nat) : Int) < ((2 ^ k : Nat) : Int) := by
      rw [Int.toNat_of_nonneg h0]; exact_mod_cast h1
    exact_mod_cast this
  rw [e1, Nat.or_comm, ← Nat.shiftLeft_add_eq_or_of_lt e2]
  have e3 : ((y.toNat <<< k : Nat) : Int) = y * 2 ^ k := by rw [← e1]; exact Int.toNat_of_nonneg q
  rw [Int.natCast_add, e3, Int.toNat_of_nonneg h0]; omega
theorem iShl_eq (x : Int) (k : Nat) (y : Int) (h : iShl x y = (BitVec.ofInt 32 x <<< k).toInt) (h0 : 0 ≤ x) (h1 : x * 2 ^ k < 2147483648) (h2 : x < 4294967296) : iShl x y = x * 2 ^ k := by
  have p : (0 : Int) < 2 ^ k := Int.pow_pos (by decide)
  have q : 0 ≤ x * 2 ^ k := Int.mul_nonneg h0 (by omega)
  have e1 : (x * 2 ^ k).toNat = x.toNat <<< k := by
    rw [Nat.shiftLeft_eq, Int.toNat_mul h0 (by omega)]
    rfl
  have e2 : (BitVec.ofInt 32 x <<< k).toNat = (x * 2 ^ k).toNat := by
    rw [BitVec.toNat_shiftLeft, bv_nat h0 h2, ← e1]
    exact Nat.mod_eq_of_lt (by omega)
  rw [h, bv_int (by rw [e2]; omega), e2]; omega
theorem iShl3 {x : Int} (h0 : 0 ≤ x) (h1 : x < 100000) : iShl x 3 = x * 2 ^ 3 := iShl_eq x 3 3 rfl h0 (by omega) (by omega)
theorem iShl4 {x : Int} (h0 : 0 ≤ x) (h1 : x < 100000) : iShl x 4 = x * 2 ^ 4 := iShl_eq x 4 4 rfl h0 (by omega) (by omega)
theorem iShl7 {x : Int} (h0 : 0 ≤ x) (h1 : x < 100000) : iShl x 7 = x * 2 ^ 7 := iShl_eq x 7 7 rfl h0 (by omega) (by omega)
theorem iShl10 {x : Int} (h0 : 0 ≤ x) (h1 : x < 100000) : iShl x 10 = x * 2 ^ 10 := iShl_eq x 10 10 rfl h0 (by omega) (by omega)
theorem iShl11 {x : Int} (h0 : 0 ≤ x) (h1 : x < 100000) : iShl x 11 = x * 2 ^ 11 := iShl_eq x 11 11 rfl h0 (by omega) (by omega)
/-- a COMMAND, a completion in one number -/
def pkC (id op bl va ca : Int) : Int := id + 16 * op + 128 * bl + 2048 * va + 262144 * ca
def pkD (q id st re : Int) : Int := q + 8 * id + 128 * st + 1024 * re
theorem pack_cmd {id op bl va : Int} (h0 : 0 ≤ id) (h1 : id < 16) (h2 : 0 ≤ op) (h3 : op < 8) (h4 : 0 ≤ bl) (h5 : bl < 16) (h6 : 0 ≤ va) (h7 : va < 128) :
    iOr (iOr (iOr id (iShl op 4)) (iShl bl 7)) (iShl va 11) = pkC id op bl va 0 := by
  rw [iShl4 h2 (by omega), iShl7 h4 (by omega), iShl11 h6 (by omega), iOr_add 4 h0 (by omega) h2 (by omega) (by omega), iOr_add 7 (by omega) (by omega) h4 (by omega) (by omega), iOr_add 11 (by omega) (by omega) h6 (by omega) (by omega)]
  unfold pkC; omega
theorem pack_done {q id st re : Int} (h0 : 0 ≤ q) (h1 : q < 8) (h2 : 0 ≤ id) (h3 : id < 16) (h4 : 0 ≤ st) (h5 : st < 8) (h6 : 0 ≤ re) (h7 : re < 128) :
    iOr (iOr (iOr q (iShl id 3)) (iShl st 7)) (iShl re 10) = pkD q id st re := by
  rw [iShl3 h2 (by omega), iShl7 h4 (by omega), iShl10 h6 (by omega), iOr_add 3 h0 (by omega) h2 (by omega) (by omega), iOr_add 7 (by omega) (by omega) h4 (by omega) (by omega), iOr_add 10 (by omega) (by omega) h6 (by omega) (by omega)]
  unfold pkD; omega
section r35
variable {d : Nat} {S : SS} {I : II} {id op bl va ca q st re : Int}
/-- bounds of a COMMAND's numbers -/
def bdC (id op bl va ca : Int) : Prop := 0 ≤ id ∧ id < 16 ∧ 0 ≤ op ∧ op < 8 ∧ 0 ≤ bl ∧ bl < 16 ∧ 0 ≤ va ∧ va < 128 ∧ 0 ≤ ca ∧ ca < 2
def bdD (q id st re : Int) : Prop := 0 ≤ q ∧ q < 8 ∧ 0 ≤ id ∧ id < 16 ∧ 0 ≤ st ∧ st < 8 ∧ 0 ≤ re ∧ re < 128
theorem pkC_b (h : bdC id op bl va ca) : 0 ≤ pkC id op bl va ca ∧ pkC id op bl va ca < 524288 := by unfold bdC at h; unfold pkC; omega
theorem pkD_b (h : bdD q id st re) : 0 ≤ pkD q id st re ∧ pkD q id st re < 131072 := by unfold bdD at h; unfold pkD; omega
theorem c_cid (h : bdC id op bl va ca) : ev d 3 0 [(0, pkC id op bl va ca)] [] S I = some ((0, id), S, I) := by
  have e : pkC id op bl va ca % 16 = id := by unfold bdC at h; unfold pkC; omega
  rw [E3_0, and15, e]
theorem c_cop (h : bdC id op bl va ca) : ev d 2 0 [(0, pkC id op bl va ca)] [] S I = some ((0, op), S, I) := by
  have b := pkC_b h
  have e : pkC id op bl va ca / 16 % 8 = op := by unfold bdC at h; unfold pkC; omega
  rw [E2_0, iShr4 b.1 (by omega), and7, e]
theorem c_cbl (h : bdC id op bl va ca) : ev d 1 0 [(0, pkC id op bl va ca)] [] S I = some ((0, bl), S, I) := by
  have b := pkC_b h
  have e : pkC id op bl va ca / 128 % 16 = bl := by unfold bdC at h; unfold pkC; omega
  rw [E1_0, iShr7 b.1 (by omega), and15, e]
theorem c_cva (h : bdC id op bl va ca) : ev d 4 0 [(0, pkC id op bl va ca)] [] S I = some ((0, va), S, I) := by
  have b := pkC_b h
  have e : pkC id op bl va ca / 2048 % 128 = va := by unfold bdC at h; unfold pkC; omega
  rw [E4_0, iShr11 b.1 (by omega), and127, e]
theorem and_called (h : bdC id op bl va ca) : iAnd (pkC id op bl va ca) 262144 = 262144 * ca := by
  have b := pkC_b h
  rw [iAnd_nat b.1 (by omega) (by decide) (by decide), show (262144 : Int).toNat = 2 ^ 18 from rfl]
  have e : (pkC id op bl va ca).toNat.testBit 18 = decide (ca = 1) := by
    rw [Nat.testBit_eq_decide_div_mod_eq]
    have : (pkC id op bl va ca).toNat / 2 ^ 18 % 2 = ca.toNat := by unfold bdC at h; unfold pkC; omega
    rw [this]
    unfold bdC at h
    by_cases hc : ca = 1
    · subst hc; rfl
    · have : ca = 0 := by omega
      subst this; rfl
  have key : (pkC id op bl va ca).toNat &&& 2 ^ 18 = 2 ^ 18 * ca.toNat := by
    apply Nat.eq_of_testBit_eq
    intro i
    rw [Nat.testBit_and, Nat.testBit_two_pow]
    unfold bdC at h
    by_cases hi : 18 = i
    · subst hi
      rw [e]
      rcases (by omega : ca = 0 ∨ ca = 1) with rfl | rfl <;> decide
    · rcases (by omega : ca = 0 ∨ ca = 1) with rfl | rfl
      · simp [hi]
      · rw [show (2 : Nat) ^ 18 * (1 : Int).toNat = 2 ^ 18 from rfl, Nat.testBit_two_pow]; simp [hi]
  rw [key]
  unfold bdC at h
  rcases (by omega : ca = 0 ∨ ca = 1) with rfl | rfl <;> decide
theorem c_called (h : bdC id op bl va ca) : ev d 5 0 [(0, pkC id op bl va ca)] [] S I = some ((0, ca), S, I) := by
  rw [E5_0, and_called h]
  unfold bdC at h
  rcases (by omega : ca = 0 ∨ ca = 1) with rfl | rfl
  · rw [if_pos (by decide), E5_12 (by decide)]
  · rw [if_neg (by decide), E5_12 (by decide)]
theorem or_called (h : bdC id op bl va 0) : iOr (pkC id op bl va 0) 262144 = pkC id op bl va 1 := by
  have e : pkC id op bl va 0 < 2 ^ 18 := by unfold bdC at h; unfold pkC; omega
  have b := pkC_b h
  rw [show (262144 : Int) = 1 * 2 ^ 18 from rfl, iOr_add 18 b.1 e (by decide) (by decide) (by omega)]
  unfold pkC; omega
theorem c_dq (h : bdD q id st re) : ev d 8 0 [(0, pkD q id st re)] [] S I = some ((0, q), S, I) := by
  have e : pkD q id st re % 8 = q := by unfold bdD at h; unfold pkD; omega
  rw [E8_0, and7, e]
theorem c_did (h : bdD q id st re) : ev d 10 0 [(0, pkD q id st re)] [] S I = some ((0, id), S, I) := by
  have b := pkD_b h
  have e : pkD q id st re / 8 % 16 = id := by unfold bdD at h; unfold pkD; omega
  rw [E10_0, iShr3 b.1 (by omega), and15, e]
theorem c_dst (h : bdD q id st re) : ev d 11 0 [(0, pkD q id st re)] [] S I = some ((0, st), S, I) := by
  have b := pkD_b h
  have e : pkD q id st re / 128 % 8 = st := by unfold bdD at h; unfold pkD; omega
  rw [E11_0, iShr7 b.1 (by omega), and7, e]
theorem c_dre (h : bdD q id st re) : ev d 9 0 [(0, pkD q id st re)] [] S I = some ((0, re), S, I) := by
  have b := pkD_b h
  have e : pkD q id st re / 1024 % 128 = re := by unfold bdD at h; unfold pkD; omega
  rw [E9_0, iShr10 b.1 (by omega), and127, e]
end r35
