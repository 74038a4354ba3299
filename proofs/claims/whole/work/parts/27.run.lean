/-! helps for runs by hand -/
theorem psh_i (v : Int) (r : List AV) : psh (0, v) r = (0, v) :: r := rfl
theorem psh_j (v : Int) (r : List AV) : psh (1, v) r = (1, v) :: r := rfl
theorem psh_r (v : Int) (r : List AV) : psh (2, v) r = (2, v) :: r := rfl
theorem psh_u (r : List AV) : psh uU r = r := rfl
theorem up2_hit {I : II} {a b k j v : Int} (h : b = a) (h' : j = k) : up2 I a k v b j = v := by simp [up2, h, h']
theorem up2_miss {I : II} {a b k j v : Int} (h : ¬ (b = a ∧ j = k)) : up2 I a k v b j = I b j := by simp only [up2, if_neg h]
theorem up2_oth {I : II} {a b k v : Int} (h : b ≠ a) : up2 I a k v b = I b := by funext j; simp [up2, h]
def updR (f : Int → Int) (k v : Int) : Int → Int := fun j => if j = k then v else f j
theorem updR_hit {f : Int → Int} {k j v : Int} (h : j = k) : updR f k v j = v := by simp [updR, h]
theorem updR_miss {f : Int → Int} {k j v : Int} (h : j ≠ k) : updR f k v j = f j := by simp [updR, h]
theorem up2_row {I : II} {a k v : Int} : up2 I a k v a = updR (I a) k v := by funext j; simp [up2, updR]
theorem wl_small {z : Int} (h0 : -9223372036854775808 ≤ z) (h1 : z < 9223372036854775808) : wl z = z := Int64.toInt_ofInt_of_le (by omega) (by omega)
theorem lCmp_lt (x y : Int) : lCmp x y < 0 ↔ wl x < wl y := by
  unfold lCmp; split
  · constructor <;> intro h <;> omega
  · split
    · constructor <;> intro h <;> omega
    · constructor <;> intro h <;> omega
theorem lCmp_gt (x y : Int) : 0 < lCmp x y ↔ wl y < wl x := by
  unfold lCmp; split
  · constructor <;> intro h <;> omega
  · split
    · constructor <;> intro h <;> omega
    · constructor <;> intro h <;> omega
theorem lCmp_eq (x y : Int) : lCmp x y = 0 ↔ wl x = wl y := by
  unfold lCmp; split
  · constructor <;> intro h <;> omega
  · split
    · constructor <;> intro h <;> omega
    · constructor <;> intro h <;> omega
theorem and255 (z : Int) : iAnd z 255 = z % 256 := by
  have h1 : iAnd z 255 = (BitVec.ofInt 32 z &&& 255#32).toInt := rfl
  have h2 : (BitVec.ofInt 32 z &&& 255#32).toNat = (BitVec.ofInt 32 z).toNat % 256 := by
    rw [BitVec.toNat_and]; exact Nat.and_two_pow_sub_one_eq_mod _ 8
  have h3 : (BitVec.ofInt 32 z).toNat = (z % 4294967296).toNat := BitVec.toNat_ofInt ..
  rw [h1, BitVec.toInt_eq_toNat_cond, h2, h3]
  have h4 : 2 * ((z % 4294967296).toNat % 256) < 2 ^ 32 := by omega
  rw [if_pos h4]
  omega
theorem iC_small {z : Int} (h0 : 0 ≤ z) (h1 : z < 65536) : iC z = z := by
  have e1 : iC z = (BitVec.ofInt 32 z % 65536#32).toInt := rfl
  have e2 : (BitVec.ofInt 32 z).toNat = (z % 4294967296).toNat := BitVec.toNat_ofInt ..
  have e3 : (BitVec.ofInt 32 z % 65536#32).toNat = (z % 4294967296).toNat % 65536 := by rw [BitVec.toNat_umod, e2]; rfl
  rw [e1, BitVec.toInt_eq_toNat_cond, e3, if_pos (by omega)]
  omega
section r27
variable {d : Nat} {S : SS} {I : II}
theorem m_in {v lo hi : Int} (h0 : -9223372036854775808 ≤ v) (h1 : v < 9223372036854775808) (h2 : -9223372036854775808 ≤ lo) (h3 : lo < 9223372036854775808) (h4 : -9223372036854775808 ≤ hi) (h5 : hi < 9223372036854775808) :
    ev d 192 0 [(1, v), uU, (1, lo), uU, (1, hi), uU] [] S I = some ((0, if lo ≤ v ∧ v ≤ hi then 1 else 0), S, I) := by
  rw [E192_0]
  simp only [lCmp_lt, lCmp_gt, wl_small h0 h1, wl_small h2 h3, wl_small h4 h5, E192_17]
  by_cases h : v < lo
  · rw [if_pos h, if_neg (by omega), E192_18 (by decide)]
  · by_cases h' : hi < v
    · rw [if_neg h, if_pos h', if_neg (by omega), E192_18 (by decide)]
    · rw [if_neg h, if_neg h', if_pos (by omega), E192_18 (by decide)]
theorem m_flag {v : Int} (h : v = 0 ∨ v = 1) : ev d 199 0 [(0, v)] [] S I = some ((0, v), S, I) := by
  rw [E199_0]
  rcases h with rfl | rfl
  · rw [if_pos (by decide), E199_9]
  · rw [if_neg (by decide), E199_9]
theorem c_add1 {v a : Int} (hT : TA S 1) (h0 : 0 ≤ I 1 1) (h1 : I 1 1 < 80) (h2 : 0 ≤ a) (h3 : a < 100) : ev d 133 14 [(2, 1), (0, v), (0, a)] [] S I =
    ev d 133 14 [(2, 1), (0, v), (0, a + -8)] [] S (up2 (up2 I 2 (I 1 1) (iShr v a % 256)) 1 1 (I 1 1 + 1)) := by
  rw [E133_14 hT, w_small (z := I 1 1) (by omega) (by omega), w_small (z := a) (by omega) (by omega), if_neg (by omega), and255, iC_small (by omega) (by omega), gdR_pos (by omega)]
/-- THE TEXT: a sign word is laid behind it -/
theorem c_add {v : Int} (hT : TA S 1) (h0 : 0 ≤ I 1 1) (h1 : I 1 1 ≤ 80) : ev d 133 0 [(2, 1), (0, v), uU] [] S I =
    if 76 < I 1 1 then some ((0, -1), S, I) else some ((0, I 1 1 + 4), S, up2 (up2 (up2 (up2 (up2 (up2 (up2 (up2 I 2 (I 1 1) (iShr v 24 % 256)) 1 1 (I 1 1 + 1)) 2 (I 1 1 + 1) (iShr v 16 % 256)) 1 1 (I 1 1 + 2)) 2 (I 1 1 + 2) (iShr v 8 % 256)) 1 1 (I 1 1 + 3)) 2 (I 1 1 + 3) (iShr v 0 % 256)) 1 1 (I 1 1 + 4)) := by
  rw [E133_0 hT, w_small (z := I 1 1) (by omega) (by omega)]
  by_cases h : 76 < I 1 1
  · rw [if_pos h, if_pos h]
  · rw [if_neg h, if_neg h]
    rw [c_add1 hT h0 (by omega) (by decide) (by decide)]
    rw [c_add1 hT (by rw [up2_hit rfl rfl]; omega) (by rw [up2_hit rfl rfl]; omega) (by decide) (by decide)]
    rw [c_add1 hT (by rw [up2_hit rfl rfl, up2_hit rfl rfl]; omega) (by rw [up2_hit rfl rfl, up2_hit rfl rfl]; omega) (by decide) (by decide)]
    rw [c_add1 hT (by rw [up2_hit rfl rfl, up2_hit rfl rfl, up2_hit rfl rfl]; omega) (by rw [up2_hit rfl rfl, up2_hit rfl rfl, up2_hit rfl rfl]; omega) (by decide) (by decide)]
    rw [E133_14 hT, if_pos (by decide)]
    simp only [up2_same, Int.add_assoc, Int.reduceAdd, Int.reduceNeg]
end r27
theorem bm_small {z : Int} (h0 : -2147483648 ≤ z) (h1 : z < 2147483648) : z.bmod 4294967296 = z := by
  rw [← w_bmod]; exact w_small h0 h1
theorem iDiv_pos {x y : Int} (hx : 0 ≤ x) (hx1 : x < 2147483648) (hy : 0 < y) (hy1 : y < 2147483648) : iDiv x y = x / y := by
  have e1 : (Int32.ofInt x).toInt = x := w_small (by omega) hx1
  have e2 : (Int32.ofInt y).toInt = y := w_small (by omega) hy1
  have h1 : 0 ≤ x / y := Int.ediv_nonneg hx (by omega)
  have h2 : x / y ≤ x := Int.ediv_le_self _ hx
  rw [iDiv, Int32.toInt_div, e1, e2, Int.tdiv_eq_ediv_of_nonneg hx]
  exact bm_small (by omega) (by omega)
theorem iRem_pos {x y : Int} (hx : 0 ≤ x) (hx1 : x < 2147483648) (hy : 0 < y) (hy1 : y < 2147483648) : iRem x y = x % y := by
  have e1 : (Int32.ofInt x).toInt = x := w_small (by omega) hx1
  have e2 : (Int32.ofInt y).toInt = y := w_small (by omega) hy1
  have h1 : 0 ≤ x / y := Int.ediv_nonneg hx (by omega)
  have h2 : x / y ≤ x := Int.ediv_le_self _ hx
  have h3 : 0 ≤ x % y := Int.emod_nonneg _ (by omega)
  have h4 : x % y < y := Int.emod_lt_of_pos _ hy
  have h5 : x % y + y * (x / y) = x := Int.emod_add_mul_ediv x y
  have h6 : x / y * y = x - x % y := by rw [Int.mul_comm]; omega
  have e3 : (Int32.ofInt x / Int32.ofInt y).toInt = x / y := by
    have := iDiv_pos hx hx1 hy hy1
    exact this
  rw [iRem, Int32.toInt_sub, Int32.toInt_mul, e1, e2, e3, h6]
  rw [show ((2 : Nat) ^ 32) = 4294967296 from rfl, bm_small (z := x - x % y) (by omega) (by omega), bm_small (by omega) (by omega)]
  omega
