/-! how many bits; room */ -/
def popN (x : Nat) : Nat :=
  let i1 := x - ((x / 2) &&& 1431655765)
  let i2 := (i1 &&& 858993459) + ((i1 / 4) &&& 858993459)
  let i3 := (i2 + i2 / 16) &&& 252645135
  let i4 := i3 + i3 / 256
  let i5 := i4 + i4 / 65536
  i5 &&& 63
def bsN (x : Nat) : Nat → Nat
  | 0 => 0
  | n + 1 => (if x.testBit n = true then 1 else 0) + bsN x n
def bsD (x : Nat) : Nat → Nat
  | 0 => 0
  | n + 1 => x / 2 ^ n % 2 + bsD x n
def chk79 : Nat → Nat → Bool
  | 0, _ => true
  | n + 1, x => Nat.beq (popN x) (bsD x 16) && chk79 n (x + 1)
theorem chk79_0 : chk79 4096 0 = true := by decide +kernel
theorem chk79_1 : chk79 4096 4096 = true := by decide +kernel
theorem chk79_2 : chk79 4096 8192 = true := by decide +kernel
theorem chk79_3 : chk79 4096 12288 = true := by decide +kernel
theorem chk79_4 : chk79 4096 16384 = true := by decide +kernel
theorem chk79_5 : chk79 4096 20480 = true := by decide +kernel
theorem chk79_6 : chk79 4096 24576 = true := by decide +kernel
theorem chk79_7 : chk79 4096 28672 = true := by decide +kernel
theorem chk79_8 : chk79 4096 32768 = true := by decide +kernel
theorem chk79_9 : chk79 4096 36864 = true := by decide +kernel
theorem chk79_10 : chk79 4096 40960 = true := by decide +kernel
theorem chk79_11 : chk79 4096 45056 = true := by decide +kernel
theorem chk79_12 : chk79 4096 49152 = true := by decide +kernel
theorem chk79_13 : chk79 4096 53248 = true := by decide +kernel
theorem chk79_14 : chk79 4096 57344 = true := by decide +kernel
theorem chk79_15 : chk79 4096 61440 = true := by decide +kernel
theorem chk79_of : ∀ (n x y : Nat), chk79 n x = true → x ≤ y → y < x + n → popN y = bsD y 16 := by
  intro n
  induction n with
  | zero => intro x y _ h1 h2; omega
  | succ n ih =>
    intro x y h h1 h2
    unfold chk79 at h
    rw [Bool.and_eq_true] at h
    by_cases g : x = y
    · subst g; exact Nat.eq_of_beq_eq_true h.1
    · exact ih (x + 1) y h.2 (by omega) (by omega)
theorem bsD_eq (x : Nat) : ∀ n, bsD x n = bsN x n := by
  intro n
  induction n with
  | zero => rfl
  | succ n ih =>
    show x / 2 ^ n % 2 + bsD x n = (if x.testBit n = true then 1 else 0) + bsN x n
    rw [ih]
    congr 1
    rw [Nat.testBit_eq_decide_div_mod_eq]
    by_cases g : x / 2 ^ n % 2 = 1
    · rw [g]; rfl
    · have : x / 2 ^ n % 2 = 0 := by omega
      rw [this]; rfl
theorem pop_eq {x : Nat} (h : x < 65536) : popN x = bsN x 16 := by
  rw [← bsD_eq]
  by_cases g0 : x < 4096
  · exact chk79_of 4096 0 x chk79_0 (by omega) (by omega)
  by_cases g1 : x < 8192
  · exact chk79_of 4096 4096 x chk79_1 (by omega) (by omega)
  by_cases g2 : x < 12288
  · exact chk79_of 4096 8192 x chk79_2 (by omega) (by omega)
  by_cases g3 : x < 16384
  · exact chk79_of 4096 12288 x chk79_3 (by omega) (by omega)
  by_cases g4 : x < 20480
  · exact chk79_of 4096 16384 x chk79_4 (by omega) (by omega)
  by_cases g5 : x < 24576
  · exact chk79_of 4096 20480 x chk79_5 (by omega) (by omega)
  by_cases g6 : x < 28672
  · exact chk79_of 4096 24576 x chk79_6 (by omega) (by omega)
  by_cases g7 : x < 32768
  · exact chk79_of 4096 28672 x chk79_7 (by omega) (by omega)
  by_cases g8 : x < 36864
  · exact chk79_of 4096 32768 x chk79_8 (by omega) (by omega)
  by_cases g9 : x < 40960
  · exact chk79_of 4096 36864 x chk79_9 (by omega) (by omega)
  by_cases g10 : x < 45056
  · exact chk79_of 4096 40960 x chk79_10 (by omega) (by omega)
  by_cases g11 : x < 49152
  · exact chk79_of 4096 45056 x chk79_11 (by omega) (by omega)
  by_cases g12 : x < 53248
  · exact chk79_of 4096 49152 x chk79_12 (by omega) (by omega)
  by_cases g13 : x < 57344
  · exact chk79_of 4096 53248 x chk79_13 (by omega) (by omega)
  by_cases g14 : x < 61440
  · exact chk79_of 4096 57344 x chk79_14 (by omega) (by omega)
  by_cases g15 : x < 65536
  · exact chk79_of 4096 61440 x chk79_15 (by omega) (by omega)
  omega
theorem iUshr_eq (x : Int) (k : Nat) (y : Int) (h : iUshr x y = ((BitVec.ofInt 32 x) >>> k).toInt) (h0 : 0 ≤ x) (h1 : x < 2147483648) : iUshr x y = x / 2 ^ k := by
  have e : ((BitVec.ofInt 32 x) >>> k).toNat = x.toNat / 2 ^ k := by rw [BitVec.toNat_ushiftRight, bv_nat h0 (by omega), Nat.shiftRight_eq_div_pow]
  have l : x.toNat / 2 ^ k ≤ x.toNat := Nat.div_le_self _ _
  rw [h, bv_int (by rw [e]; omega), e]
  have : x = (x.toNat : Int) := by omega
  rw [this]; simp
theorem iUshrN {x k : Nat} {y : Int} (h : iUshr (x : Int) y = ((BitVec.ofInt 32 (x : Int)) >>> k).toInt) (h1 : x < 2147483648) : iUshr (x : Int) y = ((x / 2 ^ k : Nat) : Int) := by
  rw [iUshr_eq (x : Int) k y h (by omega) (by omega)]; simp
theorem iAndN {x : Nat} {y : Nat} (h1 : x < 2147483648) (h2 : y < 2147483648) : iAnd (x : Int) (y : Int) = ((x &&& y : Nat) : Int) := by
  rw [iAnd_nat (by omega) (by omega) (by omega) (by omega)]; simp
section r79
variable {d : Nat} {S : SS} {I J : II} {C : CF} {ρ : RW} {b q N : Int}
theorem c_bc {x : Nat} (hx : x < 65536) : ev d 311 0 [(0, (x : Int))] [] S I = some ((0, (bsN x 16 : Int)), S, I) := by
  have u1 : iUshr (x : Int) 1 = ((x / 2 : Nat) : Int) := iUshrN (k := 1) rfl (by omega)
  have m1 : iAnd (iUshr (x : Int) 1) 1431655765 = ((x / 2 &&& 1431655765 : Nat) : Int) := by rw [u1]; exact iAndN (by omega) (by decide)
  have l1 : x / 2 &&& 1431655765 ≤ x / 2 := Nat.and_le_left
  have i1 : (x : Int) - iAnd (iUshr (x : Int) 1) 1431655765 = ((x - (x / 2 &&& 1431655765) : Nat) : Int) := by rw [m1]; omega
  generalize hn1 : x - (x / 2 &&& 1431655765) = n1 at *
  have b1 : n1 < 65536 := by omega
  have i2a : iAnd (n1 : Int) 858993459 = ((n1 &&& 858993459 : Nat) : Int) := iAndN (by omega) (by decide)
  have i2u : iUshr (n1 : Int) 2 = ((n1 / 4 : Nat) : Int) := iUshrN (k := 2) rfl (by omega)
  have i2b : iAnd (iUshr (n1 : Int) 2) 858993459 = ((n1 / 4 &&& 858993459 : Nat) : Int) := by rw [i2u]; exact iAndN (by omega) (by decide)
  have l2 : n1 &&& 858993459 ≤ n1 := Nat.and_le_left
  have l3 : n1 / 4 &&& 858993459 ≤ n1 / 4 := Nat.and_le_left
  have i2 : iAnd (n1 : Int) 858993459 + iAnd (iUshr (n1 : Int) 2) 858993459 = (((n1 &&& 858993459) + (n1 / 4 &&& 858993459) : Nat) : Int) := by rw [i2a, i2b]; omega
  generalize hn2 : (n1 &&& 858993459) + (n1 / 4 &&& 858993459) = n2 at *
  have b2 : n2 < 131072 := by omega
  have i3u : iUshr (n2 : Int) 4 = ((n2 / 16 : Nat) : Int) := iUshrN (k := 4) rfl (by omega)
  have i3s : (n2 : Int) + iUshr (n2 : Int) 4 = ((n2 + n2 / 16 : Nat) : Int) := by rw [i3u]; omega
  have i3 : iAnd ((n2 : Int) + iUshr (n2 : Int) 4) 252645135 = ((n2 + n2 / 16 &&& 252645135 : Nat) : Int) := by rw [i3s]; exact iAndN (by omega) (by decide)
  have l4 : n2 + n2 / 16 &&& 252645135 ≤ n2 + n2 / 16 := Nat.and_le_left
  generalize hn3 : n2 + n2 / 16 &&& 252645135 = n3 at *
  have i4u : iUshr (n3 : Int) 8 = ((n3 / 256 : Nat) : Int) := iUshrN (k := 8) rfl (by omega)
  have i4 : (n3 : Int) + iUshr (n3 : Int) 8 = ((n3 + n3 / 256 : Nat) : Int) := by rw [i4u]; omega
  generalize hn4 : n3 + n3 / 256 = n4 at *
  have i5u : iUshr (n4 : Int) 16 = ((n4 / 65536 : Nat) : Int) := iUshrN (k := 16) rfl (by omega)
  have i5 : (n4 : Int) + iUshr (n4 : Int) 16 = ((n4 + n4 / 65536 : Nat) : Int) := by rw [i5u]; omega
  generalize hn5 : n4 + n4 / 65536 = n5 at *
  have i6 : iAnd (n5 : Int) 63 = ((n5 &&& 63 : Nat) : Int) := iAndN (by omega) (by decide)
  have pp : n5 &&& 63 = popN x := by
    unfold popN
    simp only [hn1, hn2, hn3, hn4, hn5]
  rw [E311_0, i1, i2, i3, i4, i5, i6, pp, pop_eq hx]
/-- how many IDS are used */ -/
def usd (ρ : RW) (q : Int) : Int := sm (fun id => if usedS ρ q id = true then 1 else 0) 16 0
theorem bsN_sm {x : Nat} {f : Int → Int} (h : ∀ j : Nat, j < 16 → f (j : Int) = if x.testBit j = true then 1 else 0) : ∀ n : Nat, n ≤ 16 → (bsN x n : Int) = sm f n 0 := by
  intro n
  induction n with
  | zero => intro _; rfl
  | succ n ih =>
    intro hn
    have hh := h n (by omega)
    rw [sm_last, ← ih (by omega), Int.zero_add, hh]
    have e : bsN x (n + 1) = (if x.testBit n = true then 1 else 0) + bsN x n := rfl
    rw [e]
    by_cases g : x.testBit n = true
    · rw [if_pos g, if_pos g]; omega
    · rw [if_neg g, if_neg g]; omega
theorem c_notTaken (hL : LA S (b + 11 + 4 * q)) (hl : laneR C I (b + 11 + 4 * q) ρ q) (hb : bitsR I b ρ) (hW : W0 C ρ) (h0 : 0 ≤ q) (h1 : q < 5) : ev (d + 1) 95 0 [(2, b + 11 + 4 * q)] [] S I = some ((0, usd ρ q), S, I) := by
  obtain ⟨l0, l1⟩ := hl.2.2.2
  have e : I (b + 11 + 4 * q) 13 = ((I (b + 11 + 4 * q) 13).toNat : Int) := by omega
  rw [E95_0 hL, e, c_bc (by omega)]
  simp only [Option.bind_some, psh_i]
  rw [E95_7]
  have := bsN_sm (x := (I (b + 11 + 4 * q) 13).toNat) (f := fun id => if usedS ρ q id = true then 1 else 0) (fun j hj => by
    have hb' := hb q (j : Int) h0 h1 (by omega) (by omega)
    rw [Int.toNat_natCast] at hb'
    have u := used_cnt hW h0 h1 (id := (j : Int)) (by omega) (by omega)
    rw [hb']
    by_cases g : usedS ρ q (j : Int) = true
    · rw [if_pos g, if_pos (decide_eq_true (u.mp g))]
    · rw [if_neg g, if_neg (fun g2 => g (u.mpr (of_decide_eq_true g2)))]) 16 (by omega)
  rw [this]; rfl
theorem usd_b : 0 ≤ usd ρ q ∧ usd ρ q ≤ 16 := by
  refine ⟨sm_nonneg _ _ (fun j _ _ => ite01), ?_⟩
  have := sm_le (f := fun id => if usedS ρ q id = true then (1 : Int) else 0) (g := fun _ => 1) 16 0 (fun j _ _ => by split <;> omega)
  rw [sm_const] at this
  unfold usd; omega
theorem m_room1 (hM : MA S 427) (hC : Cn ρ) (h0 : 0 ≤ q) (h1 : q < 5) {s : Int} : ∀ (n : Nat) (k m : Int) (I : II), I 438 = ρ → 0 ≤ k → k ≤ 16 → n = (16 - k).toNat →
    ev (d + 4) 276 49 [(2, 427), (0, q), (0, s), (0, m), (0, k)] [] S I = ev (d + 4) 276 49 [(2, 427), (0, q), (0, s), (0, m + (n - sm (fun id => if usedS ρ q id = true then 1 else 0) n k)), (0, 16)] [] S I := by
  have hK := isRw_K hM (Or.inl rfl : isRw 438)
  intro n
  induction n with
  | zero =>
    intro k m I h k0 k1 hn
    have : k = 16 := by omega
    subst this
    simp [sm]
  | succ n ih =>
    intro k m I h k0 k1 hn
    have f0 : ∀ v : Int, (v = 0 ∨ v = 1) → ev (d + 3) 199 0 [(0, v)] [] S I = some ((0, v), S, I) := fun v hv => m_flag hv
    rw [E276_49 hM, w_small (z := k) (by omega) (by omega), if_pos (by omega), m_used (d := d) hK (by rw [h]; exact hC) h0 h1 ⟨by omega, by omega⟩, h]
    simp only [Option.bind_some, psh_i]
    rw [E276_67, E276_75, E276_75, f0 1 (Or.inr rfl), f0 0 (Or.inl rfl), sm_succ]
    simp only [Option.bind_some, psh_i]
    rw [E276_78, E276_78, ih (k + 1) _ I h (by omega) (by omega) (by omega), ih (k + 1) _ I h (by omega) (by omega) (by omega)]
    by_cases g : usedS ρ q k = true
    · rw [if_pos g, if_neg (by decide)]
      rw [show m + 0 + ((n : Int) - sm (fun id => if usedS ρ q id = true then 1 else 0) n (k + 1)) = m + (((n + 1 : Nat) : Int) - (1 + sm (fun id => if usedS ρ q id = true then 1 else 0) n (k + 1))) by omega]
    · rw [if_neg g, if_pos (by decide)]
      rw [show m + 1 + ((n : Int) - sm (fun id => if usedS ρ q id = true then 1 else 0) n (k + 1)) = m + (((n + 1 : Nat) : Int) - (0 + sm (fun id => if usedS ρ q id = true then 1 else 0) n (k + 1))) by omega]
theorem call_room (hS : SH S) (h : ST N I) (hN : N < 70000000) (hq : isI q) : ∃ r I1 I2, ev (d + 100) 165 0 [(2, 0), (0, q), uU] [] S I = some ((0, r), S, I1) ∧ ev (d + 100) 276 0 [(2, 427), (0, q), uU, uU, uU] [] S I1 = some ((0, r), S, I2) ∧ ST (N + 100000) I2 := by
  obtain ⟨hQ, hM⟩ := hS
  have hk := h.2.2.2.1.1
  have hn5 := hk.2.1
  have hD := h.2.2.2.1.2
  have hB := h.2.2.2.2.2.2.2.1
  have hK := isRw_K hM (Or.inl rfl : isRw 438)
  have e1 := E165_0 (d := d + 99) (I := I) (a1 := q) hQ
  rw [c_lane (DA5 hQ) hD.1.1 hk hq] at e1
  simp only [Option.bind_some, psh_r] at e1
  have rf : ∀ J : II, TF I J → ev (d + 100) 276 0 [(2, 427), (0, q), uU, uU, uU] [] S J = ev (d + 100) 276 10 [(2, 427), (0, q), uU, uU, uU] [(0, if 0 ≤ q ∧ q < (cfM I).1 then 1 else 0)] S (up2 J 427 0 0) := by
    intro J hJ
    rw [E276_0 hM, m_isQ0 (d := d + 98) hM (by rw [TF_cfM hJ]; exact hk) hq, TF_cfM hJ]
    simp only [Option.bind_some, psh_i]
  by_cases g : 0 ≤ q ∧ q < (cfM I).1
  · have q5 : q < 5 := by omega
    have kk := hk.2.2 q g.1 g.2
    have hL := DA_lane (DA5 hQ) g.1 q5
    have hl := hD.1.2.2.2.2.1 q g.1 q5
    have qo := hD.2.1.1.1 q g.1 q5
    have c := qo.1
    unfold cntsOK at c
    have b0 := hB (89 * q)
    have b4 := hB (89 * q + 4)
    have ub := usd_b (ρ := I 438) (q := q)
    obtain ⟨k0, k1, k2, k3⟩ := hl.1.1 g.2
    have lanes : ∀ J : II, TF I J → laneR (cfM I) J (5 + 11 + 4 * q) (I 438) q ∧ bitsR J 5 (I 438) := fun J hJ => ⟨laneR_congr g.1 q5 (fun x x0 x1 => TF_hi hJ (by omega)) (fun _ _ _ => rfl) hl, bitsR_congr (fun q' x0 x1 => by rw [TF_hi hJ (by omega)]) (fun _ => rfl) hD.1.2.2.2.2.2⟩
    have rs : ∀ J : II, TF I J → ev (d + 99) 77 0 [(2, 5 + 11 + 4 * q)] [] S J = some ((0, (cfM I).2.1 q - 1 - (I 438 (89 * q) - I 438 (89 * q + 4))), S, J) := fun J hJ => by
      obtain ⟨k0', _, _, _⟩ := (lanes J hJ).1.1.1 g.2
      rw [E77_0 hL, k0', (lanes J hJ).1.1.2.2.1, (lanes J hJ).1.1.2.2.2.2.2.2.1]
    have ri : ∀ J : II, TF I J → ev (d + 99) 98 0 [(2, 5 + 11 + 4 * q)] [] S J = some ((0, 16 - usd (I 438) q), S, J) := fun J hJ => by
      rw [E98_0 hL, c_notTaken (d := d + 97) hL (lanes J hJ).1 (lanes J hJ).2 hD.2.1.1 g.1 q5]
      simp only [Option.bind_some, psh_i]
      rw [E98_6]
    generalize hs : (cfM I).2.1 q - 1 - (I 438 (89 * q) - I 438 (89 * q + 4)) = s at rs
    have sb : -1073741824 < s ∧ s < 1073741824 := by omega
    obtain ⟨A, a1, a2, a3⟩ := c_tell2 (d := d + 97) (S := S) (I := I) (x := s) (y := 16 - usd (I 438) q) (RA3 hQ)
    rw [if_pos g, E165_8 (Or.inr hL) hQ, if_neg (by omega), rs I TF_refl] at e1
    simp only [Option.bind_some, psh_i] at e1
    rw [E165_23 hL, ri I TF_refl, w_small (z := s) (by omega) (by omega)] at e1
    simp only [Option.bind_some, psh_i] at e1
    rw [E165_28 (RA3 hQ), w_small (z := 16 - usd (I 438) q) (by omega) (by omega), a1] at e1
    simp only [Option.bind_some, psh_u] at e1
    rw [E165_32 hL, rs A a3] at e1
    simp only [Option.bind_some, psh_i] at e1
    rw [E165_36 hL, ri A a3] at e1
    simp only [Option.bind_some, psh_i] at e1
    rw [E165_40] at e1
    have x38 : up2 A 427 0 0 438 = I 438 := by rw [up2_oth (by decide), TF_hi a3 (by decide)]
    have x434 : up2 A 427 0 0 434 = I 434 := by rw [up2_oth (by decide), TF_hi a3 (by decide)]
    have hC := WF_Cn hD.2.1.1 hB (by omega)
    obtain ⟨B, b1, b2, b3⟩ := m_next (d := d + 99) (S := S) (g := updR (updR (fun _ => 0) 0 s) 1 (16 - usd (I 438) q)) (n := 0) (x := s) (I := up2 (up2 A 427 0 0) 427 1 0) hM MD_0 (by decide) (by decide) (by rw [updR_miss (by decide), updR_hit rfl])
    obtain ⟨B2, b4', b5, b6⟩ := m_next (d := d + 99) (S := S) (g := updR (updR (fun _ => 0) 0 s) 1 (16 - usd (I 438) q)) (n := 1) (x := 16 - usd (I 438) q) (I := B) hM b2 (by decide) (by decide) (by rw [updR_hit rfl])
    refine ⟨_, A, B2, e1, ?_, tl_ST h a3 a2 (fun x x0 x1 => by rw [b6.2 x x0 x1, b3.2 x x0 x1, up2_oth x0, up2_oth x0]) (fun k k0 k1 => by rw [b6.1 k k1, b3.1 k k1, up2_miss (by omega), up2_miss (by omega)]) b5 (by decide) (by decide)⟩
    have es : I 434 q - 1 - I 438 (89 * q) + I 438 (89 * q + 4) = s := by
      have : (cfM I).2.1 q = I 434 q := rfl
      omega
    rw [rf A a3, E276_10 hM, if_pos g, if_neg (by decide), w_small hq.1 hq.2, gdR_pos (by omega), m_of hK (by omega) (by omega), x38, x434]
    simp only [Option.bind_some, psh_i, Int.add_zero]
    rw [E276_32 hM, m_of hK (by omega) (by omega), x38]
    simp only [Option.bind_some, psh_i]
    rw [E276_42, es, m_room1 (d := d + 96) hM hC g.1 q5 16 0 0 (up2 A 427 0 0) x38 (by decide) (by decide) (by decide), E276_49 hM, w_small (z := 16) (by decide) (by decide), if_neg (by decide), w_small (z := s) (by omega) (by omega), b1]
    simp only [Option.bind_some, psh_u]
    rw [show (0 : Int) + (((16 : Nat) : Int) - sm (fun id => if usedS (I 438) q id = true then 1 else 0) 16 0) = 16 - usd (I 438) q by unfold usd; omega, E276_97 hM, w_small (z := 16 - usd (I 438) q) (by omega) (by omega), b4']
    simp only [Option.bind_some, psh_u]
    rw [E276_103, w_small (z := 16 - usd (I 438) q) (by omega) (by omega), w_small (z := s) (by omega) (by omega)]
  · refine ⟨-1, I, _, ?_, ?_, ST_le (ST_0 (v := 0) h) (by omega)⟩
    · rw [e1, if_neg g, E165_8 (Or.inl rfl) hQ, if_pos rfl]
    · rw [rf I TF_refl, E276_10 hM, if_neg g, if_pos (by decide)]
end r79
