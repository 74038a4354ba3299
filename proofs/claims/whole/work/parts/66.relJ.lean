/-! IDS in bits; a COMMAND is written, by the class */ -/
theorem iShr_id {x id : Int} (h0 : 0 ≤ x) (h1 : x < 2147483648) (i0 : 0 ≤ id) (i1 : id < 16) : iShr x id = x / 2 ^ id.toNat := by
  rcases (by omega : id = 0 ∨ id = 1 ∨ id = 2 ∨ id = 3 ∨ id = 4 ∨ id = 5 ∨ id = 6 ∨ id = 7 ∨ id = 8 ∨ id = 9 ∨ id = 10 ∨ id = 11 ∨ id = 12 ∨ id = 13 ∨ id = 14 ∨ id = 15) with rfl | rfl | rfl | rfl | rfl | rfl | rfl | rfl | rfl | rfl | rfl | rfl | rfl | rfl | rfl | rfl
  · exact iShr_eq x 0 0 rfl h0 h1
  · exact iShr_eq x 1 1 rfl h0 h1
  · exact iShr_eq x 2 2 rfl h0 h1
  · exact iShr_eq x 3 3 rfl h0 h1
  · exact iShr_eq x 4 4 rfl h0 h1
  · exact iShr_eq x 5 5 rfl h0 h1
  · exact iShr_eq x 6 6 rfl h0 h1
  · exact iShr_eq x 7 7 rfl h0 h1
  · exact iShr_eq x 8 8 rfl h0 h1
  · exact iShr_eq x 9 9 rfl h0 h1
  · exact iShr_eq x 10 10 rfl h0 h1
  · exact iShr_eq x 11 11 rfl h0 h1
  · exact iShr_eq x 12 12 rfl h0 h1
  · exact iShr_eq x 13 13 rfl h0 h1
  · exact iShr_eq x 14 14 rfl h0 h1
  · exact iShr_eq x 15 15 rfl h0 h1
theorem bit_is {x id : Int} (h0 : 0 ≤ x) (h1 : x < 2147483648) (i0 : 0 ≤ id) (i1 : id < 16) : iAnd (iShr x id) 1 = if x.toNat.testBit id.toNat = true then 1 else 0 := by
  rw [iShr_id h0 h1 i0 i1, and1]
  have e : x / 2 ^ id.toNat % 2 = ((x.toNat / 2 ^ id.toNat % 2 : Nat) : Int) := by
    have : x = (x.toNat : Int) := by omega
    rw [this]; simp
  rw [e, Nat.testBit_eq_decide_div_mod_eq]
  by_cases g : x.toNat / 2 ^ id.toNat % 2 = 1
  · rw [if_pos (decide_eq_true g), g]; rfl
  · rw [if_neg (by simpa using g)]
    have : x.toNat / 2 ^ id.toNat % 2 = 0 := by omega
    rw [this]; rfl
theorem shl_id {id : Int} (i0 : 0 ≤ id) (i1 : id < 16) : iShl 1 id = 2 ^ id.toNat ∧ (0 : Int) ≤ 2 ^ id.toNat ∧ (2 : Int) ^ id.toNat < 65536 ∧ ((2 : Int) ^ id.toNat).toNat = 2 ^ id.toNat := by
  rcases (by omega : id = 0 ∨ id = 1 ∨ id = 2 ∨ id = 3 ∨ id = 4 ∨ id = 5 ∨ id = 6 ∨ id = 7 ∨ id = 8 ∨ id = 9 ∨ id = 10 ∨ id = 11 ∨ id = 12 ∨ id = 13 ∨ id = 14 ∨ id = 15) with rfl | rfl | rfl | rfl | rfl | rfl | rfl | rfl | rfl | rfl | rfl | rfl | rfl | rfl | rfl | rfl <;> decide
theorem bit_set {x id : Int} (h0 : 0 ≤ x) (h1 : x < 65536) (i0 : 0 ≤ id) (i1 : id < 16) : 0 ≤ iOr x (iShl 1 id) ∧ iOr x (iShl 1 id) < 65536 ∧ ∀ j : Nat, (iOr x (iShl 1 id)).toNat.testBit j = (x.toNat.testBit j || decide (id.toNat = j)) := by
  obtain ⟨e, p0, p1, p2⟩ := shl_id i0 i1
  rw [e, iOr_nat h0 (by omega) p0 (by omega), p2]
  have l : x.toNat ||| 2 ^ id.toNat < 2 ^ 16 := Nat.or_lt_two_pow (by omega) (by omega)
  refine ⟨by omega, by omega, fun j => ?_⟩
  rw [Int.toNat_natCast, Nat.testBit_or, Nat.testBit_two_pow]
theorem bit_clr {x id : Int} (h0 : 0 ≤ x) (h1 : x < 65536) (i0 : 0 ≤ id) (i1 : id < 16) : 0 ≤ iAnd x (iXor (iShl 1 id) (-1)) ∧ iAnd x (iXor (iShl 1 id) (-1)) < 65536 ∧ ∀ j : Nat, j < 16 → (iAnd x (iXor (iShl 1 id) (-1))).toNat.testBit j = (x.toNat.testBit j && !decide (id.toNat = j)) := by
  have key : ∀ (m : Nat), (BitVec.ofInt 32 (iXor (iShl 1 id) (-1))).toNat = m → (∀ j : Nat, j < 16 → m.testBit j = !decide (id.toNat = j)) → 0 ≤ iAnd x (iXor (iShl 1 id) (-1)) ∧ iAnd x (iXor (iShl 1 id) (-1)) < 65536 ∧ ∀ j : Nat, j < 16 → (iAnd x (iXor (iShl 1 id) (-1))).toNat.testBit j = (x.toNat.testBit j && !decide (id.toNat = j)) := by
    intro m hm hj
    have e1 : iAnd x (iXor (iShl 1 id) (-1)) = (BitVec.ofInt 32 x &&& BitVec.ofInt 32 (iXor (iShl 1 id) (-1))).toInt := rfl
    have e2 : (BitVec.ofInt 32 x &&& BitVec.ofInt 32 (iXor (iShl 1 id) (-1))).toNat = x.toNat &&& m := by rw [BitVec.toNat_and, bv_nat h0 (by omega), hm]
    have l : x.toNat &&& m ≤ x.toNat := Nat.and_le_left
    rw [e1, bv_int (by rw [e2]; omega), e2]
    refine ⟨by omega, by omega, fun j h => ?_⟩
    rw [Int.toNat_natCast, Nat.testBit_and, hj j h]
  rcases (by omega : id = 0 ∨ id = 1 ∨ id = 2 ∨ id = 3 ∨ id = 4 ∨ id = 5 ∨ id = 6 ∨ id = 7 ∨ id = 8 ∨ id = 9 ∨ id = 10 ∨ id = 11 ∨ id = 12 ∨ id = 13 ∨ id = 14 ∨ id = 15) with rfl | rfl | rfl | rfl | rfl | rfl | rfl | rfl | rfl | rfl | rfl | rfl | rfl | rfl | rfl | rfl <;> exact key _ rfl (by decide)
section r66
variable {d : Nat} {S : SS} {I J : II} {C : CF} {ρ σ : RW} {b q id op bl v k a : Int}
/-- is an ID used */ -/
theorem c_used (hL : LA S a) (hl : 0 ≤ I a 13 ∧ I a 13 < 65536) (hb : (I a 13).toNat.testBit id.toNat = decide (0 < cnt ρ (16 * q + id))) (hW : W0 C ρ) (h0 : 0 ≤ q) (h1 : q < 5) (i0 : 0 ≤ id) (i1 : id < 16) : ev d 79 0 [(2, a), (0, id)] [] S I = some ((0, if usedS ρ q id = true then 1 else 0), S, I) := by
  rw [E79_0 hL, bit_is hl.1 (by omega) i0 i1, hb, E79_17 (Or.inl rfl), E79_17 (Or.inr rfl)]
  have u := used_cnt hW h0 h1 i0 i1
  by_cases g : usedS ρ q id = true
  · rw [if_pos g, if_pos (show decide (0 < cnt ρ (16 * q + id)) = true from decide_eq_true (u.mp g)), if_pos rfl]
  · rw [if_neg g, if_neg (show ¬ decide (0 < cnt ρ (16 * q + id)) = true from fun e => g (u.mpr (of_decide_eq_true e))), if_neg (by decide)]
theorem c_least1 (hL : LA S (b + 11 + 4 * q)) (hl : 0 ≤ I (b + 11 + 4 * q) 13 ∧ I (b + 11 + 4 * q) 13 < 65536) (hb : bitsR I b ρ) (hW : W0 C ρ) (h0 : 0 ≤ q) (h1 : q < 5) : ∀ (n : Nat) (k : Int), 0 ≤ k → k ≤ 16 → n = (16 - k).toNat →
    ev (d + 1) 78 2 [(2, b + 11 + 4 * q), (0, k)] [] S I = some ((0, fnd (fun id => !usedS ρ q id) n k), S, I) := by
  intro n
  induction n with
  | zero => intro k k0 k1 hn; rw [E78_2 hL, w_small (z := k) (by omega) (by omega), if_neg (by omega)]; rfl
  | succ n ih =>
    intro k k0 k1 hn
    rw [E78_2 hL, w_small (z := k) (by omega) (by omega), if_pos (by omega), c_used hL hl (hb q k h0 h1 k0 (by omega)) hW h0 h1 k0 (by omega), fnd_succ]
    simp only [Option.bind_some, psh_i]
    rw [E78_13, ih (k + 1) (by omega) (by omega) (by omega)]
    by_cases g : usedS ρ q k = true
    · rw [if_pos g, if_neg (by decide), if_neg (by simp [g])]
    · rw [if_neg g, if_pos (by decide), if_pos (by simpa using g)]
theorem c_least (hL : LA S (b + 11 + 4 * q)) (hl : 0 ≤ I (b + 11 + 4 * q) 13 ∧ I (b + 11 + 4 * q) 13 < 65536) (hb : bitsR I b ρ) (hW : W0 C ρ) (h0 : 0 ≤ q) (h1 : q < 5) : ev (d + 1) 78 0 [(2, b + 11 + 4 * q), uU] [] S I = some ((0, freeS ρ q), S, I) := by
  rw [E78_0, c_least1 hL hl hb hW h0 h1 16 0 (by decide) (by decide) (by decide)]; rfl
theorem freeS_b : freeS ρ q = -1 ∨ 0 ≤ freeS ρ q ∧ freeS ρ q < 16 ∧ usedS ρ q (freeS ρ q) = false := by
  unfold freeS
  rcases fnd_lo (fun id => !usedS ρ q id) 16 0 with e | ⟨e1, e2, e3⟩
  · exact Or.inl e
  · exact Or.inr ⟨e1, by omega, by simpa using e3⟩
theorem put_WF (h : WF C ρ) (hk : okC C) (h0 : 0 ≤ q) (h1 : q < C.1) (hr : ρ (89 * q) - ρ (89 * q + 4) < C.2.1 q - 1) (hf : 0 ≤ freeS ρ q) (ho0 : 0 ≤ op) (ho1 : op ≤ 4) (hb0 : 0 ≤ bl) (hb1 : bl ≤ 9) (hv0 : 0 ≤ v) (hv1 : v ≤ 99) :
    WF C (putR ρ q (freeS ρ q) op bl v) ∧ ∀ z, cnt (putR ρ q (freeS ρ q) op bl v) z = cnt ρ z + (if 16 * q + freeS ρ q = z then 1 else 0) := by
  have kk := hk.2.2 q h0 h1
  have hn := hk.2.1
  rcases freeS_b (ρ := ρ) (q := q) with e | ⟨f0, f1, f2⟩
  · omega
  have cc := fun z => put_cnt (z := z) (id := freeS ρ q) (op := op) (b := bl) (v := v) h.1 hn h0 h1 (by omega)
  refine ⟨⟨put_W0 h.1 hn h0 h1 (by omega) f0 f1 ho0 ho1 hb0 hb1 hv0 hv1, fun z => ?_⟩, cc⟩
  rw [cc]
  by_cases e : 16 * q + freeS ρ q = z
  · subst e
    have u := used_cnt h.1 h0 (show q < 5 by omega) f0 f1
    rw [if_pos rfl]
    have : ¬ 0 < cnt ρ (16 * q + freeS ρ q) := fun g => by rw [u.mpr g] at f2; exact absurd f2 (by decide)
    omega
  · rw [if_neg e]; have := h.2 z; omega
theorem putsS_WF {N : Int} (h : WF C ρ) (hk : okC C) (hB : BdN N ρ) (hN : 100 ≤ N) : WF C (putsS C ρ q op bl v).2 ∧ BdN (N + 1) (putsS C ρ q op bl v).2 ∧ (∀ lo, lftOK lo ρ → lftOK lo (putsS C ρ q op bl v).2) := by
  have hn := hk.2.1
  unfold putsS
  by_cases g1 : 0 ≤ q ∧ q < C.1 ∧ 0 ≤ op ∧ op ≤ 4 ∧ 0 ≤ bl ∧ bl ≤ 9 ∧ 0 ≤ v ∧ v ≤ 99
  · rw [if_pos g1]
    obtain ⟨h0, h1, ho0, ho1, hb0, hb1, hv0, hv1⟩ := g1
    by_cases g2 : ρ (89 * q) - ρ (89 * q + 4) < C.2.1 q - 1
    · rw [if_pos g2]
      by_cases g3 : freeS ρ q < 0
      · rw [if_pos g3]; exact ⟨h, BdN_le hB (by omega), fun _ hl => hl⟩
      · rw [if_neg g3]
        rcases freeS_b (ρ := ρ) (q := q) with e | ⟨f0, f1, f2⟩
        · omega
        have rb := rAt_b (q := q) (k := ρ (89 * q)) h0 (by omega)
        refine ⟨(put_WF h hk h0 h1 g2 (by omega) ho0 ho1 hb0 hb1 hv0 hv1).1, BdN_put hB hN f0 f1 ho0 ho1 hb0 hb1 hv0 hv1, fun lo hl => lftOK_congr (fun j j0 j1 => ?_) h.1.2.1.2.1 hl⟩
        simp (disch := omega) only [updR_miss]
    · rw [if_neg g2]; exact ⟨h, BdN_le hB (by omega), fun _ hl => hl⟩
  · rw [if_neg g1]; exact ⟨h, BdN_le hB (by omega), fun _ hl => hl⟩
theorem and7' {z : Int} : iAnd z 7 = z % 8 := and7 z
/-- a COMMAND is written */ -/
theorem c_write {N : Int} (hb : 0 ≤ b) (hD : DA S b) (h : RelD C I b ρ) (hw : WF C ρ) (hk : okC C) (hB : BdN N ρ) (hN : N < 1073741824) (hq : isI q) (hop : isI op) (hbl : isI bl) (hv : isI v) :
    ∃ J, ev (d + 4) 20 0 [(2, b), (0, q), (0, op), (0, bl), (0, v), uU] [] S I = some ((0, (putsS C ρ q op bl v).1), S, J) ∧ RelD C J b (putsS C ρ q op bl v).2 ∧ OUTB b I J := by
  have hn := hk.2.1
  have n0 := hk.1
  have hbit := h.2.2.2.2.2
  rw [E20_0 hD, c_lane hD h.1 hk hq]
  simp only [Option.bind_some, psh_r]
  have no : ∀ x : Int, ev (d + 4) 20 43 [(2, b), (0, q), (0, op), (0, bl), (0, v), (2, x)] [] S I = some ((0, -1), S, I) := fun x => E20_43
  by_cases g : 0 ≤ q ∧ q < C.1
  · have hL := DA_lane hD g.1 (show q < 5 by omega)
    have hl := h.2.2.2.2.1 q g.1 (by omega)
    have kk := hk.2.2 q g.1 g.2
    have qo := hw.1.1 q g.1 (by omega)
    have c1 := qo.1
    unfold cntsOK at c1
    have b0 := hB (89 * q)
    have b4 := hB (89 * q + 4)
    rw [if_pos g, E20_5 (Or.inr hL), if_neg (by omega), w_small hop.1 hop.2, w_small hbl.1 hbl.2, w_small hv.1 hv.2, no]
    by_cases g1 : 0 ≤ op ∧ op ≤ 4 ∧ 0 ≤ bl ∧ bl ≤ 9 ∧ 0 ≤ v ∧ v ≤ 99
    · obtain ⟨ho0, ho1, hb0, hb1, hv0, hv1⟩ := g1
      rw [if_neg (by omega), if_neg (by omega), if_neg (by omega), if_pos (by omega), if_neg (by omega), if_neg (by omega)]
      unfold putsS
      rw [if_pos ⟨g.1, g.2, ho0, ho1, hb0, hb1, hv0, hv1⟩]
      obtain ⟨⟨l0, l3, f4, f5, f6, f7, f8, f9, f10, f11, f12⟩, lr, lp, l13⟩ := id hl
      obtain ⟨k0, k1, k2, k3⟩ := l0 g.2
      rw [E76_0 hL, E77_0 hL, k0, f4, f8]
      simp only [Option.bind_some, psh_i]
      rw [E76_4 hL, w_small (by omega) (by omega), c_least hL l13 hbit hw.1 g.1 (by omega)]
      simp only [Option.bind_some, psh_i]
      by_cases g2 : ρ (89 * q) - ρ (89 * q + 4) < C.2.1 q - 1
      · rw [if_pos g2, if_pos (by omega), E76_14 hL]
        rcases freeS_b (ρ := ρ) (q := q) with e | ⟨f0, f1, fu⟩
        · rw [e, if_pos (by decide), if_pos (by decide)]
          simp only [Option.bind_some, psh_i]
          rw [E20_54]
          exact ⟨I, rfl, h, OUTB_refl b I⟩
        · rw [w_small (z := freeS ρ q) (by omega) (by omega), if_neg (by omega), if_neg (by omega), E0_0, pack_cmd f0 f1 ho0 (by omega) hb0 (by omega) hv0 (by omega)]
          simp only [Option.bind_some, psh_i, psh_r]
          rw [E76_57 (LA_k14 hL) hL, and7', f4, w_small (z := ρ (89 * q) % 8) (by omega) (by omega), gdR_pos (by omega)]
          simp only [Option.bind_some, psh_i]
          rw [E20_54, show updR (updR (updR (updR (updR (updR ρ (rAt q (ρ (89 * q))) (freeS ρ q)) (rAt q (ρ (89 * q)) + 1) op) (rAt q (ρ (89 * q)) + 2) bl) (rAt q (ρ (89 * q)) + 3) v) (rAt q (ρ (89 * q)) + 4) 0) (89 * q) (ρ (89 * q) + 1) = putR ρ q (freeS ρ q) op bl v from rfl]
          obtain ⟨pw, pc⟩ := put_WF (op := op) (bl := bl) (v := v) hw hk g.1 g.2 g2 f0 ho0 ho1 hb0 hb1 hv0 hv1
          obtain ⟨t0, t1, t2⟩ := bit_set l13.1 l13.2 f0 f1
          have rb := rAt_b (q := q) (k := ρ (89 * q)) g.1 (by omega)
          have oth : ∀ j, j ≠ 89 * q → (j < rAt q (ρ (89 * q)) ∨ rAt q (ρ (89 * q)) + 5 ≤ j) → putR ρ q (freeS ρ q) op bl v j = ρ j := by
            intro j h2 h3; unfold putR; simp (disch := omega) only [updR_miss]
          have ew : putR ρ q (freeS ρ q) op bl v (89 * q) = ρ (89 * q) + 1 := by unfold putR; exact updR_hit rfl
          have er : pkA (putR ρ q (freeS ρ q) op bl v) (rAt q (ρ (89 * q))) = pkC (freeS ρ q) op bl v 0 := by
            unfold pkA putR; simp (disch := omega) only [updR_miss, updR_hit]
          generalize hG : up2 (up2 (up2 I (b + 11 + 4 * q) 13 (iOr (I (b + 11 + 4 * q) 13) (iShl 1 (freeS ρ q)))) (b + 11 + 4 * q + 1) (ρ (89 * q) % 8) (pkC (freeS ρ q) op bl v 0)) (b + 11 + 4 * q) 4 ((up2 (up2 I (b + 11 + 4 * q) 13 (iOr (I (b + 11 + 4 * q) 13) (iShl 1 (freeS ρ q)))) (b + 11 + 4 * q + 1) (ρ (89 * q) % 8) (pkC (freeS ρ q) op bl v 0)) (b + 11 + 4 * q) 4 + 1) = G
          have gx : ∀ x, x ≠ b + 11 + 4 * q → x ≠ b + 11 + 4 * q + 1 → G x = I x := fun x x0 x1 => by rw [← hG, up2_oth x0, up2_oth x1, up2_oth x0]
          have gk : ∀ k, k ≠ 4 → k ≠ 13 → G (b + 11 + 4 * q) k = I (b + 11 + 4 * q) k := fun k x0 x1 => by rw [← hG, up2_miss (by omega), up2_oth (by omega), up2_miss (by omega)]
          have g4 : G (b + 11 + 4 * q) 4 = ρ (89 * q) + 1 := by rw [← hG, up2_hit rfl rfl, up2_oth (by omega), up2_miss (by omega), f4]
          have g13 : G (b + 11 + 4 * q) 13 = iOr (I (b + 11 + 4 * q) 13) (iShl 1 (freeS ρ q)) := by rw [← hG, up2_miss (by omega), up2_oth (by omega), up2_hit rfl rfl]
          have gr : ∀ j, j ≠ ρ (89 * q) % 8 → G (b + 11 + 4 * q + 1) j = I (b + 11 + 4 * q + 1) j := fun j hj => by rw [← hG, up2_oth (by omega), up2_miss (by omega), up2_oth (by omega)]
          have gr0 : G (b + 11 + 4 * q + 1) (ρ (89 * q) % 8) = pkC (freeS ρ q) op bl v 0 := by rw [← hG, up2_oth (by omega), up2_hit rfl rfl]
          have pb : 0 ≤ pkC (freeS ρ q) op bl v 0 ∧ pkC (freeS ρ q) op bl v 0 < 524288 := pkC_b (by unfold bdC; omega)
          refine ⟨G, rfl, RelD_q h hw.1 g.1 (by omega) (fun x x0 x1 x2 => gx x (by omega) (by omega)) (fun j hj => oth j (by omega) (by omega)) ⟨?_, ⟨fun k kk0 kk1 => ?_, fun j j0 j1 => ?_⟩, fun k kk0 kk1 => ?_, by rw [g13]; exact ⟨t0, t1⟩⟩ (fun q' id q0 q1 i0 i1 => ?_), fun x hx => gx x (by omega) (by omega)⟩
          · unfold lanfR
            have ow : ∀ i, 0 < i → i < 9 → putR ρ q (freeS ρ q) op bl v (89 * q + i) = ρ (89 * q + i) := fun i i0 i1 => oth _ (by omega) (by omega)
            rw [g4, gk 0 (by decide) (by decide), gk 1 (by decide) (by decide), gk 2 (by decide) (by decide), gk 3 (by decide) (by decide), gk 5 (by decide) (by decide), gk 6 (by decide) (by decide), gk 7 (by decide) (by decide), gk 8 (by decide) (by decide), gk 9 (by decide) (by decide), gk 10 (by decide) (by decide), gk 11 (by decide) (by decide), gk 12 (by decide) (by decide)]
            refine ⟨l0, l3, ew.symm, f5.trans (ow 1 (by decide) (by decide)).symm, f6.trans (ow 2 (by decide) (by decide)).symm, f7.trans (ow 3 (by decide) (by decide)).symm, f8.trans (ow 4 (by decide) (by decide)).symm, f9.trans (ow 5 (by decide) (by decide)).symm, f10.trans (ow 6 (by decide) (by decide)).symm, f11.trans (ow 7 (by decide) (by decide)).symm, f12.trans (ow 8 (by decide) (by decide)).symm⟩
          · rw [oth _ (by omega) (by omega)] at kk0
            rw [ew] at kk1
            by_cases e : k = ρ (89 * q)
            · subst e; rw [gr0, er]
            · have ne := rAt_ne (q := q) (k := k) (k' := ρ (89 * q)) e (by omega) (by omega)
              have kb := rAt_b (q := q) (k := k) g.1 (by omega)
              rw [gr _ (by omega), lr.1 k kk0 (by omega), pkA_congr (fun j j0 j1 => oth _ (by omega) (by omega))]
          · by_cases e : j = ρ (89 * q) % 8
            · rw [e, gr0]; exact pb
            · rw [gr j e]; exact lr.2 j j0 j1
          · rw [oth _ (by omega) (by omega)] at kk0 kk1
            have pb2 := pAt_b (q := q) (k := k) g.1 (by omega)
            have := lp k kk0 kk1
            unfold pkP at *
            rw [gx _ (by omega) (by omega), gx _ (by omega) (by omega), oth _ (by omega) (by omega), oth _ (by omega) (by omega), oth _ (by omega) (by omega), oth _ (by omega) (by omega)]
            exact this
          · rw [pc]
            by_cases e : q' = q
            · subst e
              rw [g13, t2, hbit q' id q0 q1 i0 i1]
              by_cases e2 : freeS ρ q' = id
              · rw [e2, if_pos rfl]
                have := hw.2 (16 * q' + id)
                have nn : 0 ≤ cnt ρ (16 * q' + id) := by unfold cnt; have := quec_nn ρ (16 * q' + id); have := runc_nn ρ (16 * q' + id); have := outc_nn ρ (16 * q' + id); omega
                simp; omega
              · rw [if_neg (by omega)]
                have : ¬ (freeS ρ q').toNat = id.toNat := by omega
                simp [this]
            · rw [gx _ (by omega) (by omega), hbit q' id q0 q1 i0 i1, if_neg (by omega), Int.add_zero]
      · rw [if_neg g2, if_neg (by omega)]
        simp only [Option.bind_some, psh_i]
        rw [E20_54]
        exact ⟨I, rfl, h, OUTB_refl b I⟩
    · have hp : putsS C ρ q op bl v = (-1, ρ) := by
        unfold putsS
        rw [if_neg (fun e => g1 ⟨e.2.2.1, e.2.2.2.1, e.2.2.2.2.1, e.2.2.2.2.2.1, e.2.2.2.2.2.2.1, e.2.2.2.2.2.2.2⟩)]
      rw [hp]
      refine ⟨I, ?_, h, OUTB_refl b I⟩
      by_cases a1 : op < 0
      · rw [if_pos a1]
      by_cases a2 : 4 < op
      · rw [if_neg a1, if_pos a2]
      by_cases a3 : bl < 0
      · rw [if_neg a1, if_neg a2, if_pos a3]
      by_cases a4 : bl < 10
      · by_cases a5 : v < 0
        · rw [if_neg a1, if_neg a2, if_neg a3, if_pos a4, if_pos a5]
        · rw [if_neg a1, if_neg a2, if_neg a3, if_pos a4, if_neg a5, if_pos (by omega)]
      · rw [if_neg a1, if_neg a2, if_neg a3, if_neg a4]
  · have hp : putsS C ρ q op bl v = (-1, ρ) := by
      unfold putsS
      rw [if_neg (fun e => g ⟨e.1, e.2.1⟩)]
    rw [hp, if_neg g, E20_5 (Or.inl rfl), if_pos rfl, no]
    exact ⟨I, rfl, h, OUTB_refl b I⟩
end r66
