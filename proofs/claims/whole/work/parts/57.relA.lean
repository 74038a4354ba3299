/-! the cells of a Drive of the class against a row -/
def pkA (ρ : RW) (a : Int) : Int := pkC (ρ a) (ρ (a + 1)) (ρ (a + 2)) (ρ (a + 3)) (ρ (a + 4))
def hdR (C : CF) (I : II) (b : Int) (ρ : RW) : Prop := I b 0 = C.1 ∧ I b 6 = ρ 826 ∧ I b 7 = ρ 827 ∧ I b 8 = ρ 838 ∧ I b 9 = ρ 839 ∧ I b 10 = ρ 493 ∧ I b 15 = ρ 814
def arR (I : II) (b : Int) (ρ : RW) : Prop := (∀ j, 0 ≤ j → j < 10 → I (b + 2) j = ρ (828 + j)) ∧ (∀ c, 1 ≤ c → c < 4 → I (b + 3) c = ρ (814 + c) ∧ I (b + 4) c = ρ (818 + c)) ∧ (∀ c, 0 ≤ c → c < 4 → I (b + 5) c = ρ (822 + c))
def run1R (I : II) (b : Int) (ρ : RW) (i k : Int) : Prop := I (b + 7) i = ρ (445 + 12 * k) ∧ I (b + 8) i = pkA ρ (446 + 12 * k) ∧ I (b + 9) i = (if ρ (452 + 12 * k) < 0 then -1 else pkA ρ (451 + 12 * k))
def runsR (I : II) (b : Int) (ρ : RW) : Prop := ∀ k, 0 ≤ k → k < ρ 493 → run1R I b ρ k k ∧ I (b + 6) k = ρ (456 + 12 * k)
def pkO (ρ : RW) (k : Int) : Int := pkD (ρ (494 + 4 * k)) (ρ (495 + 4 * k)) (ρ (496 + 4 * k)) (ρ (497 + 4 * k))
def boxR (I : II) (b : Int) (ρ : RW) : Prop := ∀ k, 0 ≤ k → k < ρ 814 → I (b + 10) k = pkO ρ k
def pkP (ρ : RW) (q k : Int) : Int := pkD q (ρ (pAt q k)) (ρ (pAt q k + 1)) (ρ (pAt q k + 2))
def lanfR (C : CF) (I : II) (a : Int) (ρ : RW) (q : Int) : Prop := (q < C.1 → I a 0 = C.2.1 q ∧ I a 1 = C.2.2.1 q ∧ I a 2 = C.2.2.2.1 q ∧ I a 3 = C.2.2.2.2 q) ∧ (I a 3 = 0 ∨ I a 3 = 1) ∧ I a 4 = ρ (89 * q) ∧ I a 5 = ρ (89 * q + 1) ∧ I a 6 = ρ (89 * q + 2) ∧ I a 7 = ρ (89 * q + 3) ∧ I a 8 = ρ (89 * q + 4) ∧ I a 9 = ρ (89 * q + 5) ∧ I a 10 = ρ (89 * q + 6) ∧ I a 11 = ρ (89 * q + 7) ∧ I a 12 = ρ (89 * q + 8)
def lanrR (I : II) (a : Int) (ρ : RW) (q : Int) : Prop := (∀ k, ρ (89 * q + 3) ≤ k → k < ρ (89 * q) → I (a + 1) (k % 8) = pkA ρ (rAt q k)) ∧ ∀ j, 0 ≤ j → j < 8 → 0 ≤ I (a + 1) j ∧ I (a + 1) j < 524288
def lanpR (I : II) (a : Int) (ρ : RW) (q : Int) : Prop := ∀ k, ρ (89 * q + 6) ≤ k → k < ρ (89 * q + 5) → I (a + 2) (k % 8) = pkP ρ q k ∧ I (a + 3) (k % 8) = ρ (pAt q k + 3)
def laneR (C : CF) (I : II) (a : Int) (ρ : RW) (q : Int) : Prop := lanfR C I a ρ q ∧ lanrR I a ρ q ∧ lanpR I a ρ q ∧ 0 ≤ I a 13 ∧ I a 13 < 65536
def lansR (C : CF) (I : II) (b : Int) (ρ : RW) : Prop := ∀ q, 0 ≤ q → q < 5 → laneR C I (b + 11 + 4 * q) ρ q
def bitsR (I : II) (b : Int) (ρ : RW) : Prop := ∀ q id, 0 ≤ q → q < 5 → 0 ≤ id → id < 16 → (I (b + 11 + 4 * q) 13).toNat.testBit id.toNat = decide (0 < cnt ρ (16 * q + id))
def RelD (C : CF) (I : II) (b : Int) (ρ : RW) : Prop := hdR C I b ρ ∧ arR I b ρ ∧ runsR I b ρ ∧ boxR I b ρ ∧ lansR C I b ρ ∧ bitsR I b ρ
/-- only the block at b is another -/
def OUTB (b : Int) (I J : II) : Prop := ∀ a, (a < b ∨ b + 31 ≤ a) → J a = I a
theorem OUTB_refl (b : Int) (I : II) : OUTB b I I := fun _ _ => rfl
theorem OUTB_trans {b : Int} {I J G : II} (h : OUTB b I J) (g : OUTB b J G) : OUTB b I G := fun a ha => (g a ha).trans (h a ha)
theorem OUTB_up2 {b : Int} {I J : II} {a k v : Int} (h : OUTB b I J) (h0 : b ≤ a) (h1 : a < b + 31) : OUTB b I (up2 J a k v) := fun x hx => by rw [up2_oth (by omega)]; exact h x hx
theorem hdR_congr {C : CF} {I J : II} {b : Int} {ρ σ : RW} (hI : ∀ k, (k = 0 ∨ 6 ≤ k ∧ k ≤ 10 ∨ k = 15) → J b k = I b k) (hρ : ∀ j, (j = 826 ∨ j = 827 ∨ j = 838 ∨ j = 839 ∨ j = 493 ∨ j = 814) → σ j = ρ j) (h : hdR C I b ρ) : hdR C J b σ := by
  unfold hdR at *
  rw [hI 0 (by omega), hI 6 (by omega), hI 7 (by omega), hI 8 (by omega), hI 9 (by omega), hI 10 (by omega), hI 15 (by omega), hρ 826 (by omega), hρ 827 (by omega), hρ 838 (by omega), hρ 839 (by omega), hρ 493 (by omega), hρ 814 (by omega)]
  exact h
theorem arR_congr {I J : II} {b : Int} {ρ σ : RW} (hI : ∀ a, b + 2 ≤ a → a ≤ b + 5 → J a = I a) (hρ : ∀ j, 815 ≤ j → j < 838 → σ j = ρ j) (h : arR I b ρ) : arR J b σ := by
  obtain ⟨h1, h2, h3⟩ := h
  refine ⟨fun j g0 g1 => ?_, fun c g0 g1 => ?_, fun c g0 g1 => ?_⟩
  · rw [hI _ (by omega) (by omega), hρ _ (by omega) (by omega)]; exact h1 j g0 g1
  · rw [hI _ (by omega) (by omega), hI _ (by omega) (by omega), hρ _ (by omega) (by omega), hρ _ (by omega) (by omega)]; exact h2 c g0 g1
  · rw [hI _ (by omega) (by omega), hρ _ (by omega) (by omega)]; exact h3 c g0 g1
theorem pkA_congr {ρ σ : RW} {a a' : Int} (h : ∀ j, 0 ≤ j → j < 5 → σ (a' + j) = ρ (a + j)) : pkA σ a' = pkA ρ a := by
  have h0 := h 0 (by decide) (by decide)
  rw [Int.add_zero, Int.add_zero] at h0
  unfold pkA
  rw [h0, h 1 (by decide) (by decide), h 2 (by decide) (by decide), h 3 (by decide) (by decide), h 4 (by decide) (by decide)]
theorem run1R_congr {I J : II} {b : Int} {ρ σ : RW} {i i' k k' : Int} (hI : ∀ a, b + 7 ≤ a → a ≤ b + 9 → J a i' = I a i) (hρ : ∀ j, 0 ≤ j → j < 11 → σ (445 + 12 * k' + j) = ρ (445 + 12 * k + j)) (h : run1R I b ρ i k) : run1R J b σ i' k' := by
  have g0 := hρ 0 (by decide) (by decide)
  rw [Int.add_zero, Int.add_zero] at g0
  have g7 := hρ 7 (by decide) (by decide)
  rw [show 445 + 12 * k' + 7 = 452 + 12 * k' by omega, show 445 + 12 * k + 7 = 452 + 12 * k by omega] at g7
  unfold run1R at *
  rw [hI _ (by omega) (by omega), hI _ (by omega) (by omega), hI _ (by omega) (by omega), g0, g7]
  rw [pkA_congr (ρ := ρ) (σ := σ) (a := 446 + 12 * k) (a' := 446 + 12 * k') (fun j j0 j1 => by
    have := hρ (1 + j) (by omega) (by omega)
    rw [show 446 + 12 * k' + j = 445 + 12 * k' + (1 + j) by omega, show 446 + 12 * k + j = 445 + 12 * k + (1 + j) by omega]; exact this)]
  rw [pkA_congr (ρ := ρ) (σ := σ) (a := 451 + 12 * k) (a' := 451 + 12 * k') (fun j j0 j1 => by
    have := hρ (6 + j) (by omega) (by omega)
    rw [show 451 + 12 * k' + j = 445 + 12 * k' + (6 + j) by omega, show 451 + 12 * k + j = 445 + 12 * k + (6 + j) by omega]; exact this)]
  exact h
theorem runsR_congr {I J : II} {b : Int} {ρ σ : RW} (h4 : ρ 493 ≤ 4) (hI : ∀ a, b + 6 ≤ a → a ≤ b + 9 → J a = I a) (hρ : ∀ j, 445 ≤ j → j ≤ 493 → σ j = ρ j) (h : runsR I b ρ) : runsR J b σ := by
  intro k g0 g1
  rw [hρ 493 (by decide) (by decide)] at g1
  obtain ⟨h1, h2⟩ := h k g0 g1
  refine ⟨run1R_congr (fun a a0 a1 => by rw [hI a (by omega) a1]) (fun j j0 j1 => hρ _ (by omega) (by omega)) h1, ?_⟩
  rw [hI _ (by omega) (by omega), hρ _ (by omega) (by omega)]; exact h2
theorem boxR_congr {I J : II} {b : Int} {ρ σ : RW} (h8 : ρ 814 ≤ 80) (hI : J (b + 10) = I (b + 10)) (hρ : ∀ j, 494 ≤ j → j ≤ 814 → σ j = ρ j) (h : boxR I b ρ) : boxR J b σ := by
  intro k g0 g1
  rw [hρ 814 (by decide) (by decide)] at g1
  rw [hI, h k g0 g1]
  unfold pkO
  rw [hρ _ (by omega) (by omega), hρ _ (by omega) (by omega), hρ _ (by omega) (by omega), hρ _ (by omega) (by omega)]
theorem laneR_congr {C : CF} {I J : II} {a q : Int} {ρ σ : RW} (h0 : 0 ≤ q) (h1 : q < 5) (hI : ∀ x, a ≤ x → x ≤ a + 3 → J x = I x) (hρ : ∀ j, 89 * q ≤ j → j < 89 * q + 89 → σ j = ρ j) (h : laneR C I a ρ q) : laneR C J a σ q := by
  obtain ⟨l1, l2, l3, l4⟩ := h
  have e0 := hρ (89 * q) (by omega) (by omega)
  have e3 := hρ (89 * q + 3) (by omega) (by omega)
  have e5 := hρ (89 * q + 5) (by omega) (by omega)
  have e6 := hρ (89 * q + 6) (by omega) (by omega)
  refine ⟨?_, ⟨fun k k0 k1 => ?_, ?_⟩, fun k k0 k1 => ?_, ?_⟩
  · unfold lanfR at *
    rw [hI a (by omega) (by omega), e0, hρ (89 * q + 1) (by omega) (by omega), hρ (89 * q + 2) (by omega) (by omega), e3, hρ (89 * q + 4) (by omega) (by omega), e5, e6, hρ (89 * q + 7) (by omega) (by omega), hρ (89 * q + 8) (by omega) (by omega)]
    exact l1
  · rw [e3] at k0; rw [e0] at k1
    have b := rAt_b (k := k) h0 h1
    rw [hI (a + 1) (by omega) (by omega), l2.1 k k0 k1, pkA_congr (fun j j0 j1 => hρ _ (by omega) (by omega))]
  · rw [hI (a + 1) (by omega) (by omega)]; exact l2.2
  · rw [e6] at k0; rw [e5] at k1
    have b := pAt_b (k := k) h0 h1
    have := l3 k k0 k1
    unfold pkP at *
    rw [hI (a + 2) (by omega) (by omega), hI (a + 3) (by omega) (by omega), hρ (pAt q k) (by omega) (by omega), hρ (pAt q k + 1) (by omega) (by omega), hρ (pAt q k + 2) (by omega) (by omega), hρ (pAt q k + 3) (by omega) (by omega)]
    exact this
  · rw [hI a (by omega) (by omega)]; exact l4
theorem bitsR_congr {I J : II} {b : Int} {ρ σ : RW} (hI : ∀ q, 0 ≤ q → q < 5 → J (b + 11 + 4 * q) 13 = I (b + 11 + 4 * q) 13) (hc : ∀ z, cnt σ z = cnt ρ z) (h : bitsR I b ρ) : bitsR J b σ := by
  intro q id h0 h1 h2 h3
  rw [hI q h0 h1, hc]; exact h q id h0 h1 h2 h3
/-- the rest of the memory is another -/
theorem RelD_mem {C : CF} {I J : II} {b : Int} {ρ : RW} (h : RelD C I b ρ) (hW : W0 C ρ) (hI : ∀ a, b ≤ a → a < b + 31 → J a = I a) : RelD C J b ρ := by
  obtain ⟨h1, h2, h3, h4, h5, h6⟩ := h
  exact ⟨hdR_congr (fun k _ => by rw [hI b (by omega) (by omega)]) (fun _ _ => rfl) h1, arR_congr (fun a a0 a1 => hI a (by omega) (by omega)) (fun _ _ _ => rfl) h2, runsR_congr hW.2.1.2.1 (fun a a0 a1 => hI a (by omega) (by omega)) (fun _ _ _ => rfl) h3, boxR_congr hW.2.2.1.2.1 (hI _ (by omega) (by omega)) (fun _ _ _ => rfl) h4, fun q g0 g1 => laneR_congr g0 g1 (fun x x0 x1 => hI x (by omega) (by omega)) (fun _ _ _ => rfl) (h5 q g0 g1), bitsR_congr (fun q g0 g1 => by rw [hI _ (by omega) (by omega)]) (fun _ => rfl) h6⟩
/-- the row is another beyond its end -/
theorem pkA_bd {ρ : RW} {a : Int} (h : cmdOK ρ a) : bdC (ρ a) (ρ (a + 1)) (ρ (a + 2)) (ρ (a + 3)) (ρ (a + 4)) := by unfold cmdOK at h; unfold bdC; omega
section r57
variable {d : Nat} {S : SS} {I : II} {C : CF} {ρ : RW} {b q id k a : Int}
theorem pkA_b (h : cmdOK ρ a) : 0 ≤ pkA ρ a ∧ pkA ρ a < 524288 := pkC_b (pkA_bd h)
theorem c_id (h : cmdOK ρ a) : ev d 3 0 [(0, pkA ρ a)] [] S I = some ((0, ρ a), S, I) := c_cid (pkA_bd h)
theorem c_op (h : cmdOK ρ a) : ev d 2 0 [(0, pkA ρ a)] [] S I = some ((0, ρ (a + 1)), S, I) := c_cop (pkA_bd h)
theorem c_bl (h : cmdOK ρ a) : ev d 1 0 [(0, pkA ρ a)] [] S I = some ((0, ρ (a + 2)), S, I) := c_cbl (pkA_bd h)
theorem c_va (h : cmdOK ρ a) : ev d 4 0 [(0, pkA ρ a)] [] S I = some ((0, ρ (a + 3)), S, I) := c_cva (pkA_bd h)
theorem c_ca (h : cmdOK ρ a) : ev d 5 0 [(0, pkA ρ a)] [] S I = some ((0, ρ (a + 4)), S, I) := c_called (pkA_bd h)
/-- the QUEUE of a number -/
theorem c_lane (hD : DA S b) (h : hdR C I b ρ) (hk : okC C) (hq : isI q) : ev d 21 0 [(2, b), (0, q)] [] S I = some ((2, if 0 ≤ q ∧ q < C.1 then b + 11 + 4 * q else -1), S, I) := by
  have n0 := hk.1
  have n1 := hk.2.1
  have e := h.1
  by_cases g : 0 ≤ q ∧ q < C.1
  · simp (disch := omega) only [E21_0 hD, E21_26, E21_27, e, w_small, gdR_pos, if_pos, if_neg]
  · rw [if_neg g, E21_0 hD, e, E21_26, E21_27]
    by_cases g1 : q < 0
    · simp (disch := omega) only [w_small, if_pos]
    · simp (disch := omega) only [w_small, if_pos, if_neg]
theorem c_work (hL : LA S a) (h : laneR C I a ρ q) (hB : Bd ρ) : ev d 84 0 [(2, a)] [] S I = some ((0, if workS ρ q = true then 1 else 0), S, I) := by
  have b2 := hB (89 * q + 2)
  have b3 := hB (89 * q + 3)
  obtain ⟨⟨_, _, _, _, e6, e7, _⟩, _⟩ := h
  by_cases g : workS ρ q = true
  · have := workS_iff.mp g
    rw [if_pos g]
    simp (disch := omega) only [E84_0 hL, e6, e7, w_small, if_pos, E84_16]
  · have : ¬ ρ (89 * q + 3) < ρ (89 * q + 2) := fun e => g (workS_iff.mpr e)
    rw [if_neg g]
    simp (disch := omega) only [E84_0 hL, e6, e7, w_small, if_neg, E84_16]
end r57
