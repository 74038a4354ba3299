/-! what holds of a row at all times -/
def cntsOK (C : CF) (ρ : RW) (q : Int) : Prop := 0 ≤ ρ (89 * q + 4) ∧ ρ (89 * q + 4) ≤ ρ (89 * q + 3) ∧ ρ (89 * q + 3) ≤ ρ (89 * q + 2) ∧ ρ (89 * q + 2) ≤ ρ (89 * q + 1) ∧ ρ (89 * q + 1) ≤ ρ (89 * q) ∧ ρ (89 * q) - ρ (89 * q + 4) ≤ 7 ∧ 0 ≤ ρ (89 * q + 6) ∧ ρ (89 * q + 6) ≤ ρ (89 * q + 5) ∧ ρ (89 * q + 5) - ρ (89 * q + 6) ≤ 7 ∧ (ρ (89 * q + 8) = 0 ∨ ρ (89 * q + 8) = 1) ∧ (C.1 ≤ q → ρ (89 * q) = 0 ∧ ρ (89 * q + 5) = 0 ∧ ρ (89 * q + 7) = 0 ∧ ρ (89 * q + 8) = 0)
def cmdOK (ρ : RW) (a : Int) : Prop := 0 ≤ ρ a ∧ ρ a < 16 ∧ 0 ≤ ρ (a + 1) ∧ ρ (a + 1) ≤ 4 ∧ 0 ≤ ρ (a + 2) ∧ ρ (a + 2) ≤ 9 ∧ 0 ≤ ρ (a + 3) ∧ ρ (a + 3) ≤ 99 ∧ (ρ (a + 4) = 0 ∨ ρ (a + 4) = 1)
def ringOK (ρ : RW) (q : Int) : Prop := ∀ k, ρ (89 * q + 3) ≤ k → k < ρ (89 * q) → cmdOK ρ (rAt q k)
def postOK (C : CF) (ρ : RW) (q : Int) : Prop := ∀ k, ρ (89 * q + 6) ≤ k → k < ρ (89 * q + 5) → 0 ≤ ρ (pAt q k) ∧ ρ (pAt q k) < 16 ∧ 0 ≤ ρ (pAt q k + 1) ∧ ρ (pAt q k + 1) ≤ 4 ∧ 0 ≤ ρ (pAt q k + 2) ∧ ρ (pAt q k + 2) ≤ 99 ∧ ρ (89 * q + 4) ≤ ρ (pAt q k + 3) ∧ ρ (pAt q k + 3) ≤ ρ (89 * q + 3) ∧ ρ (pAt q k + 4) = (if k / C.2.2.1 q % 2 = 0 then 1 else 0) ∧ ∀ k', k ≤ k' → k' < ρ (89 * q + 5) → ρ (pAt q k + 3) ≤ ρ (pAt q k' + 3)
def qOK (C : CF) (ρ : RW) (q : Int) : Prop := cntsOK C ρ q ∧ ringOK ρ q ∧ postOK C ρ q
def run1OK (C : CF) (ρ : RW) (k : Int) : Prop := 0 ≤ ρ (445 + 12 * k) ∧ ρ (445 + 12 * k) < C.1 ∧ cmdOK ρ (446 + 12 * k) ∧ ρ (447 + 12 * k) ≠ 3 ∧ ρ (450 + 12 * k) = 0 ∧ (ρ (447 + 12 * k) ≠ 2 ∧ ρ (452 + 12 * k) = -1 ∨ ρ (447 + 12 * k) = 2 ∧ cmdOK ρ (451 + 12 * k) ∧ ρ (452 + 12 * k) = 3 ∧ ρ (455 + 12 * k) = 0)
def runsOK (C : CF) (ρ : RW) : Prop := 0 ≤ ρ 493 ∧ ρ 493 ≤ 4 ∧ ∀ k, 0 ≤ k → k < ρ 493 → run1OK C ρ k
def out1OK (C : CF) (ρ : RW) (k : Int) : Prop := 0 ≤ ρ (494 + 4 * k) ∧ ρ (494 + 4 * k) < C.1 ∧ 0 ≤ ρ (495 + 4 * k) ∧ ρ (495 + 4 * k) < 16 ∧ 0 ≤ ρ (496 + 4 * k) ∧ ρ (496 + 4 * k) ≤ 4 ∧ 0 ≤ ρ (497 + 4 * k) ∧ ρ (497 + 4 * k) ≤ 99
def outsOK (C : CF) (ρ : RW) : Prop := 0 ≤ ρ 814 ∧ ρ 814 ≤ 80 ∧ ∀ k, 0 ≤ k → k < ρ 814 → out1OK C ρ k
def miscOK (ρ : RW) : Prop := (∀ j, 828 ≤ j → j < 838 → 0 ≤ ρ j ∧ ρ j ≤ 99) ∧ (∀ j, 815 ≤ j → j < 818 → 1 ≤ ρ j ∧ ρ j ≤ 9) ∧ (∀ j, 819 ≤ j → j < 822 → 0 ≤ ρ j ∧ ρ j ≤ 9) ∧ (∀ j, 822 ≤ j → j < 826 → 0 ≤ ρ j ∧ ρ j ≤ 4) ∧ 1 ≤ ρ 826 ∧ ρ 826 ≤ 4 ∧ 0 ≤ ρ 827 ∧ 0 ≤ ρ 838 ∧ 0 ≤ ρ 839
/-- what is FETCHED of a CLASS -/
def fsum (C : CF) (ρ : RW) (c : Int) : Int := sm (fun q => if q < C.1 ∧ C.2.2.2.1 q = c then ρ (89 * q + 3) else 0) 5 0
def srvOK (C : CF) (ρ : RW) : Prop := ∀ c, 0 ≤ c → c < 4 → ρ (840 + c) = fsum C ρ c
def unq (ρ : RW) : Prop := ∀ z, cnt ρ z ≤ 1
/-- LEFT of all that runs -/
def lftOK (lo : Int) (ρ : RW) : Prop := ∀ k, 0 ≤ k → k < ρ 493 → lo ≤ ρ (456 + 12 * k) ∧ ρ (456 + 12 * k) ≤ 9
def W0 (C : CF) (ρ : RW) : Prop := (∀ q, 0 ≤ q → q < 5 → qOK C ρ q) ∧ runsOK C ρ ∧ outsOK C ρ ∧ miscOK ρ ∧ srvOK C ρ
def WF (C : CF) (ρ : RW) : Prop := W0 C ρ ∧ unq ρ
theorem cmdOK_congr {ρ σ : RW} {a : Int} (h : ∀ j, a ≤ j → j < a + 5 → σ j = ρ j) (c : cmdOK ρ a) : cmdOK σ a := by
  unfold cmdOK at *; rw [h a (by omega) (by omega), h (a + 1) (by omega) (by omega), h (a + 2) (by omega) (by omega), h (a + 3) (by omega) (by omega), h (a + 4) (by omega) (by omega)]; exact c
theorem cmdOK_move {ρ σ : RW} {a b : Int} (h : ∀ j, 0 ≤ j → j < 5 → σ (b + j) = ρ (a + j)) (c : cmdOK ρ a) : cmdOK σ b := by
  have h0 := h 0 (by omega) (by omega)
  rw [Int.add_zero, Int.add_zero] at h0
  unfold cmdOK at *; rw [h0, h 1 (by omega) (by omega), h 2 (by omega) (by omega), h 3 (by omega) (by omega), h 4 (by omega) (by omega)]; exact c
theorem qOK_congr {C : CF} {ρ σ : RW} {q : Int} (h0 : 0 ≤ q) (h1 : q < 5) (h : ∀ j, 89 * q ≤ j → j < 89 * q + 89 → σ j = ρ j) (c : qOK C ρ q) : qOK C σ q := by
  have e0 := h (89 * q) (by omega) (by omega)
  have e1 := h (89 * q + 1) (by omega) (by omega)
  have e2 := h (89 * q + 2) (by omega) (by omega)
  have e3 := h (89 * q + 3) (by omega) (by omega)
  have e4 := h (89 * q + 4) (by omega) (by omega)
  have e5 := h (89 * q + 5) (by omega) (by omega)
  have e6 := h (89 * q + 6) (by omega) (by omega)
  have e8 := h (89 * q + 8) (by omega) (by omega)
  obtain ⟨c1, c2, c3⟩ := c
  refine ⟨?_, ?_, ?_⟩
  · unfold cntsOK at *; rw [e0, e1, e2, e3, e4, e5, e6, h (89 * q + 7) (by omega) (by omega), e8]; exact c1
  · intro k k1 k2
    rw [e3] at k1; rw [e0] at k2
    have b := rAt_b (k := k) h0 h1
    exact cmdOK_congr (fun j j1 j2 => h j (by omega) (by omega)) (c2 k k1 k2)
  · intro k k1 k2
    rw [e6] at k1; rw [e5] at k2
    have b := pAt_b (k := k) h0 h1
    have := c3 k k1 k2
    rw [e3, e4, e5, h (pAt q k) (by omega) (by omega), h (pAt q k + 1) (by omega) (by omega), h (pAt q k + 2) (by omega) (by omega), h (pAt q k + 3) (by omega) (by omega), h (pAt q k + 4) (by omega) (by omega)]
    refine ⟨this.1, this.2.1, this.2.2.1, this.2.2.2.1, this.2.2.2.2.1, this.2.2.2.2.2.1, this.2.2.2.2.2.2.1, this.2.2.2.2.2.2.2.1, this.2.2.2.2.2.2.2.2.1, fun k' k3 k4 => ?_⟩
    have b' := pAt_b (k := k') h0 h1
    rw [h (pAt q k' + 3) (by omega) (by omega)]
    exact this.2.2.2.2.2.2.2.2.2 k' k3 k4
theorem run1OK_congr {C : CF} {ρ σ : RW} {k : Int} (h : ∀ j, 445 + 12 * k ≤ j → j < 445 + 12 * k + 11 → σ j = ρ j) (c : run1OK C ρ k) : run1OK C σ k := by
  unfold run1OK at *
  rw [h (445 + 12 * k) (by omega) (by omega), h (447 + 12 * k) (by omega) (by omega), h (450 + 12 * k) (by omega) (by omega), h (452 + 12 * k) (by omega) (by omega), h (455 + 12 * k) (by omega) (by omega)]
  refine ⟨c.1, c.2.1, cmdOK_congr (fun j h1 h2 => h j (by omega) (by omega)) c.2.2.1, c.2.2.2.1, c.2.2.2.2.1, ?_⟩
  rcases c.2.2.2.2.2 with c1 | ⟨c1, c2, c3⟩
  · exact Or.inl c1
  · exact Or.inr ⟨c1, cmdOK_congr (fun j h1 h2 => h j (by omega) (by omega)) c2, c3⟩
theorem runsOK_congr {C : CF} {ρ σ : RW} (h : ∀ j, 445 ≤ j → j ≤ 493 → σ j = ρ j) (c : runsOK C ρ) : runsOK C σ := by
  unfold runsOK at *
  rw [h 493 (by omega) (by omega)]
  exact ⟨c.1, c.2.1, fun k h1 h2 => run1OK_congr (fun j h3 h4 => h j (by omega) (by omega)) (c.2.2 k h1 h2)⟩
theorem out1OK_congr {C : CF} {ρ σ : RW} {k : Int} (h : ∀ j, 494 + 4 * k ≤ j → j < 494 + 4 * k + 4 → σ j = ρ j) (c : out1OK C ρ k) : out1OK C σ k := by
  unfold out1OK at *
  rw [h (494 + 4 * k) (by omega) (by omega), h (495 + 4 * k) (by omega) (by omega), h (496 + 4 * k) (by omega) (by omega), h (497 + 4 * k) (by omega) (by omega)]; exact c
theorem outsOK_congr {C : CF} {ρ σ : RW} (h : ∀ j, 494 ≤ j → j ≤ 814 → σ j = ρ j) (c : outsOK C ρ) : outsOK C σ := by
  unfold outsOK at *
  rw [h 814 (by omega) (by omega)]
  exact ⟨c.1, c.2.1, fun k h1 h2 => out1OK_congr (fun j h3 h4 => h j (by omega) (by omega)) (c.2.2 k h1 h2)⟩
theorem miscOK_congr {ρ σ : RW} (h : ∀ j, 815 ≤ j → j < 840 → σ j = ρ j) (c : miscOK ρ) : miscOK σ := by
  unfold miscOK at *
  rw [h 826 (by omega) (by omega), h 827 (by omega) (by omega), h 838 (by omega) (by omega), h 839 (by omega) (by omega)]
  refine ⟨fun j h1 h2 => ?_, fun j h1 h2 => ?_, fun j h1 h2 => ?_, fun j h1 h2 => ?_, c.2.2.2.2⟩
  · rw [h j (by omega) (by omega)]; exact c.1 j h1 h2
  · rw [h j (by omega) (by omega)]; exact c.2.1 j h1 h2
  · rw [h j (by omega) (by omega)]; exact c.2.2.1 j h1 h2
  · rw [h j (by omega) (by omega)]; exact c.2.2.2.1 j h1 h2
theorem fsum_congr {C : CF} {ρ σ : RW} {c : Int} (h : ∀ q, 0 ≤ q → q < 5 → σ (89 * q + 3) = ρ (89 * q + 3)) : fsum C σ c = fsum C ρ c := sm_congr 5 0 (fun q h1 h2 => by rw [h q h1 (by omega)])
theorem srvOK_congr {C : CF} {ρ σ : RW} (h : ∀ j, 840 ≤ j → j < 844 → σ j = ρ j) (hf : ∀ q, 0 ≤ q → q < 5 → σ (89 * q + 3) = ρ (89 * q + 3)) (c : srvOK C ρ) : srvOK C σ := by
  intro k h1 h2
  rw [h _ (by omega) (by omega), fsum_congr hf]; exact c k h1 h2
theorem lftOK_congr {lo : Int} {ρ σ : RW} (h : ∀ j, 445 ≤ j → j ≤ 493 → σ j = ρ j) (h4 : ρ 493 ≤ 4) (c : lftOK lo ρ) : lftOK lo σ := by
  intro k h1 h2
  rw [h 493 (by omega) (by omega)] at h2
  rw [h _ (by omega) (by omega)]; exact c k h1 h2
theorem WF_q {C : CF} {ρ : RW} (h : W0 C ρ) {q : Int} (h0 : 0 ≤ q) (h1 : q < 5) : qOK C ρ q := h.1 q h0 h1
theorem WF_Cn {C : CF} {ρ : RW} {N : Int} (h : W0 C ρ) (hB : BdN N ρ) (hN : N < 1073741824) : Cn ρ := by
  refine ⟨BdN_Bd hB hN, fun q h0 h1 => ?_, h.2.1.2.1, h.2.2.1.2.1, h.2.1.1, h.2.2.1.1⟩
  have c := (h.1 q h0 h1).1
  unfold cntsOK at c
  omega
theorem WF_okL {C : CF} {ρ : RW} (h : W0 C ρ) : okL ρ := fun c h0 h1 => (h.2.2.2.1.2.2.2.1 (822 + c) (by omega) (by omega)).1
/-- an ID is used when a COMMAND of it is there -/
theorem used_cnt {C : CF} {ρ : RW} (h : W0 C ρ) {q id : Int} (h0 : 0 ≤ q) (h1 : q < 5) (h2 : 0 ≤ id) (h3 : id < 16) : usedS ρ q id = true ↔ 0 < cnt ρ (16 * q + id) := by
  have hq : quec ρ (16 * q + id) = rngc ρ q (16 * q + id) + pstc ρ q (16 * q + id) := by
    unfold quec
    rw [sm_one (f := fun _ => 0) (q := q) 5 0 h0 (by omega) ?_, sm_zero 5 0 (fun _ _ _ => rfl)]
    · omega
    intro q' g0 g1 g2
    have k := h.1 q' g0 (by omega)
    have z1 : rngc ρ q' (16 * q + id) = 0 := sm_zero _ _ (fun j g3 g4 => by
      have b := (k.2.1 j g3 (by have := k.1; unfold cntsOK at this; omega))
      unfold cmdOK at b
      rw [if_neg (by omega)])
    have z2 : pstc ρ q' (16 * q + id) = 0 := sm_zero _ _ (fun j g3 g4 => by
      have b := (k.2.2 j g3 (by have := k.1; unfold cntsOK at this; omega))
      rw [if_neg (by omega)])
    rw [z1, z2]; rfl
  have k := h.1 q h0 h1
  have kc := k.1
  unfold cntsOK at kc
  have w1 : 0 ≤ ringOfS ρ q id ↔ 0 < rngc ρ q (16 * q + id) := by
    have f : 0 ≤ ringOfS ρ q id ↔ 0 ≤ fnd (fun k => decide (ρ (rAt q k) = id)) (ρ (89 * q) - ρ (89 * q + 3)).toNat (ρ (89 * q + 3)) := by
      unfold ringOfS
      rcases fnd_lo (fun k => decide (ρ (rAt q k) = id)) (ρ (89 * q) - ρ (89 * q + 3)).toNat (ρ (89 * q + 3)) with e | ⟨e, _, _⟩
      · rw [if_pos (by omega)]; omega
      · rw [if_neg (by omega)]; omega
    rw [f, fnd_pos (by omega), rngc, sm_pos (fun _ => ite01)]
    constructor
    · rintro ⟨j, a, b, c⟩
      refine ⟨j, a, b, ?_⟩
      rw [if_pos (by have := of_decide_eq_true c; omega)]; decide
    · rintro ⟨j, a, b, c⟩
      refine ⟨j, a, b, decide_eq_true ?_⟩
      by_cases e : 16 * q + ρ (rAt q j) = 16 * q + id
      · omega
      · rw [if_neg e] at c; omega
  have w2 : 0 ≤ postOfS ρ q id ↔ 0 < pstc ρ q (16 * q + id) := by
    unfold postOfS
    rw [fnd_pos (by omega), pstc, sm_pos (fun _ => ite01)]
    constructor
    · rintro ⟨j, a, b, c⟩
      refine ⟨j, a, b, ?_⟩
      rw [if_pos (by have := of_decide_eq_true c; omega)]; decide
    · rintro ⟨j, a, b, c⟩
      refine ⟨j, a, b, decide_eq_true ?_⟩
      by_cases e : 16 * q + ρ (pAt q j) = 16 * q + id
      · omega
      · rw [if_neg e] at c; omega
  have w3 : 0 ≤ runOfS ρ q id ↔ 0 < runc ρ (16 * q + id) := by
    unfold runOfS
    rw [fnd_pos (by omega), runc, sm_pos (run1c_nn ρ _)]
    have ex : ∀ j, 0 ≤ j → j < ρ 493 → (runIs ρ q id j = true ↔ 0 < run1c ρ (16 * q + id) j) := by
      intro j g0 g1
      have b := h.2.1.2.2 j g0 g1
      unfold run1OK at b
      have b1 := b.2.2.1
      unfold cmdOK at b1
      have ea : 446 + 12 * j + 1 = 447 + 12 * j := by omega
      have hr : runIs ρ q id j = true ↔ ρ (445 + 12 * j) = q ∧ (ρ (446 + 12 * j) = id ∨ (0 ≤ ρ (452 + 12 * j) ∧ ρ (451 + 12 * j) = id)) := by simp [runIs, hasSecS]
      rw [hr]
      unfold run1c
      by_cases c1 : 16 * ρ (445 + 12 * j) + ρ (446 + 12 * j) = 16 * q + id
      · rw [if_pos c1]
        have := @ite01 (0 ≤ ρ (452 + 12 * j) ∧ 16 * ρ (445 + 12 * j) + ρ (451 + 12 * j) = 16 * q + id) _
        constructor
        · intro _; omega
        · intro _; exact ⟨by omega, Or.inl (by omega)⟩
      · rw [if_neg c1]
        by_cases c2 : 0 ≤ ρ (452 + 12 * j) ∧ 16 * ρ (445 + 12 * j) + ρ (451 + 12 * j) = 16 * q + id
        · rw [if_pos c2]
          rcases b.2.2.2.2.2 with b3 | ⟨_, b3, _⟩
          · omega
          · unfold cmdOK at b3
            constructor
            · intro _; decide
            · intro _; exact ⟨by omega, Or.inr ⟨c2.1, by omega⟩⟩
        · rw [if_neg c2]
          constructor
          · rintro ⟨e1, e2 | ⟨e2, e3⟩⟩
            · omega
            · exact absurd ⟨e2, by omega⟩ c2
          · intro h; exact absurd h (by decide)
    constructor
    · rintro ⟨j, a, b, c⟩
      exact ⟨j, a, b, (ex j a (by omega)).mp c⟩
    · rintro ⟨j, a, b, c⟩
      exact ⟨j, a, b, (ex j a (by omega)).mpr c⟩
  have w4 : 0 ≤ outOfS ρ q id ↔ 0 < outc ρ (16 * q + id) := by
    unfold outOfS
    rw [fnd_pos (by omega), outc, sm_pos (f := out1c ρ (16 * q + id)) (fun _ => ite01)]
    have ex : ∀ j, 0 ≤ j → j < ρ 814 → (outIs ρ q id j = true ↔ 0 < out1c ρ (16 * q + id) j) := by
      intro j g0 g1
      have b := h.2.2.1.2.2 j g0 g1
      unfold out1OK at b
      have hr : outIs ρ q id j = true ↔ ρ (494 + 4 * j) = q ∧ ρ (495 + 4 * j) = id := by simp [outIs]
      rw [hr]
      unfold out1c
      by_cases c1 : 16 * ρ (494 + 4 * j) + ρ (495 + 4 * j) = 16 * q + id
      · rw [if_pos c1]
        constructor
        · intro _; decide
        · intro _; exact ⟨by omega, by omega⟩
      · rw [if_neg c1]
        constructor
        · intro _; omega
        · intro h; exact absurd h (by decide)
    constructor
    · rintro ⟨j, a, b, c⟩
      exact ⟨j, a, b, (ex j a (by omega)).mp c⟩
    · rintro ⟨j, a, b, c⟩
      exact ⟨j, a, b, (ex j a (by omega)).mpr c⟩
  have n1 := rngc_nn ρ q (16 * q + id)
  have n2 := pstc_nn ρ q (16 * q + id)
  have n3 := runc_nn ρ (16 * q + id)
  have n4 := outc_nn ρ (16 * q + id)
  have hu : usedS ρ q id = true ↔ (0 ≤ ringOfS ρ q id ∨ 0 ≤ runOfS ρ q id ∨ 0 ≤ outOfS ρ q id ∨ 0 ≤ postOfS ρ q id) := by
    unfold usedS; simp only [Bool.or_eq_true, decide_eq_true_eq, or_assoc]
  rw [hu, w1, w2, w3, w4, cnt, hq]
  omega
/-- how many COMMANDS run -/
def runm (ρ : RW) : Int := sm (fun k => 1 + (if 0 ≤ ρ (452 + 12 * k) then 1 else 0)) (ρ 493).toNat 0
theorem runc_all {C : CF} {ρ : RW} (h : W0 C ρ) (hn : C.1 ≤ 5) : sm (runc ρ) 80 0 = runm ρ := by
  unfold runc runm
  rw [sm_swap (fun k z => run1c ρ z k) 80 0]
  refine sm_congr _ _ (fun k h1 h2 => ?_)
  have b := h.2.1.2.2 k h1 (by have := h.2.1.1; omega)
  unfold run1OK at b
  have b1 := b.2.2.1
  unfold cmdOK at b1
  unfold run1c
  rw [sm_add, sm_ind 80 0 (by omega) (by omega)]
  rcases b.2.2.2.2.2 with b3 | ⟨_, b3, b4⟩
  · rw [if_neg (by omega), sm_zero 80 0 (fun z _ _ => if_neg (by omega))]
  · unfold cmdOK at b3
    have e2 : sm (fun z => if 0 ≤ ρ (452 + 12 * k) ∧ 16 * ρ (445 + 12 * k) + ρ (451 + 12 * k) = z then (1 : Int) else 0) 80 0 = 1 := by
      rw [sm_congr (g := fun z => if 16 * ρ (445 + 12 * k) + ρ (451 + 12 * k) = z then (1 : Int) else 0) 80 0 (fun z _ _ => ?_), sm_ind 80 0 (by omega) (by omega)]
      by_cases e : 16 * ρ (445 + 12 * k) + ρ (451 + 12 * k) = z
      · rw [if_pos ⟨by omega, e⟩, if_pos e]
      · rw [if_neg (fun g => e g.2), if_neg e]
    rw [e2, if_pos (by omega)]
theorem outc_all {C : CF} {ρ : RW} (h : W0 C ρ) (hn : C.1 ≤ 5) : sm (outc ρ) 80 0 = ρ 814 := by
  unfold outc
  rw [sm_swap (fun k z => out1c ρ z k) 80 0, sm_congr (g := fun _ => 1) _ _ (fun k h1 h2 => ?_), sm_const]
  · have := h.2.2.1.1; omega
  · have b := h.2.2.1.2.2 k h1 (by have := h.2.2.1.1; omega)
    unfold out1OK at b
    unfold out1c
    exact sm_ind 80 0 (by omega) (by omega)
/-- there is room in the outbox for all that runs -/
theorem out_room {C : CF} {ρ : RW} (h : WF C ρ) (hn : C.1 ≤ 5) : runm ρ + ρ 814 ≤ 80 := by
  rw [← runc_all h.1 hn, ← outc_all h.1 hn, ← sm_add]
  have := sm_le (f := fun z => runc ρ z + outc ρ z) (g := fun _ => 1) 80 0 (fun z _ _ => by have := h.2 z; have := quec_nn ρ z; unfold cnt at *; omega)
  rw [sm_const] at this
  omega
theorem runm_ge {ρ : RW} {k : Int} (h0 : 0 ≤ k) (h1 : k < ρ 493) : 1 + (if 0 ≤ ρ (452 + 12 * k) then 1 else 0) ≤ runm ρ := by
  have := sm_one (f := fun j => if j = k then (0 : Int) else 1 + (if 0 ≤ ρ (452 + 12 * j) then 1 else 0)) (g := fun j => 1 + (if 0 ≤ ρ (452 + 12 * j) then 1 else 0)) (q := k) (ρ 493).toNat 0 h0 (by omega) (fun j _ _ h => by rw [if_neg h])
  unfold runm
  rw [this, if_pos rfl]
  have nn : 0 ≤ sm (fun j => if j = k then (0 : Int) else 1 + (if 0 ≤ ρ (452 + 12 * j) then 1 else 0)) (ρ 493).toNat 0 := sm_nonneg _ _ (fun j _ _ => by
    split
    · exact Int.le_refl 0
    · have := @ite01 (0 ≤ ρ (452 + 12 * j)) _; omega)
  omega
