/-! the reference's row: what it finds in it -/
abbrev RW : Type := Int → Int
def fnd (p : Int → Bool) : Nat → Int → Int
  | 0, _ => -1
  | n + 1, k => if p k = true then k else fnd p n (k + 1)
theorem fnd_succ (p : Int → Bool) (n : Nat) (k : Int) : fnd p (n + 1) k = if p k = true then k else fnd p n (k + 1) := rfl
theorem fnd_lo (p : Int → Bool) : ∀ (n : Nat) (k : Int), fnd p n k = -1 ∨ k ≤ fnd p n k ∧ fnd p n k < k + n ∧ p (fnd p n k) = true := by
  intro n; induction n with
  | zero => intro k; exact Or.inl rfl
  | succ n ih =>
    intro k; rw [fnd_succ]
    by_cases h : p k = true
    · rw [if_pos h]; exact Or.inr ⟨by omega, by omega, h⟩
    · rw [if_neg h]
      rcases ih (k + 1) with h1 | ⟨h1, h2, h3⟩
      · exact Or.inl h1
      · exact Or.inr ⟨by omega, by omega, h3⟩
theorem fnd_not (p : Int → Bool) : ∀ (n : Nat) (k j : Int), k ≤ j → j < k + n → (fnd p n k = -1 ∨ j < fnd p n k) → 0 ≤ k → p j = false := by
  intro n; induction n with
  | zero => intro k j h1 h2; omega
  | succ n ih =>
    intro k j h1 h2 h3 h4
    rw [fnd_succ] at h3
    by_cases h : p k = true
    · rw [if_pos h] at h3; omega
    · rw [if_neg h] at h3
      by_cases hj : j = k
      · subst hj; exact Bool.eq_false_iff.mpr h
      · exact ih (k + 1) j (by omega) (by omega) h3 (by omega)
theorem fnd_all (p : Int → Bool) : ∀ (n : Nat) (k : Int), (∀ j, k ≤ j → j < k + n → p j = false) → fnd p n k = -1 := by
  intro n; induction n with
  | zero => intro k _; rfl
  | succ n ih =>
    intro k h
    rw [fnd_succ, if_neg (by rw [h k (by omega) (by omega)]; decide)]
    exact ih (k + 1) (fun j h1 h2 => h j (by omega) (by omega))
theorem fnd_congr {p p' : Int → Bool} : ∀ (n : Nat) (k : Int), (∀ j, k ≤ j → j < k + n → p j = p' j) → fnd p n k = fnd p' n k := by
  intro n; induction n with
  | zero => intro k _; rfl
  | succ n ih =>
    intro k h
    rw [fnd_succ, fnd_succ, h k (by omega) (by omega), ih (k + 1) (fun j h1 h2 => h j (by omega) (by omega))]
def rAt (q k : Int) : Int := 89 * q + 9 + 5 * (k % 8)
def pAt (q k : Int) : Int := 89 * q + 49 + 5 * (k % 8)
def ringOfS (r : RW) (q id : Int) : Int := if fnd (fun k => decide (r (rAt q k) = id)) (r (89 * q) - r (89 * q + 3)).toNat (r (89 * q + 3)) < 0 then -1 else fnd (fun k => decide (r (rAt q k) = id)) (r (89 * q) - r (89 * q + 3)).toNat (r (89 * q + 3)) - r (89 * q + 3)
def hasSecS (r : RW) (k : Int) : Bool := decide (0 ≤ r (452 + 12 * k))
def runIs (r : RW) (q id k : Int) : Bool := decide (r (445 + 12 * k) = q) && (decide (r (446 + 12 * k) = id) || hasSecS r k && decide (r (451 + 12 * k) = id))
def runOfS (r : RW) (q id : Int) : Int := fnd (runIs r q id) (r 493).toNat 0
def outIs (r : RW) (q id k : Int) : Bool := decide (r (494 + 4 * k) = q) && decide (r (495 + 4 * k) = id)
def outOfS (r : RW) (q id : Int) : Int := fnd (outIs r q id) (r 814).toNat 0
def postOfS (r : RW) (q id : Int) : Int := fnd (fun k => decide (r (pAt q k) = id)) (r (89 * q + 5) - r (89 * q + 6)).toNat (r (89 * q + 6))
def usedS (r : RW) (q id : Int) : Bool := decide (0 ≤ ringOfS r q id) || decide (0 ≤ runOfS r q id) || decide (0 ≤ outOfS r q id) || decide (0 ≤ postOfS r q id)
def freeS (r : RW) (q : Int) : Int := fnd (fun id => !usedS r q id) 16 0
/-- all numbers in a row are small -/
def Bd (r : RW) : Prop := ∀ k, -1 ≤ r k ∧ r k < 1073741824
/-- what the searches need of a row -/
def Cn (r : RW) : Prop := Bd r ∧ (∀ q, 0 ≤ q → q < 5 → 0 ≤ r (89 * q + 3) ∧ 0 ≤ r (89 * q + 6) ∧ 0 ≤ r (89 * q) ∧ 0 ≤ r (89 * q + 5)) ∧ r 493 ≤ 4 ∧ r 814 ≤ 80 ∧ 0 ≤ r 493 ∧ 0 ≤ r 814
theorem rAt_b {q k : Int} (h0 : 0 ≤ q) (h1 : q < 5) : 89 * q + 9 ≤ rAt q k ∧ rAt q k ≤ 89 * q + 44 := by unfold rAt; omega
theorem pAt_b {q k : Int} (h0 : 0 ≤ q) (h1 : q < 5) : 89 * q + 49 ≤ pAt q k ∧ pAt q k ≤ 89 * q + 84 := by unfold pAt; omega
section r30
variable {d : Nat} {S : SS} {I : II} {r q id k : Int}
theorem m_of (hK : KA S r 20 844) (h0 : 0 ≤ 89 * q + k) (h1 : 89 * q + k < 844) : ev d 212 0 [(2, r), (0, q), (0, k)] [] S I = some ((0, I r (89 * q + k)), S, I) := by
  rw [E212_0 hK, w_small (by omega) (by omega), gdR_pos (by omega)]
theorem m_rAt (h0 : 0 ≤ k) (h1 : k < 2147483648) : ev d 222 0 [(0, q), (0, k)] [] S I = some ((0, rAt q k), S, I) := by
  rw [E222_0, iRem_pos h0 h1 (by decide) (by decide)]; rfl
theorem m_pAt (h0 : 0 ≤ k) (h1 : k < 2147483648) : ev d 229 0 [(0, q), (0, k)] [] S I = some ((0, pAt q k), S, I) := by
  rw [E229_0, iRem_pos h0 h1 (by decide) (by decide)]; rfl
theorem m_ringOf1 (hK : KA S r 20 844) (hB : Bd (I r)) (h0 : 0 ≤ q) (h1 : q < 5) (hid : isI id) : ∀ (n : Nat) (k : Int), 0 ≤ k → k < 1073741824 → n = (I r (89 * q) - k).toNat →
    ev (d + 1) 221 7 [(2, r), (0, q), (0, id), (0, k)] [] S I = some ((0, if fnd (fun k => decide (I r (rAt q k) = id)) n k < 0 then -1 else fnd (fun k => decide (I r (rAt q k) = id)) n k - I r (89 * q + 3)), S, I) := by
  intro n
  induction n with
  | zero =>
    intro k hk0 hk1 hn
    have b := hB (89 * q)
    rw [E221_7, m_of hK (by omega) (by omega)]
    simp only [Option.bind_some, psh_i, Int.add_zero]
    rw [E221_14, w_small (by omega) (by omega), w_small (by omega) (by omega), if_neg (by omega)]
    rfl
  | succ n ih =>
    intro k hk0 hk1 hn
    have b := hB (89 * q)
    have b2 := hB (rAt q k)
    have b3 := rAt_b (k := k) h0 h1
    rw [E221_7, m_of hK (by omega) (by omega)]
    simp only [Option.bind_some, psh_i, Int.add_zero]
    rw [E221_14, w_small (by omega) (by omega), w_small (by omega) (by omega), if_pos (by omega), m_rAt hk0 (by omega)]
    simp only [Option.bind_some, psh_i]
    rw [E221_23 hK, Int.add_zero, w_small (z := rAt q k) (by omega) (by omega), gdR_pos (by omega), w_small (by omega) (by omega), w_small hid.1 hid.2, fnd_succ]
    by_cases h : I r (rAt q k) = id
    · rw [if_pos h, m_of hK (by omega) (by omega)]
      simp only [Option.bind_some, psh_i]
      rw [E221_37, if_pos (decide_eq_true h), if_neg (by omega)]
    · rw [if_neg h, if_neg (show ¬ (decide (I r (rAt q k) = id) = true) by simpa using h)]
      exact ih (k + 1) (by omega) (by omega) (by omega)
theorem m_ringOf (hK : KA S r 20 844) (hC : Cn (I r)) (h0 : 0 ≤ q) (h1 : q < 5) (hid : isI id) : ev (d + 1) 221 0 [(2, r), (0, q), (0, id), uU] [] S I = some ((0, ringOfS (I r) q id), S, I) := by
  have b := hC.1 (89 * q + 3)
  rw [E221_0, m_of hK (by omega) (by omega)]
  simp only [Option.bind_some, psh_i]
  rw [E221_6, m_ringOf1 hK hC.1 h0 h1 hid _ _ (hC.2.1 q h0 h1).1 (by omega) rfl]
  rfl
theorem m_hasSec (hK : KA S r 20 844) (hB : Bd (I r)) (h0 : 0 ≤ k) (h1 : k < 4) : ev (d + 1) 225 0 [(2, r), (0, k)] [] S I = some ((0, if hasSecS (I r) k = true then 1 else 0), S, I) := by
  have b := hB (452 + 12 * k)
  rw [E225_0, E224_0]
  simp only [Option.bind_some, psh_i]
  have e : 445 + 12 * k + 6 + 1 = 452 + 12 * k := by omega
  rw [E225_5 hK, e, w_small (z := 452 + 12 * k) (by omega) (by omega), gdR_pos (by omega), w_small (by omega) (by omega), hasSecS]
  by_cases h : 0 ≤ I r (452 + 12 * k)
  · rw [if_neg (by omega), E225_19 (Or.inr rfl), if_pos (decide_eq_true h)]
  · rw [if_pos (by omega), E225_19 (Or.inl rfl), if_neg (by simpa using h)]
theorem m_runOf1 (hK : KA S r 20 844) (hC : Cn (I r)) (hq : isI q) (hid : isI id) : ∀ (n : Nat) (k : Int) (x : AV), 0 ≤ k → k ≤ 100 → n = (I r 493 - k).toNat →
    ev (d + 2) 223 2 [(2, r), (0, q), (0, id), (0, k), x] [] S I = some ((0, fnd (runIs (I r) q id) n k), S, I) := by
  intro n
  have b := hC.1 493
  have hB := hC.1
  have b4 := hC.2.2.1
  induction n with
  | zero =>
    intro k x hk0 hk1 hn
    rw [E223_2 hK, w_small (z := 493) (by decide) (by decide), gdR_pos (by decide), w_small (z := k) (by omega) (by omega), w_small (by omega) (by omega), if_neg (by omega)]
    rfl
  | succ n ih =>
    intro k x hk0 hk1 hn
    have b1 := hB (446 + 12 * k)
    have b2 := hB (451 + 12 * k)
    have b3 := hB (445 + 12 * k)
    rw [E223_2 hK, w_small (z := 493) (by decide) (by decide), gdR_pos (by decide), w_small (z := k) (by omega) (by omega), w_small (by omega) (by omega), if_pos (by omega), E224_0]
    simp only [Option.bind_some, psh_i]
    have e1 : 445 + 12 * k + 1 + 0 = 446 + 12 * k := by omega
    have e2 : 445 + 12 * k + 6 + 0 = 451 + 12 * k := by omega
    have e3 : 445 + 12 * k + 0 = 445 + 12 * k := by omega
    have tail : ∀ v : Int, (v = 0 ∨ v = 1) → ev (d + 2) 223 53 [(2, r), (0, q), (0, id), (0, k), x] [(0, v)] S I = if I r (445 + 12 * k) = q ∧ v = 1 then some ((0, k), S, I) else some ((0, fnd (runIs (I r) q id) n (k + 1)), S, I) := by
      intro v hv
      rw [E223_53, E224_0]
      simp only [Option.bind_some, psh_i]
      rw [E223_60 hK, e3, w_small (z := 445 + 12 * k) (by omega) (by omega), gdR_pos (by omega), w_small (by omega) (by omega), w_small hq.1 hq.2, w_small (z := v) (by omega) (by omega), E223_74, ih (k + 1) _ (by omega) (by omega) (by omega)]
      by_cases h : I r (445 + 12 * k) = q
      · rw [if_pos h]
        rcases hv with rfl | rfl
        · rw [if_pos rfl, if_neg (by omega)]
        · rw [if_neg (by decide), if_pos ⟨h, rfl⟩]
      · rw [if_neg h, if_neg (by omega)]
    rw [E223_16 hK, e1, w_small (z := 446 + 12 * k) (by omega) (by omega), gdR_pos (by omega), w_small (by omega) (by omega), w_small hid.1 hid.2, E223_48, tail 1 (Or.inr rfl), m_hasSec hK hB hk0 (by omega), fnd_succ]
    have hr : runIs (I r) q id k = true ↔ I r (445 + 12 * k) = q ∧ (I r (446 + 12 * k) = id ∨ (hasSecS (I r) k = true ∧ I r (451 + 12 * k) = id)) := by
      simp [runIs]
    by_cases h : I r (446 + 12 * k) = id
    · rw [if_pos h]
      by_cases h2 : I r (445 + 12 * k) = q
      · rw [if_pos ⟨h2, rfl⟩, if_pos (hr.mpr ⟨h2, Or.inl h⟩)]
      · rw [if_neg (fun h3 => h2 h3.1), if_neg (fun h3 => h2 (hr.mp h3).1)]
    · rw [if_neg h]
      simp only [Option.bind_some, psh_i]
      rw [E223_30, E223_52, tail 0 (Or.inl rfl), if_neg (show ¬ (I r (445 + 12 * k) = q ∧ (0 : Int) = 1) by omega)]
      by_cases hs : hasSecS (I r) k = true
      · rw [if_pos hs, if_neg (by decide), E224_0]
        simp only [Option.bind_some, psh_i]
        rw [E223_38 hK, e2, w_small (z := 451 + 12 * k) (by omega) (by omega), gdR_pos (by omega), w_small (by omega) (by omega), w_small hid.1 hid.2, E223_48, tail 1 (Or.inr rfl), E223_52, tail 0 (Or.inl rfl), if_neg (show ¬ (I r (445 + 12 * k) = q ∧ (0 : Int) = 1) by omega)]
        by_cases h5 : I r (451 + 12 * k) = id
        · rw [if_pos h5]
          by_cases h2 : I r (445 + 12 * k) = q
          · rw [if_pos ⟨h2, rfl⟩, if_pos (hr.mpr ⟨h2, Or.inr ⟨hs, h5⟩⟩)]
          · rw [if_neg (fun h3 => h2 h3.1), if_neg (fun h3 => h2 (hr.mp h3).1)]
        · rw [if_neg h5, if_neg (fun h3 => by rcases (hr.mp h3).2 with h6 | h6; exact h h6; exact h5 h6.2)]
      · rw [if_neg hs, if_pos (by decide), if_neg (fun h3 => by rcases (hr.mp h3).2 with h6 | h6; exact h h6; exact hs h6.1)]
theorem m_runOf (hK : KA S r 20 844) (hC : Cn (I r)) (hq : isI q) (hid : isI id) : ev (d + 2) 223 0 [(2, r), (0, q), (0, id), uU, uU] [] S I = some ((0, runOfS (I r) q id), S, I) := by
  rw [E223_0, m_runOf1 hK hC hq hid (I r 493).toNat 0 uU (by decide) (by decide) (by omega)]
  rfl
theorem m_outOf1 (hK : KA S r 20 844) (hC : Cn (I r)) (hq : isI q) (hid : isI id) : ∀ (n : Nat) (k : Int), 0 ≤ k → k ≤ 100 → n = (I r 814 - k).toNat →
    ev (d + 1) 226 2 [(2, r), (0, q), (0, id), (0, k)] [] S I = some ((0, fnd (outIs (I r) q id) n k), S, I) := by
  intro n
  have b := hC.1 814
  have hB := hC.1
  have b4 := hC.2.2.2.1
  induction n with
  | zero =>
    intro k hk0 hk1 hn
    rw [E226_2 hK, w_small (z := 814) (by decide) (by decide), gdR_pos (by decide), w_small (z := k) (by omega) (by omega), w_small (by omega) (by omega), if_neg (by omega)]
    rfl
  | succ n ih =>
    intro k hk0 hk1 hn
    have b1 := hB (494 + 4 * k)
    have b2 := hB (495 + 4 * k)
    rw [E226_2 hK, w_small (z := 814) (by decide) (by decide), gdR_pos (by decide), w_small (z := k) (by omega) (by omega), w_small (by omega) (by omega), if_pos (by omega), E227_0]
    simp only [Option.bind_some, psh_i]
    have e1 : 494 + 4 * k + 0 = 494 + 4 * k := by omega
    have e2 : 494 + 4 * k + 1 = 495 + 4 * k := by omega
    rw [E226_16 hK, e1, w_small (z := 494 + 4 * k) (by omega) (by omega), gdR_pos (by omega), w_small (by omega) (by omega), w_small hq.1 hq.2, E226_37, ih (k + 1) (by omega) (by omega) (by omega), E227_0, fnd_succ]
    simp only [Option.bind_some, psh_i]
    rw [E226_28 hK, e2, w_small (z := 495 + 4 * k) (by omega) (by omega), gdR_pos (by omega), w_small (by omega) (by omega), w_small hid.1 hid.2, E226_37, ih (k + 1) (by omega) (by omega) (by omega)]
    by_cases h : I r (494 + 4 * k) = q
    · by_cases h2 : I r (495 + 4 * k) = id
      · rw [if_pos h, if_pos h2, if_pos (by simp [outIs, h, h2])]
      · rw [if_pos h, if_neg h2, if_neg (by simp [outIs, h2])]
    · rw [if_neg h, if_neg (by simp [outIs, h])]
theorem m_outOf (hK : KA S r 20 844) (hC : Cn (I r)) (hq : isI q) (hid : isI id) : ev (d + 1) 226 0 [(2, r), (0, q), (0, id), uU] [] S I = some ((0, outOfS (I r) q id), S, I) := by
  rw [E226_0, m_outOf1 hK hC hq hid (I r 814).toNat 0 (by decide) (by decide) (by omega)]
  rfl
theorem m_postOf1 (hK : KA S r 20 844) (hC : Cn (I r)) (h0 : 0 ≤ q) (h1 : q < 5) (hid : isI id) : ∀ (n : Nat) (k a : Int), 0 ≤ k → k < 1073741824 → (a = 0 ∨ a = 1) → n = (I r (89 * q + 5) - k).toNat →
    ev (d + 1) 228 11 [(2, r), (0, q), (0, id), (0, a), (0, k)] [] S I = some ((0, if a = 1 ∨ 0 ≤ fnd (fun k => decide (I r (pAt q k) = id)) n k then 1 else 0), S, I) := by
  intro n
  have hB := hC.1
  induction n with
  | zero =>
    intro k a hk0 hk1 ha hn
    have b := hB (89 * q + 5)
    rw [E228_11, m_of hK (by omega) (by omega)]
    simp only [Option.bind_some, psh_i]
    rw [E228_19 ha, w_small (by omega) (by omega), w_small (by omega) (by omega), if_neg (by omega)]
    rcases ha with rfl | rfl
    · rw [if_neg (by simp [fnd])]
    · rw [if_pos (Or.inl rfl)]
  | succ n ih =>
    intro k a hk0 hk1 ha hn
    have b := hB (89 * q + 5)
    have b2 := hB (pAt q k)
    have b3 := pAt_b (k := k) h0 h1
    rw [E228_11, m_of hK (by omega) (by omega)]
    simp only [Option.bind_some, psh_i]
    rw [E228_19 ha, w_small (by omega) (by omega), w_small (by omega) (by omega), if_pos (by omega), E228_40, E228_45, ih (k + 1) 1 (by omega) (by omega) (Or.inr rfl) (by omega), m_pAt hk0 (by omega), fnd_succ]
    rcases ha with rfl | rfl
    · rw [if_pos (by decide)]
      simp only [Option.bind_some, psh_i]
      rw [E228_33 hK, Int.add_zero, w_small (z := pAt q k) (by omega) (by omega), gdR_pos (by omega), w_small (by omega) (by omega), w_small hid.1 hid.2, E228_40, E228_45, E228_45, ih (k + 1) 1 (by omega) (by omega) (Or.inr rfl) (by omega), ih (k + 1) 0 (by omega) (by omega) (Or.inl rfl) (by omega)]
      by_cases h : I r (pAt q k) = id
      · rw [if_pos h, if_pos (show (1 : Int) = 1 ∨ _ from Or.inl rfl), if_pos (show decide (I r (pAt q k) = id) = true from decide_eq_true h), if_pos (Or.inr hk0)]
      · rw [if_neg h, if_neg (show ¬ (decide (I r (pAt q k) = id) = true) by simpa using h)]
    · rw [if_neg (by decide), if_pos (Or.inl rfl), if_pos (Or.inl rfl)]
theorem m_postOf (hK : KA S r 20 844) (hC : Cn (I r)) (h0 : 0 ≤ q) (h1 : q < 5) (hid : isI id) : ev (d + 1) 228 0 [(2, r), (0, q), (0, id), uU, uU] [] S I = some ((0, if 0 ≤ postOfS (I r) q id then 1 else 0), S, I) := by
  have b := hC.1 (89 * q + 6)
  rw [E228_0, m_of hK (by omega) (by omega)]
  simp only [Option.bind_some, psh_i]
  rw [E228_9, m_postOf1 hK hC h0 h1 hid _ _ 0 (hC.2.1 q h0 h1).2.1 (by omega) (Or.inl rfl) rfl]
  rw [← postOfS]
  by_cases c : 0 ≤ postOfS (I r) q id
  · rw [if_pos c, if_pos (Or.inr c)]
  · rw [if_neg c, if_neg (fun h => h.elim (fun h => absurd h (by decide)) c)]
theorem ringOf_b (ρ : RW) (q id : Int) (h : 0 ≤ ρ (89 * q + 3)) (hB : Bd ρ) : -1 ≤ ringOfS ρ q id ∧ ringOfS ρ q id < 1073741824 := by
  unfold ringOfS
  have b := hB (89 * q)
  have b1 := hB (89 * q + 3)
  rcases fnd_lo (fun k => decide (ρ (rAt q k) = id)) (ρ (89 * q) - ρ (89 * q + 3)).toNat (ρ (89 * q + 3)) with h1 | ⟨h1, h2, _⟩
  · rw [h1]; simp
  · rw [if_neg (by omega)]; omega
theorem fnd_b {p : Int → Bool} {n : Nat} {N : Int} (h : (n : Int) ≤ N) : -1 ≤ fnd p n 0 ∧ (fnd p n 0 = -1 ∨ fnd p n 0 < N) := by
  rcases fnd_lo p n 0 with h1 | ⟨h1, h2, _⟩ <;> omega
theorem m_used (hK : KA S r 20 844) (hC : Cn (I r)) (h0 : 0 ≤ q) (h1 : q < 5) (hid : isI id) : ev (d + 3) 220 0 [(2, r), (0, q), (0, id)] [] S I = some ((0, if usedS (I r) q id = true then 1 else 0), S, I) := by
  have hq : isI q := ⟨by omega, by omega⟩
  have b1 := ringOf_b (I r) q id (hC.2.1 q h0 h1).1 hC.1
  have b2 : -1 ≤ runOfS (I r) q id ∧ (runOfS (I r) q id = -1 ∨ runOfS (I r) q id < 5) := fnd_b (by have := hC.2.2.1; omega)
  have b3 : -1 ≤ outOfS (I r) q id ∧ (outOfS (I r) q id = -1 ∨ outOfS (I r) q id < 81) := fnd_b (by have := hC.2.2.2.1; omega)
  have fin1 : ∀ {dd : Nat}, ev dd 220 36 [(2, r), (0, q), (0, id)] [] S I = some ((0, 1), S, I) := by
    intro dd; rw [E220_36, E220_41 (Or.inr rfl)]
  rw [E220_0, m_ringOf hK hC h0 h1 hid]
  simp only [Option.bind_some, psh_i]
  rw [E220_6, w_small (by omega) (by omega), fin1]
  by_cases c1 : 0 ≤ ringOfS (I r) q id
  · rw [if_neg (by omega), if_pos (by simp [usedS, c1])]
  rw [if_pos (by omega), m_runOf hK hC hq hid]
  simp only [Option.bind_some, psh_i]
  rw [E220_15, w_small (by omega) (by omega), fin1]
  by_cases c2 : 0 ≤ runOfS (I r) q id
  · rw [if_neg (by omega), if_pos (by simp [usedS, c2])]
  rw [if_pos (by omega), m_outOf hK hC hq hid]
  simp only [Option.bind_some, psh_i]
  rw [E220_24, w_small (by omega) (by omega), fin1]
  by_cases c3 : 0 ≤ outOfS (I r) q id
  · rw [if_neg (by omega), if_pos (by simp [usedS, c3])]
  rw [if_pos (by omega), m_postOf hK hC h0 h1 hid]
  simp only [Option.bind_some, psh_i]
  rw [E220_33, fin1]
  by_cases c4 : 0 ≤ postOfS (I r) q id
  · rw [if_pos c4, if_neg (by decide), if_pos (by simp [usedS, c4])]
  · rw [if_neg c4, if_pos (by decide), E220_41 (Or.inl rfl), if_neg (by simp [usedS, c1, c2, c3, c4])]
theorem m_free1 (hK : KA S r 20 844) (hC : Cn (I r)) (h0 : 0 ≤ q) (h1 : q < 5) : ∀ (n : Nat) (k : Int), 0 ≤ k → k ≤ 16 → n = (16 - k).toNat →
    ev (d + 4) 219 2 [(2, r), (0, q), (0, k)] [] S I = some ((0, fnd (fun id => !usedS (I r) q id) n k), S, I) := by
  intro n
  induction n with
  | zero =>
    intro k hk0 hk1 hn
    rw [E219_2, w_small (by omega) (by omega), if_neg (by omega), E219_23, w_small (by omega) (by omega), if_pos (by omega), E219_34]
    rfl
  | succ n ih =>
    intro k hk0 hk1 hn
    rw [E219_2, w_small (by omega) (by omega), if_pos (by omega), m_used hK hC h0 h1 ⟨by omega, by omega⟩, fnd_succ]
    simp only [Option.bind_some, psh_i]
    rw [E219_14, ih (k + 1) (by omega) (by omega) (by omega)]
    by_cases c : usedS (I r) q k = true
    · rw [if_pos c, if_neg (by decide), if_neg (by simp [c])]
    · rw [if_neg c, if_pos (by decide), E219_23, w_small (by omega) (by omega), if_neg (by omega), E219_34, if_pos (by simpa using c)]
theorem m_free (hK : KA S r 20 844) (hC : Cn (I r)) (h0 : 0 ≤ q) (h1 : q < 5) : ev (d + 4) 219 0 [(2, r), (0, q), uU] [] S I = some ((0, freeS (I r) q), S, I) := by
  rw [E219_0, m_free1 hK hC h0 h1 16 0 (by decide) (by decide) (by decide)]
  rfl
end r30
