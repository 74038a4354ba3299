/-! sums over a stretch of numbers; how often a COMMAND is there -/
def sm (f : Int → Int) : Nat → Int → Int
  | 0, _ => 0
  | n + 1, k => f k + sm f n (k + 1)
theorem sm_succ (f : Int → Int) (n : Nat) (k : Int) : sm f (n + 1) k = f k + sm f n (k + 1) := rfl
theorem sm_congr {f g : Int → Int} : ∀ (n : Nat) (k : Int), (∀ j, k ≤ j → j < k + n → f j = g j) → sm f n k = sm g n k := by
  intro n; induction n with
  | zero => intro k _; rfl
  | succ n ih => intro k h; rw [sm_succ, sm_succ, h k (by omega) (by omega), ih (k + 1) (fun j h1 h2 => h j (by omega) (by omega))]
theorem sm_last (f : Int → Int) : ∀ (n : Nat) (k : Int), sm f (n + 1) k = sm f n k + f (k + n) := by
  intro n; induction n with
  | zero => intro k; simp [sm]
  | succ n ih =>
    intro k
    rw [sm_succ, ih (k + 1), sm_succ f n k]
    have e : k + 1 + (n : Int) = k + ((n + 1 : Nat) : Int) := by omega
    rw [e]; omega
theorem sm_nonneg {f : Int → Int} : ∀ (n : Nat) (k : Int), (∀ j, k ≤ j → j < k + n → 0 ≤ f j) → 0 ≤ sm f n k := by
  intro n; induction n with
  | zero => intro k _; exact Int.le_refl 0
  | succ n ih =>
    intro k h
    have h1 := h k (by omega) (by omega)
    have h2 := ih (k + 1) (fun j h1 h2 => h j (by omega) (by omega))
    rw [sm_succ]; omega
theorem sm_le {f g : Int → Int} : ∀ (n : Nat) (k : Int), (∀ j, k ≤ j → j < k + n → f j ≤ g j) → sm f n k ≤ sm g n k := by
  intro n; induction n with
  | zero => intro k _; exact Int.le_refl 0
  | succ n ih =>
    intro k h
    have h1 := h k (by omega) (by omega)
    have h2 := ih (k + 1) (fun j h1 h2 => h j (by omega) (by omega))
    rw [sm_succ, sm_succ]; omega
theorem sm_zero {f : Int → Int} : ∀ (n : Nat) (k : Int), (∀ j, k ≤ j → j < k + n → f j = 0) → sm f n k = 0 := by
  intro n; induction n with
  | zero => intro k _; rfl
  | succ n ih => intro k h; rw [sm_succ, h k (by omega) (by omega), ih (k + 1) (fun j h1 h2 => h j (by omega) (by omega))]; rfl
theorem sm_pos {f : Int → Int} (hf : ∀ j, 0 ≤ f j) : ∀ (n : Nat) (k : Int), 0 < sm f n k ↔ ∃ j, k ≤ j ∧ j < k + n ∧ 0 < f j := by
  intro n; induction n with
  | zero => intro k; constructor
            · intro h; exact absurd h (by simp [sm])
            · rintro ⟨j, h1, h2, _⟩; omega
  | succ n ih =>
    intro k
    have h0 := hf k
    have hn := sm_nonneg n (k + 1) (fun j _ _ => hf j)
    rw [sm_succ]
    constructor
    · intro h
      by_cases hk : 0 < f k
      · exact ⟨k, by omega, by omega, hk⟩
      · obtain ⟨j, h1, h2, h3⟩ := (ih (k + 1)).mp (by omega)
        exact ⟨j, by omega, by omega, h3⟩
    · rintro ⟨j, h1, h2, h3⟩
      by_cases hk : j = k
      · subst hk; omega
      · have := (ih (k + 1)).mpr ⟨j, by omega, by omega, h3⟩; omega
theorem sm_add (f g : Int → Int) : ∀ (n : Nat) (k : Int), sm (fun j => f j + g j) n k = sm f n k + sm g n k := by
  intro n; induction n with
  | zero => intro k; rfl
  | succ n ih => intro k; rw [sm_succ, sm_succ, sm_succ, ih (k + 1)]; omega
theorem sm_one {f g : Int → Int} {q : Int} : ∀ (n : Nat) (k : Int), k ≤ q → q < k + n → (∀ j, k ≤ j → j < k + n → j ≠ q → g j = f j) → sm g n k = sm f n k + (g q - f q) := by
  intro n; induction n with
  | zero => intro k h1 h2; omega
  | succ n ih =>
    intro k h1 h2 h
    rw [sm_succ, sm_succ]
    by_cases hk : q = k
    · subst hk
      rw [sm_congr n (q + 1) (fun j h3 h4 => h j (by omega) (by omega) (by omega))]; omega
    · rw [ih (k + 1) (by omega) (by omega) (fun j h3 h4 h5 => h j (by omega) (by omega) h5), h k (by omega) (by omega) (fun h => hk h.symm)]; omega
theorem sm_sh {f g : Int → Int} : ∀ (n : Nat) (k : Int), (∀ j, k ≤ j → j < k + n → g j = f (j + 1)) → sm g n k = sm f n (k + 1) := by
  intro n; induction n with
  | zero => intro k _; rfl
  | succ n ih => intro k h; rw [sm_succ, sm_succ, h k (by omega) (by omega), ih (k + 1) (fun j h5 h6 => h j (by omega) (by omega))]
/-- one is taken out -/
theorem sm_rem {f g : Int → Int} {m : Int} : ∀ (n : Nat) (k : Int), k ≤ m → m ≤ k + n → (∀ j, k ≤ j → j < m → g j = f j) → (∀ j, m ≤ j → j < k + n → g j = f (j + 1)) → sm g n k = sm f (n + 1) k - f m := by
  intro n; induction n with
  | zero => intro k h1 h2 _ _
            have : m = k := by omega
            subst this; simp [sm]
  | succ n ih =>
    intro k h1 h2 h3 h4
    by_cases hm : m = k
    · subst hm
      rw [sm_sh (n + 1) m (fun j h5 h6 => h4 j h5 h6), sm_succ f (n + 1) m]; omega
    · rw [sm_succ g, sm_succ f, ih (k + 1) (by omega) (by omega) (fun j h5 h6 => h3 j (by omega) h6) (fun j h5 h6 => h4 j h5 (by omega)), h3 k (by omega) (by omega)]; omega
theorem sm_swap (F : Int → Int → Int) (m : Nat) (k' : Int) : ∀ (n : Nat) (k : Int), sm (fun z => sm (fun j => F j z) n k) m k' = sm (fun j => sm (fun z => F j z) m k') n k := by
  intro n; induction n with
  | zero => intro k; exact sm_zero m k' (fun _ _ _ => rfl)
  | succ n ih =>
    intro k
    rw [sm_succ, ← ih (k + 1), ← sm_add]
    rfl
theorem sm_ind {c : Int} : ∀ (n : Nat) (k : Int), k ≤ c → c < k + n → sm (fun z => if c = z then 1 else 0) n k = 1 := by
  intro n k h1 h2
  rw [sm_one (f := fun _ => 0) (q := c) n k h1 h2 (fun j _ _ h => if_neg (fun h2 => h h2.symm)), sm_zero n k (fun _ _ _ => rfl), if_pos rfl]; rfl
theorem sm_const (c : Int) : ∀ (n : Nat) (k : Int), sm (fun _ => c) n k = n * c := by
  intro n; induction n with
  | zero => intro k; simp [sm]
  | succ n ih => intro k; rw [sm_succ, ih (k + 1), Int.natCast_add, Int.add_mul]; omega
theorem fnd_pos {p : Int → Bool} {n : Nat} {k : Int} (h : 0 ≤ k) : 0 ≤ fnd p n k ↔ ∃ j, k ≤ j ∧ j < k + n ∧ p j = true := by
  constructor
  · intro h1
    rcases fnd_lo p n k with h2 | ⟨h2, h3, h4⟩
    · omega
    · exact ⟨_, h2, h3, h4⟩
  · rintro ⟨j, h1, h2, h3⟩
    rcases fnd_lo p n k with h4 | ⟨h4, _, _⟩
    · have := fnd_not p n k j h1 h2 (Or.inl h4) h
      rw [h3] at this; exact absurd this (by decide)
    · omega
def rngc (ρ : RW) (q z : Int) : Int := sm (fun k => if 16 * q + ρ (rAt q k) = z then 1 else 0) (ρ (89 * q) - ρ (89 * q + 3)).toNat (ρ (89 * q + 3))
def pstc (ρ : RW) (q z : Int) : Int := sm (fun k => if 16 * q + ρ (pAt q k) = z then 1 else 0) (ρ (89 * q + 5) - ρ (89 * q + 6)).toNat (ρ (89 * q + 6))
def run1c (ρ : RW) (z k : Int) : Int := (if 16 * ρ (445 + 12 * k) + ρ (446 + 12 * k) = z then 1 else 0) + (if 0 ≤ ρ (452 + 12 * k) ∧ 16 * ρ (445 + 12 * k) + ρ (451 + 12 * k) = z then 1 else 0)
def runc (ρ : RW) (z : Int) : Int := sm (run1c ρ z) (ρ 493).toNat 0
def out1c (ρ : RW) (z k : Int) : Int := if 16 * ρ (494 + 4 * k) + ρ (495 + 4 * k) = z then 1 else 0
def outc (ρ : RW) (z : Int) : Int := sm (out1c ρ z) (ρ 814).toNat 0
def quec (ρ : RW) (z : Int) : Int := sm (fun q => rngc ρ q z + pstc ρ q z) 5 0
/-- how often a COMMAND of a QUEUE and an ID (z: 16 times the one, and the other) is there -/
def cnt (ρ : RW) (z : Int) : Int := quec ρ z + runc ρ z + outc ρ z
theorem ite01 {p : Prop} [Decidable p] : 0 ≤ (if p then (1 : Int) else 0) := by split <;> omega
theorem rngc_nn (ρ : RW) (q z : Int) : 0 ≤ rngc ρ q z := sm_nonneg _ _ (fun _ _ _ => ite01)
theorem pstc_nn (ρ : RW) (q z : Int) : 0 ≤ pstc ρ q z := sm_nonneg _ _ (fun _ _ _ => ite01)
theorem run1c_nn (ρ : RW) (z k : Int) : 0 ≤ run1c ρ z k := by unfold run1c; have := @ite01 (16 * ρ (445 + 12 * k) + ρ (446 + 12 * k) = z) _; have := @ite01 (0 ≤ ρ (452 + 12 * k) ∧ 16 * ρ (445 + 12 * k) + ρ (451 + 12 * k) = z) _; omega
theorem runc_nn (ρ : RW) (z : Int) : 0 ≤ runc ρ z := sm_nonneg _ _ (fun j _ _ => run1c_nn ρ z j)
theorem outc_nn (ρ : RW) (z : Int) : 0 ≤ outc ρ z := sm_nonneg _ _ (fun _ _ _ => ite01)
theorem quec_nn (ρ : RW) (z : Int) : 0 ≤ quec ρ z := sm_nonneg _ _ (fun q _ _ => by have := rngc_nn ρ q z; have := pstc_nn ρ q z; omega)
theorem rngc_congr {ρ σ : RW} {q : Int} (z : Int) (h0 : 0 ≤ q) (h1 : q < 5) (h : ∀ j, 89 * q ≤ j → j < 89 * q + 89 → σ j = ρ j) : rngc σ q z = rngc ρ q z := by
  unfold rngc
  rw [h (89 * q) (by omega) (by omega), h (89 * q + 3) (by omega) (by omega)]
  exact sm_congr _ _ (fun k _ _ => by have b := rAt_b (k := k) h0 h1; rw [h (rAt q k) (by omega) (by omega)])
theorem pstc_congr {ρ σ : RW} {q : Int} (z : Int) (h0 : 0 ≤ q) (h1 : q < 5) (h : ∀ j, 89 * q ≤ j → j < 89 * q + 89 → σ j = ρ j) : pstc σ q z = pstc ρ q z := by
  unfold pstc
  rw [h (89 * q + 5) (by omega) (by omega), h (89 * q + 6) (by omega) (by omega)]
  exact sm_congr _ _ (fun k _ _ => by have b := pAt_b (k := k) h0 h1; rw [h (pAt q k) (by omega) (by omega)])
theorem runc_congr {ρ σ : RW} (z : Int) (h : ∀ j, 445 ≤ j → j ≤ 493 → σ j = ρ j) (h4 : ρ 493 ≤ 4) : runc σ z = runc ρ z := by
  unfold runc
  rw [h 493 (by omega) (by omega)]
  exact sm_congr _ _ (fun k h1 h2 => by unfold run1c; rw [h (445 + 12 * k) (by omega) (by omega), h (446 + 12 * k) (by omega) (by omega), h (451 + 12 * k) (by omega) (by omega), h (452 + 12 * k) (by omega) (by omega)])
theorem outc_congr {ρ σ : RW} (z : Int) (h : ∀ j, 494 ≤ j → j ≤ 814 → σ j = ρ j) (h8 : ρ 814 ≤ 80) : outc σ z = outc ρ z := by
  unfold outc
  rw [h 814 (by omega) (by omega)]
  exact sm_congr _ _ (fun k h1 h2 => by unfold out1c; rw [h (494 + 4 * k) (by omega) (by omega), h (495 + 4 * k) (by omega) (by omega)])
theorem quec_congr {ρ σ : RW} (z : Int) (h : ∀ j, 0 ≤ j → j < 445 → σ j = ρ j) : quec σ z = quec ρ z := by
  unfold quec
  exact sm_congr _ _ (fun q h1 h2 => by rw [rngc_congr z (by omega) (by omega) (fun j h3 h4 => h j (by omega) (by omega)), pstc_congr z (by omega) (by omega) (fun j h3 h4 => h j (by omega) (by omega))])
/-- only one queue is another -/
theorem quec_one {ρ σ : RW} {q : Int} (z : Int) (h0 : 0 ≤ q) (h1 : q < 5) (h : ∀ q', 0 ≤ q' → q' < 5 → q' ≠ q → ∀ j, 89 * q' ≤ j → j < 89 * q' + 89 → σ j = ρ j) : quec σ z = quec ρ z + (rngc σ q z + pstc σ q z - (rngc ρ q z + pstc ρ q z)) := by
  unfold quec
  exact sm_one (q := q) 5 0 h0 (by omega) (fun q' h2 h3 h4 => by rw [rngc_congr z (by omega) (by omega) (h q' (by omega) (by omega) h4), pstc_congr z (by omega) (by omega) (h q' (by omega) (by omega) h4)])
