/-! the reference reads: signs, digits, letters, codes */ -/
def RF (I J : II) : Prop := (∀ x, x ≠ 427 → x ≠ 431 → J x = I x) ∧ ∀ k, k ≠ 5 → k ≠ 7 → k ≠ 11 → J 427 k = I 427 k
section ra06
variable {d : Nat} {S : SS} {I J K G : II} {t : Int → Int} {L p p' q r b s c ok u v n a k : Int} {cs c0 : List Int}
theorem up2_id (h : I a k = v) : up2 I a k v = I := by
  funext x y
  unfold up2
  split
  · rename_i g; rw [g.1, g.2, h]
  · rfl
theorem RF_refl : RF I I := ⟨fun _ _ _ => rfl, fun _ _ _ _ => rfl⟩
theorem RF_trans (h : RF I J) (g : RF J K) : RF I K := ⟨fun x x0 x1 => (g.1 x x0 x1).trans (h.1 x x0 x1), fun k k0 k1 k2 => (g.2 k k0 k1 k2).trans (h.2 k k0 k1 k2)⟩
theorem RF_up (h : RF I J) (hk : k = 5 ∨ k = 7 ∨ k = 11) : RF I (up2 J 427 k v) := ⟨fun x x0 x1 => by rw [up2_oth x0]; exact h.1 x x0 x1, fun j j0 j1 j2 => by rw [up2_miss (by omega)]; exact h.2 j j0 j1 j2⟩
theorem RF_cd (h : RF I J) {w1 w2 w3 : Int} : RF I (up2 (up2 J 431 w1 w2) 427 11 w3) := ⟨fun x x0 x1 => by rw [up2_oth x0, up2_oth x1]; exact h.1 x x0 x1, fun j j0 j1 j2 => by rw [up2_miss (by omega), up2_oth (by decide)]; exact h.2 j j0 j1 j2⟩
theorem m_sgn (hM : MA S 427) (e5 : J 427 5 = p) (e6 : J 427 6 = L) (p0 : 0 ≤ p) (pL : p ≤ L) (L1 : L ≤ 80) (c0 : 0 ≤ c) (c1 : c < 256) (ht : ∀ j, 0 ≤ j → j < L → 0 ≤ J 429 j ∧ J 429 j < 256) : ev (d + 1) 198 0 [(2, 427), (0, c), uU] [] S J = if p < L ∧ J 429 p = c then some ((0, 1), S, up2 J 427 5 (p + 1)) else some ((0, 0), S, J) := by
  have z : ∀ d' : Nat, ev (d' + 1) 198 28 [(2, 427), (0, c), uU] [] S J = some ((0, 0), S, J) := fun d' => by
    rw [E198_28, E198_29 hM, m_flag (Or.inl rfl)]
    simp only [Option.bind_some, psh_i]
    rw [E198_39 hM (Or.inl rfl), Int.add_zero, up2_id rfl]
  rw [E198_0 hM, e5, e6, w_small (z := p) (by omega) (by omega), w_small (z := L) (by omega) (by omega)]
  by_cases g : p < L
  · obtain ⟨t0, t1⟩ := ht p p0 g
    rw [if_pos g, gdR_pos (by omega), w_small (z := J 429 p) (by omega) (by omega), w_small (z := c) (by omega) (by omega)]
    by_cases g2 : J 429 p = c
    · rw [if_pos g2, if_pos ⟨g, g2⟩, E198_29 hM, m_flag (Or.inr rfl)]
      simp only [Option.bind_some, psh_i]
      rw [E198_39 hM (Or.inr rfl), e5]
    · rw [if_neg g2, if_neg (fun x => g2 x.2), z]
  · rw [if_neg g, if_neg (fun x => g x.1), z]
theorem m_dg (hM : MA S 427) (e5 : J 427 5 = p) (e6 : J 427 6 = L) (p0 : 0 ≤ p) (pL : p ≤ L) (L1 : L ≤ 80) (ht : ∀ j, 0 ≤ j → j < L → 0 ≤ J 429 j ∧ J 429 j < 256) : ev (d + 1) 201 0 [(2, 427)] [] S J = some ((0, if p < L ∧ 48 ≤ J 429 p ∧ J 429 p ≤ 57 then 1 else 0), S, J) := by
  rw [E201_0 hM, e5, e6, w_small (z := p) (by omega) (by omega), w_small (z := L) (by omega) (by omega)]
  by_cases g : p < L
  · obtain ⟨t0, t1⟩ := ht p p0 g
    rw [if_pos g, gdR_pos (by omega), w_small (z := J 429 p) (by omega) (by omega), m_in (by omega) (by omega) (by decide) (by decide) (by decide) (by decide)]
    simp only [Option.bind_some, psh_i]
    rw [E201_30]
    by_cases g2 : 48 ≤ J 429 p ∧ J 429 p ≤ 57
    · rw [if_pos g2, if_neg (by decide), if_pos ⟨g, g2⟩, E201_38 (Or.inr rfl)]
    · rw [if_neg g2, if_pos (by decide), if_neg (fun x => g2 x.2), E201_37, E201_38 (Or.inl rfl)]
  · rw [if_neg g, if_neg (fun x => g x.1), E201_37, E201_38 (Or.inl rfl)]
theorem m_nit (hM : MA S 427) (e5 : J 427 5 = p) (e6 : J 427 6 = L) (p0 : 0 ≤ p) (pL : p ≤ L) (L1 : L ≤ 80) (ht : ∀ j, 0 ≤ j → j < L → 0 ≤ J 429 j ∧ J 429 j < 256) (k0 : 0 ≤ k) (k1 : k ≤ a) (a1 : a ≤ 5) : ev (d + 2) 202 13 [(2, 427), (0, a), (0, v), (0, k)] [] S J = if k < a ∧ p < L ∧ 48 ≤ J 429 p ∧ J 429 p ≤ 57 then ev (d + 2) 202 13 [(2, 427), (0, a), (0, 10 * v + J 429 p - 48), (0, k + 1)] [] S (up2 J 427 5 (p + 1)) else some ((0, v), S, J) := by
  rw [E202_13 hM, w_small (z := k) (by omega) (by omega), w_small (z := a) (by omega) (by omega)]
  by_cases g : k < a
  · rw [if_pos g, m_dg hM e5 e6 p0 pL L1 ht]
    simp only [Option.bind_some, psh_i]
    rw [E202_22 hM]
    by_cases g2 : p < L ∧ 48 ≤ J 429 p ∧ J 429 p ≤ 57
    · rw [if_pos g2, if_neg (by decide), if_pos ⟨g, g2⟩, e5, w_small (z := p) (by omega) (by omega), gdR_pos (by omega)]
    · rw [if_neg g2, if_pos (by decide), if_neg (fun x => g2 x.2), E202_59]
  · rw [if_neg g, if_neg (fun x => g x.1), E202_59]
/-- a number of at most three digits -/
theorem m_num3 (hM : MA S 427) (e5 : J 427 5 = p) (e6 : J 427 6 = L) (p0 : 0 ≤ p) (L1 : L ≤ 80) (et : J 429 = t) (ht : ∀ j, 0 ≤ j → j < L → 0 ≤ t j ∧ t j < 256) (g : p < L ∧ 48 ≤ t p ∧ t p ≤ 57) : ∃ v k K, ev (d + 2) 202 0 [(2, 427), (0, 3), uU, uU] [] S J = some ((0, v), S, K) ∧ K 427 5 = p + k ∧ (∀ x, x ≠ 427 → K x = J x) ∧ (∀ j, j ≠ 5 → K 427 j = J 427 j) ∧ 1 ≤ k ∧ p + k ≤ L ∧ 0 ≤ v ∧ v < 1000 ∧ CLm t L p (p + k) 3 b 1 [v] := by
  have hb : ∀ j, p < j → j < L → t j < 256 := fun j j0 j1 => (ht j (by omega) j1).2
  have st : ev (d + 2) 202 0 [(2, 427), (0, 3), uU, uU] [] S J = ev (d + 2) 202 13 [(2, 427), (0, 3), (0, 10 * 0 + t p - 48), (0, 0 + 1)] [] S (up2 J 427 5 (p + 1)) := by
    rw [E202_0 hM, m_dg hM e5 e6 p0 (by omega) L1 (by rw [et]; exact ht), et, if_pos g]
    simp only [Option.bind_some, psh_i]
    rw [E202_4, if_neg (by decide), m_nit hM e5 e6 p0 (by omega) L1 (by rw [et]; exact ht) (by decide) (by decide) (by decide), et, if_pos ⟨by decide, g⟩]
  have s1 := m_nit (d := d) (S := S) (J := up2 J 427 5 (p + 1)) (p := p + 1) (L := L) (k := 0 + 1) (a := 3) (v := 10 * 0 + t p - 48) hM (up2_hit rfl rfl) (by rw [up2_miss (by decide)]; exact e6) (by omega) (by omega) L1 (by rw [up2_oth (by decide), et]; exact ht) (by decide) (by decide) (by decide)
  rw [up2_oth (by decide), et] at s1
  by_cases g1 : p + 1 < L ∧ 48 ≤ t (p + 1) ∧ t (p + 1) ≤ 57
  · rw [if_pos ⟨by decide, g1⟩] at s1
    generalize hJ2 : up2 (up2 J 427 5 (p + 1)) 427 5 (p + 1 + 1) = J2 at s1
    have o2 : ∀ x, x ≠ 427 → J2 x = J x := fun x hx => by rw [← hJ2, up2_oth hx, up2_oth hx]
    have k2 : ∀ j, j ≠ 5 → J2 427 j = J 427 j := fun j hj => by rw [← hJ2, up2_miss (by omega), up2_miss (by omega)]
    have a2 : J2 427 5 = p + 1 + 1 := by rw [← hJ2]; exact up2_hit rfl rfl
    have s2 := m_nit (d := d) (S := S) (J := J2) (p := p + 1 + 1) (L := L) (k := 0 + 1 + 1) (a := 3) (v := 10 * (10 * 0 + t p - 48) + t (p + 1) - 48) hM a2 (by rw [k2 6 (by decide)]; exact e6) (by omega) (by omega) L1 (by rw [o2 429 (by decide), et]; exact ht) (by decide) (by decide) (by decide)
    rw [o2 429 (by decide), et] at s2
    by_cases g2 : p + 1 + 1 < L ∧ 48 ≤ t (p + 1 + 1) ∧ t (p + 1 + 1) ≤ 57
    · rw [if_pos ⟨by decide, g2⟩] at s2
      generalize hJ3 : up2 J2 427 5 (p + 1 + 1 + 1) = J3 at s2
      have o3 : ∀ x, x ≠ 427 → J3 x = J x := fun x hx => by rw [← hJ3, up2_oth hx, o2 x hx]
      have k3 : ∀ j, j ≠ 5 → J3 427 j = J 427 j := fun j hj => by rw [← hJ3, up2_miss (by omega), k2 j hj]
      have a3 : J3 427 5 = p + 1 + 1 + 1 := by rw [← hJ3]; exact up2_hit rfl rfl
      have s3 := m_nit (d := d) (S := S) (J := J3) (p := p + 1 + 1 + 1) (L := L) (k := 0 + 1 + 1 + 1) (a := 3) (v := 10 * (10 * (10 * 0 + t p - 48) + t (p + 1) - 48) + t (p + 1 + 1) - 48) hM a3 (by rw [k3 6 (by decide)]; exact e6) (by omega) (by omega) L1 (by rw [o3 429 (by decide), et]; exact ht) (by decide) (by decide) (by decide)
      rw [if_neg (fun x => absurd x.1 (by decide))] at s3
      have cl := CL_num3 (L := L) (b := b) g.2 g1.2 g2.2 hb
      rw [show 10 * (10 * (t p - 48) + (t (p + 1) - 48)) + (t (p + 1 + 1) - 48) = 10 * (10 * (10 * 0 + t p - 48) + t (p + 1) - 48) + t (p + 1 + 1) - 48 by omega, show p + 1 + 1 + 1 = p + 3 by omega] at cl
      exact ⟨_, 3, J3, by rw [st, s1, s2, s3], by rw [a3]; omega, o3, k3, by decide, by omega, by omega, by omega, cl⟩
    · rw [if_neg (fun x => g2 x.2)] at s2
      have cl := CL_num2 (L := L) (b := b) g.2 g1.2 g2 hb
      rw [show 10 * (t p - 48) + (t (p + 1) - 48) = 10 * (10 * 0 + t p - 48) + t (p + 1) - 48 by omega, show p + 1 + 1 = p + 2 by omega] at cl
      exact ⟨_, 2, J2, by rw [st, s1, s2], by rw [a2]; omega, o2, k2, by decide, by omega, by omega, by omega, cl⟩
  · rw [if_neg (fun x => g1 x.2)] at s1
    have cl := CL_num1 (L := L) (b := b) g.2 g1 hb
    rw [show t p - 48 = 10 * 0 + t p - 48 by omega] at cl
    exact ⟨_, 1, _, by rw [st, s1], up2_hit rfl rfl, fun x hx => up2_oth hx, fun j hj => up2_miss (by omega), by decide, by omega, by omega, by omega, cl⟩
theorem m_num1 (hM : MA S 427) (e5 : J 427 5 = p) (e6 : J 427 6 = L) (p0 : 0 ≤ p) (pL : p ≤ L) (L1 : L ≤ 80) (ht : ∀ j, 0 ≤ j → j < L → 0 ≤ J 429 j ∧ J 429 j < 256) : ev (d + 2) 202 0 [(2, 427), (0, 1), uU, uU] [] S J = if p < L ∧ 48 ≤ J 429 p ∧ J 429 p ≤ 57 then some ((0, J 429 p - 48), S, up2 J 427 5 (p + 1)) else some ((0, -1), S, J) := by
  rw [E202_0 hM, m_dg hM e5 e6 p0 pL L1 ht]
  simp only [Option.bind_some, psh_i]
  rw [E202_4]
  by_cases g : p < L ∧ 48 ≤ J 429 p ∧ J 429 p ≤ 57
  · rw [if_pos g, if_neg (by decide), if_pos g, m_nit hM e5 e6 p0 pL L1 ht (by decide) (by decide) (by decide), if_pos ⟨by decide, g⟩, E202_13 hM, if_neg (by decide), E202_59, show 10 * 0 + J 429 p - 48 = J 429 p - 48 by omega]
  · rw [if_neg g, if_pos (by decide), if_neg g]
theorem m_of1 {l : List Nat} (hM : MA S 427) (e5 : J 427 5 = p) (e6 : J 427 6 = L) (p0 : 0 ≤ p) (pL : p ≤ L) (L1 : L ≤ 80) (ht : ∀ j, 0 ≤ j → j < L → 0 ≤ J 429 j ∧ J 429 j < 256) (hT : isT (-10 - a)) (hl : txt (-10 - a) = l) (hs : ∀ x ∈ l, x < 128) (h100 : (l.length : Int) < 100) : ∀ (m : Nat) (k : Int), 0 ≤ k → k + m = (l.length : Int) →
    ev (d + 4) 203 2 [(2, 427), (2, a), (0, k)] [] S J = if p < L ∧ 0 ≤ ix l (J 429 p) m k then some ((0, ix l (J 429 p) m k), S, up2 J 427 5 (p + 1)) else some ((0, -1), S, J) := by
  intro m
  induction m with
  | zero =>
    intro k k0 hk
    rw [E203_2 hT, t_len (d := d + 2) hT (by rw [hl]; exact h100), hl]
    simp only [Option.bind_some, psh_i]
    rw [E203_7 hM hT, w_small (z := k) (by omega) (by omega), w_small (z := (l.length : Int)) (by omega) (by omega), if_neg (by omega), E203_56, if_neg (fun x => absurd x.2 (by show ¬ (0 : Int) ≤ -1; decide))]
  | succ m ih =>
    intro k k0 hk
    have hlt : k.toNat < l.length := by omega
    have hx : l.getD k.toNat 0 < 128 := by
      rw [List.getD_eq_getElem?_getD, List.getElem?_eq_getElem hlt]
      exact hs _ (List.getElem_mem hlt)
    rw [E203_2 hT, t_len (d := d + 2) hT (by rw [hl]; exact h100), hl]
    simp only [Option.bind_some, psh_i]
    rw [E203_7 hM hT, w_small (z := k) (by omega) (by omega), w_small (z := (l.length : Int)) (by omega) (by omega), if_pos (by omega), e5, e6, w_small (z := p) (by omega) (by omega), w_small (z := L) (by omega) (by omega)]
    by_cases g : p < L
    · obtain ⟨t0, t1⟩ := ht p p0 g
      rw [if_pos g, t_at (d := d) hT k0 (by rw [hl]; omega) (by rw [hl]; exact h100) (by rw [hl]; exact hx), hl]
      simp only [Option.bind_some, psh_i]
      rw [E203_26 hM, e5, w_small (z := p) (by omega) (by omega), gdR_pos (by omega), w_small (z := ((l.getD k.toNat 0 : Nat) : Int)) (by omega) (by omega), w_small (z := J 429 p) (by omega) (by omega)]
      unfold ix
      by_cases g2 : ((l.getD k.toNat 0 : Nat) : Int) = J 429 p
      · rw [if_pos g2, if_pos g2, if_pos ⟨g, k0⟩]
      · rw [if_neg g2, if_neg g2]
        exact ih (k + 1) (by omega) (by omega)
    · rw [if_neg g, E203_56, if_neg (fun x => g x.1)]
theorem m_of' {l : List Nat} (hM : MA S 427) (e5 : J 427 5 = p) (e6 : J 427 6 = L) (p0 : 0 ≤ p) (pL : p ≤ L) (L1 : L ≤ 80) (ht : ∀ j, 0 ≤ j → j < L → 0 ≤ J 429 j ∧ J 429 j < 256) (hT : isT (-10 - a)) (hl : txt (-10 - a) = l) (hs : ∀ x ∈ l, x < 128) (h100 : (l.length : Int) < 100) :
    ev (d + 4) 203 0 [(2, 427), (2, a), uU] [] S J = if p < L ∧ 0 ≤ ix l (J 429 p) l.length 0 then some ((0, ix l (J 429 p) l.length 0), S, up2 J 427 5 (p + 1)) else some ((0, -1), S, J) := by
  rw [E203_0, m_of1 hM e5 e6 p0 pL L1 ht hT hl hs h100 l.length 0 (by decide) (by omega)]
theorem m_cd (hM : MA S 427) (h0 : J 427 11 = (c0.length : Int)) (h1 : (c0.length : Int) < 80) : ev d 200 0 [(2, 427), (0, v)] [] S J = some (uU, S, up2 (up2 J 431 (c0.length : Int) v) 427 11 ((c0.length : Int) + 1)) := by
  rw [E200_0 hM, h0, w_small (z := (c0.length : Int)) (by omega) (by omega), gdR_pos (by omega)]
theorem SK_cd (h : SK (J 431) c0) : SK (up2 (up2 J 431 (c0.length : Int) v) 427 11 u 431) (v :: c0) := by
  rw [up2_oth (by decide), up2_row]
  exact ⟨updR_hit rfl, SK_upd (Int.le_refl _) h⟩
end ra06
