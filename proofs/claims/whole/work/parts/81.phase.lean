/-! phases -/
def phs (m j : Int) : Int := if j / m % 2 = 0 then 1 else 0
section r81
variable {d : Nat} {S : SS} {I J : II} {C : CF} {ρ : RW} {a b q c f k m P N : Int}
theorem phs_01 : phs m k = 0 ∨ phs m k = 1 := by unfold phs; split <;> simp
theorem div_b {j : Int} (m0 : 1 ≤ m) (j0 : 0 ≤ j) : 0 ≤ j / m ∧ j / m ≤ j := ⟨Int.ediv_nonneg j0 (by omega), Int.ediv_le_self _ j0⟩
theorem mod_b {j : Int} (m0 : 1 ≤ m) : 0 ≤ j % m ∧ j % m < m := ⟨Int.emod_nonneg _ (by omega), Int.emod_lt_of_pos _ (by omega)⟩
theorem c_phs {j : Int} (hL : LA S a) (hm : I a 1 = m) (m0 : 1 ≤ m) (m1 : m ≤ 8) (j0 : 0 ≤ j) (j1 : j < 2147483648) : ev d 90 0 [(2, a), (0, j)] [] S I = some ((0, phs m j), S, I) := by
  have b1 := div_b m0 j0
  rw [E90_0 hL, hm, w_small (z := m) (by omega) (by omega), if_pos (by omega), gdR_pos (by omega), iDiv_pos j0 j1 (by omega) (by omega), iRem_pos b1.1 (by omega) (by decide) (by decide), E90_22, E90_23, E90_23]
  unfold phs
  by_cases g : j / m % 2 = 0
  · rw [if_pos g, if_pos g]
  · rw [if_neg g, if_neg g]
theorem m_phs {j : Int} (hM : MA S 427) (h0 : 0 ≤ q) (h1 : q < 5) (hm : I 435 q = m) (m0 : 1 ≤ m) (m1 : m ≤ 8) (j0 : 0 ≤ j) (j1 : j < 2147483648) : ev (d + 1) 275 0 [(2, 427), (0, q), (0, j)] [] S I = some ((0, phs m j), S, I) := by
  have b1 := div_b m0 j0
  have f0 : ∀ v : Int, (v = 0 ∨ v = 1) → ev d 199 0 [(0, v)] [] S I = some ((0, v), S, I) := fun v hv => m_flag hv
  rw [E275_0 hM, w_small (z := q) (by omega) (by omega), gdR_pos (by omega), hm, w_small (z := m) (by omega) (by omega), gdR_pos (by omega), iDiv_pos j0 j1 (by omega) (by omega), iRem_pos b1.1 (by omega) (by decide) (by decide), E275_18, E275_18, f0 1 (Or.inr rfl), f0 0 (Or.inl rfl)]
  simp only [Option.bind_some, psh_i]
  rw [E275_21, E275_21]
  unfold phs
  by_cases g : j / m % 2 = 0
  · rw [if_pos g, if_pos g]
  · rw [if_neg g, if_neg g]
theorem c_mask (hL : LA S a) (hm : I a 1 = m) (m0 : 1 ≤ m) (m1 : m ≤ 8) (hP : I a 9 = P) (hP1 : P < 2147483648) : ∀ (n : Nat) (k x : Int), 0 ≤ k → k ≤ P → n = (P - k).toNat → 0 ≤ x → x < 65536 → ∃ y, ev (d + 1) 97 16 [(2, a), (0, x), (0, k)] [] S I = some ((0, y), S, I) ∧ 0 ≤ y ∧ y < 65536 ∧ ∀ s : Nat, (y.toNat.testBit s = true ↔ x.toNat.testBit s = true ∨ ∃ j, k ≤ j ∧ j < P ∧ (j % m).toNat = s ∧ phs m j = 1) := by
  intro n
  induction n with
  | zero =>
    intro k x k0 k1 hn x0 x1
    refine ⟨x, ?_, x0, x1, fun s => ⟨fun h => Or.inl h, fun h => ?_⟩⟩
    · rw [E97_16 hL, hP, w_small (z := k) (by omega) (by omega), w_small (z := P) (by omega) (by omega), if_neg (by omega)]
    · rcases h with h | ⟨j, h⟩
      · exact h
      · omega
  | succ n ih =>
    intro k x k0 k1 hn x0 x1
    have bm := mod_b (j := k) m0
    rw [E97_16 hL, hP, w_small (z := k) (by omega) (by omega), w_small (z := P) (by omega) (by omega), if_pos (by omega), hm, w_small (z := m) (by omega) (by omega), if_pos (by omega), c_phs hL hm m0 m1 k0 (by omega)]
    simp only [Option.bind_some, psh_i]
    have pw : w (phs m k) = phs m k := by rcases phs_01 (m := m) (k := k) with e | e <;> rw [e] <;> decide
    rw [E97_36 hL, pw, hm, w_small (z := m) (by omega) (by omega), gdR_pos (by omega), iRem_pos k0 (by omega) (by omega) (by omega)]
    by_cases g : phs m k = 1
    · rw [if_pos g, E97_51]
      obtain ⟨b0, b1, b2⟩ := bit_set x0 x1 bm.1 (by omega : k % m < 16)
      obtain ⟨y, y0, y1, y2, y3⟩ := ih (k + 1) _ (by omega) (by omega) (by omega) b0 b1
      refine ⟨y, y0, y1, y2, fun s => ?_⟩
      rw [y3 s, b2 s, Bool.or_eq_true, decide_eq_true_eq]
      constructor
      · rintro ((h | h) | ⟨j, h1, h2, h3, h4⟩)
        · exact Or.inl h
        · exact Or.inr ⟨k, by omega, by omega, h, g⟩
        · exact Or.inr ⟨j, by omega, h2, h3, h4⟩
      · rintro (h | ⟨j, h1, h2, h3, h4⟩)
        · exact Or.inl (Or.inl h)
        · by_cases e : j = k
          · subst e; exact Or.inl (Or.inr h3)
          · exact Or.inr ⟨j, by omega, h2, h3, h4⟩
    · rw [if_neg g, E97_51]
      obtain ⟨y, y0, y1, y2, y3⟩ := ih (k + 1) _ (by omega) (by omega) (by omega) x0 x1
      refine ⟨y, y0, y1, y2, fun s => ?_⟩
      rw [y3 s]
      constructor
      · rintro (h | ⟨j, h1, h2, h3, h4⟩)
        · exact Or.inl h
        · exact Or.inr ⟨j, by omega, h2, h3, h4⟩
      · rintro (h | ⟨j, h1, h2, h3, h4⟩)
        · exact Or.inl h
        · by_cases e : j = k
          · subst e; exact absurd h4 g
          · exact Or.inr ⟨j, by omega, h2, h3, h4⟩
theorem m_down {x s : Int} (hM : MA S 427) (h0 : 0 ≤ q) (h1 : q < 5) (hm : I 435 q = m) (m0 : 1 ≤ m) (m1 : m ≤ 8) (s0 : 0 ≤ s) (s1 : s < 8) : ∀ (n : Nat) (j : Int), -1 ≤ j → j < 2147483647 → n = (j + 1).toNat → ∃ t, -1 ≤ t ∧ t ≤ j ∧ (0 ≤ t → t % m = s) ∧ (∀ i, t < i → i ≤ j → i % m ≠ s) ∧ ev d 274 42 [(2, 427), (0, q), (0, x), (0, s), (0, j)] [] S I = ev d 274 66 [(2, 427), (0, q), (0, x), (0, s), (0, t)] [] S I := by
  intro n
  induction n with
  | zero =>
    intro j j0 j1 hn
    refine ⟨j, j0, by omega, fun h => by omega, fun i i0 i1 => by omega, ?_⟩
    rw [E274_42 hM, w_small (z := j) (by omega) (by omega), if_pos (by omega)]
  | succ n ih =>
    intro j j0 j1 hn
    have bm := mod_b (j := j) m0
    rw [E274_42 hM, w_small (z := j) (by omega) (by omega), if_neg (by omega), w_small (z := q) (by omega) (by omega), gdR_pos (by omega), hm, w_small (z := m) (by omega) (by omega), gdR_pos (by omega), iRem_pos (by omega) (by omega) (by omega) (by omega), w_small (z := s) (by omega) (by omega)]
    by_cases g : j % m = s
    · rw [if_pos g]
      exact ⟨j, by omega, by omega, fun _ => g, fun i i0 i1 => by omega, rfl⟩
    · rw [if_neg g]
      obtain ⟨t, t0, t1, t2, t3, t4⟩ := ih (j + -1) (by omega) (by omega) (by omega)
      refine ⟨t, t0, by omega, t2, fun i i0 i1 => ?_, t4⟩
      by_cases e : i = j
      · rw [e]; exact g
      · exact t3 i i0 (by omega)
theorem iOr_0 {x : Int} (x0 : 0 ≤ x) (x1 : x < 65536) : iOr x 0 = x := by
  rw [iOr_nat x0 (by omega) (by decide) (by decide)]; simp; omega
theorem mod_eq {i j : Int} (m0 : 1 ≤ m) (h : i % m = j % m) (h1 : j ≤ i) (h2 : i - j < m) : i = j := by
  have e := Int.emod_emod_of_dvd (i - j) (Int.dvd_refl m)
  have e2 : (i - j) % m = 0 := Int.emod_eq_emod_iff_emod_sub_eq_zero.mp h
  rw [Int.emod_eq_of_lt (by omega) h2] at e2
  omega
theorem m_mask (hM : MA S 427) (h0 : 0 ≤ q) (h1 : q < 5) (hm : I 435 q = m) (m0 : 1 ≤ m) (m1 : m ≤ 8) (hP : I 438 (89 * q + 5) = P) (hP0 : 0 ≤ P) (hP1 : P < 2147483647) : ∀ (n : Nat) (s x : Int) (a4 : AV), 0 ≤ s → s ≤ m → n = (m - s).toNat → 0 ≤ x → x < 65536 → ∃ y z, ev (d + 2) 274 19 [(2, 427), (0, q), (0, x), (0, s), a4] [] S I = ev (d + 2) 274 19 [(2, 427), (0, q), (0, y), (0, m), z] [] S I ∧ 0 ≤ y ∧ y < 65536 ∧ ∀ s' : Nat, (y.toNat.testBit s' = true ↔ x.toNat.testBit s' = true ∨ s ≤ s' ∧ ∃ j, (if 0 < P - m then P - m else 0) ≤ j ∧ j < P ∧ (j % m).toNat = s' ∧ phs m j = 1) := by
  have hK := isRw_K hM (Or.inl rfl : isRw 438)
  intro n
  induction n with
  | zero =>
    intro s x a4 s0 s1 hn x0 x1
    have : s = m := by omega
    subst this
    refine ⟨x, a4, rfl, x0, x1, fun s' => ⟨fun h => Or.inl h, fun h => ?_⟩⟩
    rcases h with h | ⟨h, j, j0, j1, j2, j3⟩
    · exact h
    · have bm := mod_b (j := j) m0
      omega
  | succ n ih =>
    intro s x a4 s0 s1 hn x0 x1
    rw [E274_19 hM, w_small (z := q) (by omega) (by omega), gdR_pos (by omega), hm, w_small (z := s) (by omega) (by omega), w_small (z := m) (by omega) (by omega), if_pos (by omega), m_of hK (by omega) (by omega), hP]
    simp only [Option.bind_some, psh_i]
    obtain ⟨t, t0, t1, t2, t3, t4⟩ := m_down (d := d + 2) (S := S) (x := x) hM h0 h1 hm m0 m1 s0 (by omega) (P - 1 + 1).toNat (P - 1) (by omega) (by omega) rfl
    rw [E274_38, t4, E274_66 hM, w_small (z := t) (by omega) (by omega)]
    have hs1 : 0 ≤ s + 1 ∧ s + 1 ≤ m ∧ n = (m - (s + 1)).toNat := ⟨by omega, by omega, by omega⟩
    have lem : (0 ≤ t ∧ phs m t = 1) ↔ ∃ j, (if 0 < P - m then P - m else 0) ≤ j ∧ j < P ∧ (j % m).toNat = s.toNat ∧ phs m j = 1 := by
      constructor
      · rintro ⟨u0, u1⟩
        refine ⟨t, ?_, by omega, by rw [t2 u0], u1⟩
        split
        · by_cases e : P - m ≤ t
          · exact e
          · exfalso
            have := t3 (t + m) (by omega) (by omega)
            rw [Int.add_emod_right] at this
            exact this (t2 u0)
        · exact u0
      · rintro ⟨j, j0, j1, j2, j3⟩
        have jn : 0 ≤ j := by split at j0 <;> omega
        have bm := mod_b (j := j) m0
        have js : j % m = s := by omega
        have jt : j ≤ t := by
          by_cases e : j ≤ t
          · exact e
          · exact absurd js (t3 j (by omega) (by omega))
        have e : t = j := mod_eq m0 (by rw [t2 (by omega), js]) jt (by split at j0 <;> omega)
        rw [e]; exact ⟨jn, j3⟩
    have step : ∀ (x' : Int), 0 ≤ x' → x' < 65536 → (∀ s' : Nat, (x'.toNat.testBit s' = true ↔ x.toNat.testBit s' = true ∨ s.toNat = s' ∧ 0 ≤ t ∧ phs m t = 1)) → ∃ y z, ev (d + 2) 274 19 [(2, 427), (0, q), (0, x'), (0, s + 1), (0, t)] [] S I = ev (d + 2) 274 19 [(2, 427), (0, q), (0, y), (0, m), z] [] S I ∧ 0 ≤ y ∧ y < 65536 ∧ ∀ s' : Nat, (y.toNat.testBit s' = true ↔ x.toNat.testBit s' = true ∨ s ≤ s' ∧ ∃ j, (if 0 < P - m then P - m else 0) ≤ j ∧ j < P ∧ (j % m).toNat = s' ∧ phs m j = 1) := by
      intro x' u0 u1 u2
      obtain ⟨y, z, y0, y1, y2, y3⟩ := ih (s + 1) x' (0, t) hs1.1 hs1.2.1 hs1.2.2 u0 u1
      refine ⟨y, z, y0, y1, y2, fun s' => ?_⟩
      rw [y3 s', u2 s', lem]
      constructor
      · rintro ((h | ⟨h, g⟩) | ⟨h, g⟩)
        · exact Or.inl h
        · subst h; exact Or.inr ⟨by omega, g⟩
        · exact Or.inr ⟨by omega, g⟩
      · rintro (h | ⟨h, g⟩)
        · exact Or.inl (Or.inl h)
        · by_cases e : s.toNat = s'
          · subst e; exact Or.inl (Or.inr ⟨rfl, g⟩)
          · exact Or.inr ⟨by omega, g⟩
    have st0 : ¬ (0 ≤ t ∧ phs m t = 1) → ∃ y z, ev (d + 2) 274 19 [(2, 427), (0, q), (0, iOr x 0), (0, s + 1), (0, t)] [] S I = ev (d + 2) 274 19 [(2, 427), (0, q), (0, y), (0, m), z] [] S I ∧ 0 ≤ y ∧ y < 65536 ∧ ∀ s' : Nat, (y.toNat.testBit s' = true ↔ x.toNat.testBit s' = true ∨ s ≤ s' ∧ ∃ j, (if 0 < P - m then P - m else 0) ≤ j ∧ j < P ∧ (j % m).toNat = s' ∧ phs m j = 1) := by
      intro ng
      rw [iOr_0 x0 x1]
      exact step x x0 x1 (fun s' => ⟨fun h => Or.inl h, fun h => h.elim id (fun h => absurd h.2 ng)⟩)
    by_cases g : t < 0
    · rw [if_pos g, E274_89, E274_90]
      exact st0 (by omega)
    · rw [if_neg g, m_phs (d := d) hM h0 h1 hm m0 m1 (by omega) (by omega)]
      simp only [Option.bind_some, psh_i]
      have pw : w (phs m t) = phs m t := by rcases phs_01 (m := m) (k := t) with e | e <;> rw [e] <;> decide
      rw [E274_79, pw]
      by_cases g2 : phs m t = 1
      · rw [if_pos g2, E274_90]
        obtain ⟨b0, b1, b2⟩ := bit_set x0 x1 s0 (by omega : s < 16)
        exact step _ b0 b1 (fun s' => by
          rw [b2 s', Bool.or_eq_true, decide_eq_true_eq]
          constructor
          · rintro (h | h)
            · exact Or.inl h
            · exact Or.inr ⟨h, by omega, g2⟩
          · rintro (h | h)
            · exact Or.inl h
            · exact Or.inr h.1)
      · rw [if_neg g2, E274_89, E274_90]
        exact st0 (fun h => g2 h.2)
theorem call_phases (hS : SH S) (h : ST N I) (hN : N < 70000000) (hq : isI q) : ∃ r I1 I2, ev (d + 100) 164 0 [(2, 0), (0, q), uU] [] S I = some ((0, r), S, I1) ∧ ev (d + 100) 274 0 [(2, 427), (0, q), uU, uU, uU] [] S I1 = some ((0, r), S, I2) ∧ ST (N + 100000) I2 := by
  obtain ⟨hQ, hM⟩ := hS
  have hk := h.2.2.2.1.1
  have hn5 := hk.2.1
  have hD := h.2.2.2.1.2
  have hB := h.2.2.2.2.2.2.2.1
  have hK := isRw_K hM (Or.inl rfl : isRw 438)
  have e1 := E164_0 (d := d + 99) (I := I) (a1 := q) hQ
  rw [c_lane (DA5 hQ) hD.1.1 hk hq] at e1
  simp only [Option.bind_some, psh_r] at e1
  have rf : ∀ J : II, TF I J → ev (d + 100) 274 0 [(2, 427), (0, q), uU, uU, uU] [] S J = ev (d + 100) 274 10 [(2, 427), (0, q), uU, uU, uU] [(0, if 0 ≤ q ∧ q < (cfM I).1 then 1 else 0)] S (up2 J 427 0 0) := by
    intro J hJ
    rw [E274_0 hM, m_isQ0 (d := d + 98) hM (by rw [TF_cfM hJ]; exact hk) hq, TF_cfM hJ]
    simp only [Option.bind_some, psh_i]
  by_cases g : 0 ≤ q ∧ q < (cfM I).1
  · have q5 : q < 5 := by omega
    have kk := hk.2.2 q g.1 g.2
    have hL := DA_lane (DA5 hQ) g.1 q5
    have qo := hD.2.1.1.1 q g.1 q5
    have c := qo.1
    unfold cntsOK at c
    have b5 := hB (89 * q + 5)
    have b6 := hB (89 * q + 6)
    obtain ⟨lf, -⟩ := hD.1.2.2.2.2.1 q g.1 q5
    obtain ⟨k0, k1, k2, k3⟩ := lf.1 g.2
    have l9 := lan_f lf (f := 9) (by decide) (by decide)
    have l10 := lan_f lf (f := 10) (by decide) (by decide)
    rw [show (9 : Int) - 4 = 5 from rfl] at l9
    rw [show (10 : Int) - 4 = 6 from rfl] at l10
    generalize hm : (cfM I).2.2.1 q = m at *
    have bm := mod_b (m := m) (j := I 438 (89 * q + 6)) (by omega)
    have pw : w (phs m (I 438 (89 * q + 6))) = phs m (I 438 (89 * q + 6)) := by rcases phs_01 (m := m) (k := I 438 (89 * q + 6)) with e | e <;> rw [e] <;> decide
    generalize hg : updR (updR (fun _ => 0) 0 (I 438 (89 * q + 6) % m)) 1 (phs m (I 438 (89 * q + 6))) = gg
    have gg0 : gg 0 = I 438 (89 * q + 6) % m := by rw [← hg]; rfl
    have gg1 : gg 1 = phs m (I 438 (89 * q + 6)) := by rw [← hg]; rfl
    obtain ⟨A, a1, a2, a3⟩ := c_tell2 (d := d + 97) (S := S) (I := I) (x := I 438 (89 * q + 6) % m) (y := phs m (I 438 (89 * q + 6))) (RA3 hQ)
    rw [hg] at a2
    rw [if_pos g, E164_8 (Or.inr hL) hQ, if_neg (by omega), k1, w_small (z := m) (by omega) (by omega), if_neg (by omega), gdR_pos (by omega), l10, c_phs hL k1 (by omega) (by omega) (by omega) (by omega), iRem_pos (by omega) (by omega) (by omega) (by omega)] at e1
    simp only [Option.bind_some, psh_i] at e1
    rw [E164_45 (RA3 hQ), w_small (z := I 438 (89 * q + 6) % m) (by omega) (by omega), pw, a1] at e1
    simp only [Option.bind_some, psh_u] at e1
    rw [E164_49 hL, E97_0 hL, TF_hi a3 (by omega), k1, l9, w_small (z := I 438 (89 * q + 5) - m) (by omega) (by omega)] at e1
    have lo : 0 ≤ (if 0 < I 438 (89 * q + 5) - m then I 438 (89 * q + 5) - m else 0) ∧ (if 0 < I 438 (89 * q + 5) - m then I 438 (89 * q + 5) - m else 0) ≤ I 438 (89 * q + 5) := by split <;> omega
    obtain ⟨y, y0, y1, y2, y3⟩ := c_mask (d := d + 98) (I := A) (S := S) (P := I 438 (89 * q + 5)) (m := m) hL (by rw [TF_hi a3 (by omega), k1]) (by omega) (by omega) (by rw [TF_hi a3 (by omega), l9]) (by omega) _ _ 0 lo.1 lo.2 rfl (by decide) (by decide)
    rw [y0] at e1
    simp only [Option.bind_some, psh_i] at e1
    rw [E164_53] at e1
    have x38 : up2 A 427 0 0 438 = I 438 := by rw [up2_oth (by decide), TF_hi a3 (by decide)]
    have x435 : up2 A 427 0 0 435 q = m := by rw [up2_oth (by decide), TF_hi a3 (by decide)]; exact hm
    obtain ⟨y', z, z0, z1, z2, z3⟩ := m_mask (d := d + 98) (S := S) (I := up2 A 427 0 0) (P := I 438 (89 * q + 5)) (m := m) hM g.1 q5 x435 (by omega) (by omega) (by rw [x38]) (by omega) (by omega) (m - 0).toNat 0 0 uU (by decide) (by omega) rfl (by decide) (by decide)
    have ey : y' = y := by
      have : y'.toNat = y.toNat := by
        apply Nat.eq_of_testBit_eq
        intro s
        rw [Bool.eq_iff_iff, y3 s, z3 s]
        constructor
        · rintro (h | ⟨_, h⟩)
          · exact Or.inl h
          · exact Or.inr h
        · rintro (h | h)
          · exact Or.inl h
          · exact Or.inr ⟨by omega, h⟩
      omega
    subst ey
    obtain ⟨B, p1, p2, p3⟩ := m_next (d := d + 99) (S := S) (g := gg) (n := 0) (x := I 438 (89 * q + 6) % m) (I := up2 (up2 A 427 0 0) 427 1 0) hM MD_0 (by decide) (by decide) (by rw [gg0])
    obtain ⟨B2, q1, q2, q3⟩ := m_next (d := d + 99) (S := S) (g := gg) (n := 0 + 1) (x := phs m (I 438 (89 * q + 6))) (I := B) hM p2 (by decide) (by decide) (by rw [Int.zero_add, gg1])
    refine ⟨y', A, B2, e1, ?_, tl_ST h a3 a2 (fun x x0 x1 => by rw [q3.2 x x0 x1, p3.2 x x0 x1, up2_oth x0, up2_oth x0]) (fun k k0 k1 => by rw [q3.1 k k1, p3.1 k k1, up2_miss (by omega), up2_miss (by omega)]) q2 (by decide) (by decide)⟩
    rw [rf A a3, E274_10, if_pos g, if_neg (by decide), z0, E274_19 hM, w_small (z := q) (by omega) (by omega), gdR_pos (by omega), x435, w_small (z := m) (by omega) (by omega), if_neg (by omega), m_of hK (by omega) (by omega), up2_oth (by decide), x38]
    simp only [Option.bind_some, psh_i]
    rw [E274_114 hM, w_small (z := q) (by omega) (by omega), gdR_pos (by omega), up2_oth (by decide), x435, w_small (z := m) (by omega) (by omega), gdR_pos (by omega), iRem_pos (by omega) (by omega) (by omega) (by omega), w_small (z := I 438 (89 * q + 6) % m) (by omega) (by omega), p1]
    simp only [Option.bind_some, psh_u]
    have xB : B 438 = I 438 := by rw [p3.2 438 (by decide) (by decide), up2_oth (by decide), x38]
    have xB5 : B 435 q = m := by rw [p3.2 435 (by decide) (by decide), up2_oth (by decide), x435]
    rw [E274_125 hM, m_of hK (by omega) (by omega), xB]
    simp only [Option.bind_some, psh_i]
    rw [E274_138 hM, m_phs (d := d + 98) hM g.1 q5 xB5 (by omega) (by omega) (by omega) (by omega)]
    simp only [Option.bind_some, psh_i]
    rw [E274_141 hM, pw, q1]
    simp only [Option.bind_some, psh_u]
    rw [E274_145]
  · refine ⟨-1, I, _, ?_, ?_, ST_le (ST_0 (v := 0) h) (by omega)⟩
    · rw [e1, if_neg g, E164_8 (Or.inl rfl) hQ, if_pos rfl, E164_21]
    · rw [rf I TF_refl, E274_10, if_neg g, if_pos (by decide)]
end r81
