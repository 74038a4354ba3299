/-! laps: a game of rings -/
section r98
variable {d : Nat} {S : SS} {I J G I2 : II} {C : CF} {ρ σ : RW} {a b p k v j m N : Int}
theorem lap_hit (k0 : 1 ≤ k) (k1 : k ≤ 9) (m0 : 0 ≤ m) (j0 : 1 ≤ j) (j1 : j ≤ k) (j2 : j ≤ m) : (m - j) % (k + 1) = 0 ↔ j = m % (k + 1) := by
  rcases (by omega : k = 1 ∨ k = 2 ∨ k = 3 ∨ k = 4 ∨ k = 5 ∨ k = 6 ∨ k = 7 ∨ k = 8 ∨ k = 9) with rfl | rfl | rfl | rfl | rfl | rfl | rfl | rfl | rfl <;> omega
theorem lap_r (k0 : 1 ≤ k) (k1 : k ≤ 9) (m0 : 0 ≤ m) : 0 ≤ m % (k + 1) ∧ m % (k + 1) ≤ k ∧ m % (k + 1) ≤ m := by
  rcases (by omega : k = 1 ∨ k = 2 ∨ k = 3 ∨ k = 4 ∨ k = 5 ∨ k = 6 ∨ k = 7 ∨ k = 8 ∨ k = 9) with rfl | rfl | rfl | rfl | rfl | rfl | rfl | rfl | rfl <;> omega
theorem m_lap1 (hM : MA S 427) (a0 : 2 ≤ a) (a1 : a ≤ 40) (k0 : 1 ≤ k) (k1 : k ≤ 9) (p0 : 0 ≤ p) (p1 : p ≤ a - 1) : ∀ (n : Nat) (j : Int) (I : II), 0 ≤ j → j ≤ k → j ≤ a - 1 - p → n = j.toNat → I 450 p = (if j < (a - 1 - p) % (k + 1) then (a - 1 - p) % (k + 1) else 0) → (∀ i, p < i → i ≤ a - 1 → I 450 i = (a - 1 - i) % (k + 1)) →
    ∃ J, ev d 301 76 [(2, 427), (0, a), (0, b), (0, k), (0, p), (0, j)] [] S I = ev d 301 51 [(2, 427), (0, a), (0, b), (0, k), (0, p + -1), (0, 0)] [] S J ∧ J 450 p = (a - 1 - p) % (k + 1) ∧ (∀ i, i ≠ p → J 450 i = I 450 i) ∧ ∀ x, x ≠ 450 → J x = I x := by
  have lr := lap_r k0 k1 (show 0 ≤ a - 1 - p by omega)
  have hK : KA S 450 20 41 := MA_k39 hM
  intro n
  induction n with
  | zero =>
    intro j I j0 j1 j2 hn hp hi
    have : j = 0 := by omega
    subst this
    refine ⟨I, ?_, ?_, fun _ _ => rfl, fun _ _ => rfl⟩
    · rw [E301_76 hM, if_neg (by decide)]
    · rw [hp]; split <;> omega
  | succ n ih =>
    intro j I j0 j1 j2 hn hp hi
    have hh := lap_hit (m := a - 1 - p) (j := j) k0 k1 (by omega) (by omega) j1 j2
    have ev1 : I 450 (p + j) = (a - 1 - p - j) % (k + 1) := by rw [hi (p + j) (by omega) (by omega), show a - 1 - (p + j) = a - 1 - p - j by omega]
    have b1 := lap_r (m := a - 1 - p - j) k0 k1 (by omega)
    have st : ev d 301 76 [(2, 427), (0, a), (0, b), (0, k), (0, p), (0, j)] [] S I = ev d 301 76 [(2, 427), (0, a), (0, b), (0, k), (0, p), (0, j + -1)] [] S (up2 I 450 p (if j = (a - 1 - p) % (k + 1) then j else I 450 p)) := by
      rw [E301_76 hM, w_small (z := j) (by omega) (by omega), if_pos (by omega), w_small (z := p + j) (by omega) (by omega), gdR_pos (by omega), ev1, w_small (z := (a - 1 - p - j) % (k + 1)) (by omega) (by omega), w_small (z := p) (by omega) (by omega), gdR_pos (by omega), E301_112 hK, E301_112 hK, w_small (z := p) (by omega) (by omega), gdR_pos (by omega), gdR_pos (by omega)]
      by_cases g : (a - 1 - p - j) % (k + 1) = 0
      · rw [if_pos g, if_pos (hh.mp g)]
      · rw [if_neg g, if_neg (fun x => g (hh.mpr x))]
    generalize hG : up2 I 450 p (if j = (a - 1 - p) % (k + 1) then j else I 450 p) = G at st
    obtain ⟨J, j1', j2', j3, j4⟩ := ih (j + -1) G (by omega) (by omega) (by omega) (by omega) (by
      rw [← hG, up2_hit rfl rfl, hp]
      by_cases g : j = (a - 1 - p) % (k + 1)
      · rw [if_pos g, if_pos (by omega)]; exact g
      · rw [if_neg g]
        by_cases g2 : j < (a - 1 - p) % (k + 1)
        · rw [if_pos g2, if_pos (by omega)]
        · rw [if_neg g2, if_neg (by omega)]) (fun i i0 i1 => by rw [← hG, up2_miss (by omega)]; exact hi i i0 i1)
    exact ⟨J, st.trans j1', j2', fun i hi' => by rw [j3 i hi', ← hG, up2_miss (by omega)], fun x hx => by rw [j4 x hx, ← hG, up2_oth hx]⟩
theorem m_lap2 (hM : MA S 427) (a0 : 2 ≤ a) (a1 : a ≤ 40) (k0 : 1 ≤ k) (k1 : k ≤ 9) (b0 : 0 ≤ b) (b1 : b ≤ a - 1) : ∀ (n : Nat) (p : Int) (a5 : AV) (I : II), -1 ≤ p → p ≤ a - 1 → n = (p + 1).toNat → (∀ i, p < i → i ≤ a - 1 → I 450 i = (a - 1 - i) % (k + 1)) →
    ∃ J, ev d 301 51 [(2, 427), (0, a), (0, b), (0, k), (0, p), a5] [] S I = some ((0, (a - 1 - b) % (k + 1)), S, J) ∧ ∀ x, x ≠ 450 → J x = I x := by
  intro n
  induction n with
  | zero =>
    intro p a5 I p0 p1 hn hi
    refine ⟨I, ?_, fun _ _ => rfl⟩
    rw [E301_51 hM, w_small (z := p) (by omega) (by omega), if_pos (by omega), w_small (z := b) (by omega) (by omega), gdR_pos (by omega), hi b (by omega) b1]
  | succ n ih =>
    intro p a5 I p0 p1 hn hi
    have lr := lap_r k0 k1 (show 0 ≤ a - 1 - p by omega)
    obtain ⟨j0, jj⟩ : ∃ j0 : Int, (if w (a - 1 - p) < w k then w (a - 1 - p) else w k) = j0 := ⟨_, rfl⟩
    have jv : 0 ≤ j0 ∧ j0 ≤ k ∧ j0 ≤ a - 1 - p ∧ (j0 = k ∨ j0 = a - 1 - p) := by
      rw [w_small (z := a - 1 - p) (by omega) (by omega), w_small (z := k) (by omega) (by omega)] at jj
      split at jj <;> omega
    obtain ⟨J, j1, j2, j3, j4⟩ := m_lap1 (d := d) (b := b) hM a0 a1 k0 k1 (show 0 ≤ p by omega) p1 j0.toNat j0 (up2 I 450 p 0) jv.1 jv.2.1 jv.2.2.1 rfl (by rw [up2_hit rfl rfl, if_neg (by omega)]) (fun i i0 i1 => by rw [up2_miss (by omega)]; exact hi i i0 i1)
    obtain ⟨Z, z1, z2⟩ := ih (p + -1) (0, 0) J (by omega) (by omega) (by omega) (fun i i0 i1 => by
      by_cases e : i = p
      · subst e; exact j2
      · rw [j3 i e, up2_miss (by omega)]; exact hi i (by omega) i1)
    refine ⟨Z, ?_, fun x hx => by rw [z2 x hx, j4 x hx, up2_oth hx]⟩
    rw [E301_51 hM, w_small (z := p) (by omega) (by omega), if_neg (by omega), gdR_pos (by omega), jj, j1, z1]
theorem call_laps (hS : SH S) (h : ST N I) (ha : isI a) (hb : isI b) (hk : isI k) : ∃ r I1 I2, ev (d + 100) 180 0 [(2, 0), (0, a), (0, b), (0, k)] [] S I = some ((0, r), S, I1) ∧ ev (d + 100) 301 0 [(2, 427), (0, a), (0, b), (0, k), uU, uU] [] S I1 = some ((0, r), S, I2) ∧ ST (N + 100000) I2 := by
  obtain ⟨hQ, hM⟩ := hS
  have fin0 : ST (N + 100000) (up2 I 427 0 0) := ST_le (ST_0 (v := 0) h) (by omega)
  have e2 : ev (d + 100) 301 0 [(2, 427), (0, a), (0, b), (0, k), uU, uU] [] S I = if 2 ≤ a ∧ a ≤ 40 ∧ 0 ≤ b ∧ b ≤ a - 1 ∧ 1 ≤ k ∧ k ≤ 9 then ev (d + 100) 301 51 [(2, 427), (0, a), (0, b), (0, k), (0, a - 1), uU] [] S (up2 I 427 0 0) else some ((0, -1), S, up2 I 427 0 0) := by
    rw [E301_0 hM, w_small ha.1 ha.2, m_in (by have := ha.1; omega) (by have := ha.2; omega) (by decide) (by decide) (by decide) (by decide)]
    simp only [Option.bind_some, psh_i]
    rw [E301_16]
    by_cases g1 : 2 ≤ a ∧ a ≤ 40
    · rw [if_pos g1, if_neg (by decide), w_small hb.1 hb.2, w_small (z := a - 1) (by omega) (by omega), m_in (by have := hb.1; omega) (by have := hb.2; omega) (by decide) (by decide) (by omega) (by omega)]
      simp only [Option.bind_some, psh_i]
      rw [E301_29]
      by_cases g2 : 0 ≤ b ∧ b ≤ a - 1
      · rw [if_pos g2, if_neg (by decide), w_small hk.1 hk.2, m_in (by have := hk.1; omega) (by have := hk.2; omega) (by decide) (by decide) (by decide) (by decide)]
        simp only [Option.bind_some, psh_i]
        rw [E301_41]
        by_cases g3 : 1 ≤ k ∧ k ≤ 9
        · rw [if_pos g3, if_neg (by decide), if_pos ⟨g1.1, g1.2, g2.1, g2.2, g3.1, g3.2⟩]
        · rw [if_neg g3, if_pos (by decide), E301_44, if_neg (by omega)]
      · rw [if_neg g2, if_pos (by decide), E301_44, if_neg (by omega)]
    · rw [if_neg g1, if_pos (by decide), E301_44, if_neg (by omega)]
  have e1 : ev (d + 100) 180 0 [(2, 0), (0, a), (0, b), (0, k)] [] S I = if 2 ≤ a ∧ a ≤ 40 ∧ 0 ≤ b ∧ b ≤ a - 1 ∧ 1 ≤ k ∧ k ≤ 9 then some ((0, (a - 1 - b) % (k + 1)), S, I) else some ((0, -1), S, I) := by
    rw [E180_0, w_small ha.1 ha.2, w_small hb.1 hb.2, w_small hk.1 hk.2, E180_33]
    by_cases g1 : a < 2
    · rw [if_pos g1, if_neg (by omega)]
    by_cases g2 : 40 < a
    · rw [if_neg g1, if_pos g2, if_neg (by omega)]
    by_cases g3 : b < 0
    · rw [if_neg g1, if_neg g2, if_pos g3, if_neg (by omega)]
    by_cases g4 : a - 1 < b
    · rw [if_neg g1, if_neg g2, if_neg g3, w_small (z := a - 1) (by omega) (by omega), if_pos g4, if_neg (by omega)]
    by_cases g5 : k < 1
    · rw [if_neg g1, if_neg g2, if_neg g3, w_small (z := a - 1) (by omega) (by omega), if_neg g4, if_pos g5, if_neg (by omega)]
    by_cases g6 : 9 < k
    · rw [if_neg g1, if_neg g2, if_neg g3, w_small (z := a - 1) (by omega) (by omega), if_neg g4, if_neg g5, if_pos g6, if_neg (by omega)]
    rw [if_neg g1, if_neg g2, if_neg g3, w_small (z := a - 1) (by omega) (by omega), if_neg g4, if_neg g5, if_neg g6, w_small (z := k + 1) (by omega) (by omega), gdR_pos (by omega), iRem_pos (by omega) (by omega) (by omega) (by omega), if_pos (by omega)]
  by_cases g : 2 ≤ a ∧ a ≤ 40 ∧ 0 ≤ b ∧ b ≤ a - 1 ∧ 1 ≤ k ∧ k ≤ 9
  · obtain ⟨J, j1, j2⟩ := m_lap2 (d := d + 100) (S := S) (a := a) (b := b) (k := k) hM g.1 g.2.1 g.2.2.2.2.1 g.2.2.2.2.2 g.2.2.1 g.2.2.2.1 (a - 1 + 1).toNat (a - 1) uU (up2 I 427 0 0) (by omega) (by omega) rfl (fun i i0 i1 => by omega)
    refine ⟨_, I, J, by rw [e1, if_pos g], by rw [e2, if_pos g, j1], tri_ST h OT_refl (fun x x0 _ _ _ _ _ x6 _ => by rw [j2 x x6, up2_oth x0]) (fun k hk => by rw [j2 427 (by decide), up2_miss (by omega)]) (cR_mem h.2.1 (by rw [j2 3 (by decide), up2_oth (by decide)]) (by rw [j2 4 (by decide), up2_oth (by decide)]) (by rw [j2 428 (by decide), up2_oth (by decide)]) (by rw [j2 427 (by decide), up2_miss (by decide)])) (by rw [j2 439 (by decide), up2_oth (by decide)]; exact BdN_le h.2.2.2.2.2.2.2.2.1 (by omega))⟩
  · exact ⟨-1, I, _, by rw [e1, if_neg g], by rw [e2, if_neg g], fin0⟩
end r98
