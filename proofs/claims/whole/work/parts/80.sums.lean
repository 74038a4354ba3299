/-! served, count, queue, row -/
section r80
variable {d : Nat} {S : SS} {I J : II} {C : CF} {ρ : RW} {a b q c f k N : Int}
theorem sm_sub (f g : Int → Int) : ∀ (n : Nat) (k : Int), sm (fun j => f j - g j) n k = sm f n k - sm g n k := by
  intro n
  induction n with
  | zero => intro k; rfl
  | succ n ih => intro k; rw [sm_succ, sm_succ, sm_succ, ih]; omega
theorem lan_f (h : lanfR C I a ρ q) (f0 : 4 ≤ f) (f1 : f < 13) : I a f = ρ (89 * q + (f - 4)) := by
  obtain ⟨_, _, l4, l5, l6, l7, l8, l9, l10, l11, l12⟩ := h
  rcases (by omega : f = 4 ∨ f = 5 ∨ f = 6 ∨ f = 7 ∨ f = 8 ∨ f = 9 ∨ f = 10 ∨ f = 11 ∨ f = 12) with rfl | rfl | rfl | rfl | rfl | rfl | rfl | rfl | rfl
  · rw [l4]; congr 1; omega
  · rw [l5]; rfl
  · rw [l6]; rfl
  · rw [l7]; rfl
  · rw [l8]; rfl
  · rw [l9]; rfl
  · rw [l10]; rfl
  · rw [l11]; rfl
  · rw [l12]; rfl
theorem c_detail (hL : LA S a) (h3 : I a 3 = 0 ∨ I a 3 = 1) (h12 : I a 12 = 0 ∨ I a 12 = 1) (f0 : 0 ≤ f) (f1 : f < 13) : ev d 81 0 [(2, a), (0, f)] [] S I = some ((0, I a f), S, I) := by
  rw [E81_0 hL, w_small (z := f) (by omega) (by omega)]
  rcases (by omega : f = 0 ∨ f = 1 ∨ f = 2 ∨ f = 3 ∨ f = 4 ∨ f = 5 ∨ f = 6 ∨ f = 7 ∨ f = 8 ∨ f = 9 ∨ f = 10 ∨ f = 11 ∨ f = 12) with rfl | rfl | rfl | rfl | rfl | rfl | rfl | rfl | rfl | rfl | rfl | rfl | rfl
  · rw [if_pos rfl]
  · rw [if_neg (by decide), if_pos rfl]
  · rw [if_neg (by decide), if_neg (by decide), if_pos rfl]
  · rw [if_neg (by decide), if_neg (by decide), if_neg (by decide), if_pos rfl, E81_91, E81_91]
    rcases h3 with e | e <;> rw [e] <;> rfl
  · rw [if_neg (by decide), if_neg (by decide), if_neg (by decide), if_neg (by decide), if_pos rfl]
  · rw [if_neg (by decide), if_neg (by decide), if_neg (by decide), if_neg (by decide), if_neg (by decide), if_pos rfl]
  · rw [if_neg (by decide), if_neg (by decide), if_neg (by decide), if_neg (by decide), if_neg (by decide), if_neg (by decide), if_pos rfl]
  · rw [if_neg (by decide), if_neg (by decide), if_neg (by decide), if_neg (by decide), if_neg (by decide), if_neg (by decide), if_neg (by decide), if_pos rfl]
  · rw [if_neg (by decide), if_neg (by decide), if_neg (by decide), if_neg (by decide), if_neg (by decide), if_neg (by decide), if_neg (by decide), if_neg (by decide), if_pos rfl]
  · rw [if_neg (by decide), if_neg (by decide), if_neg (by decide), if_neg (by decide), if_neg (by decide), if_neg (by decide), if_neg (by decide), if_neg (by decide), if_neg (by decide), if_pos rfl]
  · rw [if_neg (by decide), if_neg (by decide), if_neg (by decide), if_neg (by decide), if_neg (by decide), if_neg (by decide), if_neg (by decide), if_neg (by decide), if_neg (by decide), if_neg (by decide), if_pos rfl]
  · rw [if_neg (by decide), if_neg (by decide), if_neg (by decide), if_neg (by decide), if_neg (by decide), if_neg (by decide), if_neg (by decide), if_neg (by decide), if_neg (by decide), if_neg (by decide), if_neg (by decide), if_pos rfl]
  · rw [if_neg (by decide), if_neg (by decide), if_neg (by decide), if_neg (by decide), if_neg (by decide), if_neg (by decide), if_neg (by decide), if_neg (by decide), if_neg (by decide), if_neg (by decide), if_neg (by decide), if_neg (by decide), E81_144, E81_144]
    rcases h12 with e | e <;> rw [e] <;> rfl
theorem lan_12 (hc : cntsOK C ρ q) (h : lanfR C I a ρ q) : I a 12 = 0 ∨ I a 12 = 1 := by
  obtain ⟨_, _, _, _, _, _, _, _, _, _, l12⟩ := h
  unfold cntsOK at hc
  omega
theorem c_fsum (hD : DA S b) (h : RelD C I b ρ) (hk : okC C) (hc0 : 0 ≤ c) (hc1 : c < 4) : ∀ (n : Nat) (k x : Int), 0 ≤ k → k ≤ 5 → n = (5 - k).toNat → ev d 61 4 [(2, b), (0, c), (0, x), (0, k)] [] S I = some ((0, x + sm (fun q => if q < C.1 ∧ C.2.2.2.1 q = c then ρ (89 * q + 3) else 0) n k), S, I) := by
  have hn0 := hk.1
  have hn5 := hk.2.1
  have e0 : I b 0 = C.1 := h.1.1
  intro n
  induction n with
  | zero =>
    intro k x k0 k1 hn
    rw [E61_4 hD, w_small (z := k) (by omega) (by omega), e0, w_small (z := C.1) (by omega) (by omega), if_neg (by omega), E61_52]
    simp [sm]
  | succ n ih =>
    intro k x k0 k1 hn
    by_cases g : k < C.1
    · obtain ⟨lf, -⟩ := h.2.2.2.2.1 k k0 (by omega)
      obtain ⟨-, -, l2, -⟩ := lf.1 g
      have kk := hk.2.2 k k0 g
      rw [E61_4 hD, w_small (z := k) (by omega) (by omega), e0, w_small (z := C.1) (by omega) (by omega), if_pos (by omega), if_pos (by omega), gdR_pos (by omega), gdR_pos (by omega), l2, w_small (z := C.2.2.2.1 k) (by omega) (by omega), w_small (z := c) (by omega) (by omega), lf.2.2.2.2.2.1, E61_44, E61_44, ih (k + 1) _ (by omega) (by omega) (by omega), ih (k + 1) _ (by omega) (by omega) (by omega), sm_succ]
      by_cases gc : C.2.2.2.1 k = c
      · rw [if_pos gc, if_pos ⟨g, gc⟩, Int.add_assoc]
      · rw [if_neg gc, if_neg (fun x => gc x.2), Int.add_zero, Int.zero_add]
    · rw [E61_4 hD, w_small (z := k) (by omega) (by omega), e0, w_small (z := C.1) (by omega) (by omega), if_neg (by omega), E61_52, sm_zero _ _ (fun j j0 j1 => if_neg (by omega)), Int.add_zero]
theorem c_served (hD : DA S b) (h : RelD C I b ρ) (hW : W0 C ρ) (hk : okC C) (hc0 : 0 ≤ c) (hc1 : c < 4) : ev d 61 0 [(2, b), (0, c), uU, uU] [] S I = some ((0, ρ (840 + c)), S, I) := by
  rw [E61_0, c_fsum hD h hk hc0 hc1 5 0 0 (by decide) (by decide) (by decide), Int.zero_add, hW.2.2.2.2 c hc0 hc1]; rfl
theorem m_psum (hK : KA S a 20 844) : ev d 243 0 [(2, a), uU, uU] [] S I = some ((0, I a 840 + I a 841 + I a 842 + I a 843), S, I) := by
  rw [E243_0, E243_4 hK, if_pos (by decide), gdR_pos (by decide), E243_4 hK, if_pos (by decide), gdR_pos (by decide), E243_4 hK, if_pos (by decide), gdR_pos (by decide), E243_4 hK, if_pos (by decide), gdR_pos (by decide), E243_4 hK, if_neg (by decide)]
  rw [show w (840 + 0) = 840 by decide, show w (840 + (0 + 1)) = 841 by decide, show w (840 + (0 + 1 + 1)) = 842 by decide, show w (840 + (0 + 1 + 1 + 1)) = 843 by decide, Int.zero_add]
theorem call_served (hS : SH S) (h : ST N I) (hN : N < 70000000) : ∃ r I1 I2, ev (d + 100) 175 0 [(2, 0), uU, uU, uU] [] S I = some ((0, r), S, I1) ∧ ev (d + 100) 291 0 [(2, 427), uU] [] S I1 = some ((0, r), S, I2) ∧ ST (N + 100000) I2 := by
  obtain ⟨hQ, hM⟩ := hS
  have hk := h.2.2.2.1.1
  have hD := h.2.2.2.1.2
  have hB := h.2.2.2.2.2.2.2.1
  have hK := isRw_K hM (Or.inl rfl : isRw 438)
  have b0 := hB 840
  have b1 := hB 841
  have b2 := hB 842
  have b3 := hB 843
  obtain ⟨A, a1, a2, a3⟩ := c_tell3 (d := d + 96) (S := S) (I := I) (x := I 438 841) (y := I 438 842) (z := I 438 843) (RA3 hQ)
  have rA : RelD (cfM I) A 5 (I 438) := RelD_mem hD.1 hD.2.1.1 (fun x x0 x1 => TF_hi a3 (by omega))
  generalize hg : updR (updR (updR (updR (fun _ => 0) 0 (I 438 841)) 1 (I 438 842)) 2 (I 438 843)) 3 (I 438 840) = g
  have g0 : g 0 = I 438 841 := by rw [← hg]; rfl
  have g1 : g 1 = I 438 842 := by rw [← hg]; rfl
  have g2 : g 2 = I 438 843 := by rw [← hg]; rfl
  have g3 : g 3 = I 438 840 := by rw [← hg]; rfl
  obtain ⟨A2, c1, c2, c3⟩ := c_tnext (d := d + 99) (S := S) (g := g) (n := 3) (x := I 438 840) (I := A) (RA3 hQ) (TD_ext a2 (fun j j0 j1 => by
    rcases (by omega : j = 0 ∨ j = 1 ∨ j = 2) with rfl | rfl | rfl
    · rw [g0]; rfl
    · rw [g1]; rfl
    · rw [g2]; rfl)) (by decide) (by decide) (by rw [g3])
  have tf := TF_trans a3 c3
  obtain ⟨B, p1, p2, p3⟩ := m_next (d := d + 99) (S := S) (g := g) (n := 0) (x := I 438 841) (I := up2 (up2 A2 427 0 0) 427 1 0) hM MD_0 (by decide) (by decide) (by rw [g0])
  obtain ⟨B2, q1, q2, q3⟩ := m_next (d := d + 99) (S := S) (g := g) (n := 0 + 1) (x := I 438 842) (I := B) hM p2 (by decide) (by decide) (by rw [Int.zero_add, g1])
  obtain ⟨B3, r1, r2, r3⟩ := m_next (d := d + 99) (S := S) (g := g) (n := 0 + 1 + 1) (x := I 438 843) (I := B2) hM q2 (by decide) (by decide) (by rw [show (0 : Int) + 1 + 1 = 2 from rfl, g2])
  obtain ⟨B4, s1, s2, s3⟩ := m_next (d := d + 99) (S := S) (g := g) (n := 0 + 1 + 1 + 1) (x := I 438 840) (I := B3) hM r2 (by decide) (by decide) (by rw [show (0 : Int) + 1 + 1 + 1 = 3 from rfl, g3])
  have mf := MF_trans (MF_trans (MF_trans p3 q3) r3) s3
  have x0 : up2 (up2 A2 427 0 0) 427 1 0 438 = I 438 := by rw [up2_oth (by decide), up2_oth (by decide), TF_hi tf (by decide)]
  have xB : B 438 = I 438 := by rw [p3.2 438 (by decide) (by decide), x0]
  have xB2 : B2 438 = I 438 := by rw [q3.2 438 (by decide) (by decide), xB]
  have xB3 : B3 438 = I 438 := by rw [r3.2 438 (by decide) (by decide), xB2]
  have xB4 : B4 438 = I 438 := by rw [s3.2 438 (by decide) (by decide), xB3]
  refine ⟨I 438 841 + I 438 842 + I 438 843, A2, B4, ?_, ?_, tl_ST h tf c2 (fun x x0 x1 => by rw [mf.2 x x0 x1, up2_oth x0, up2_oth x0]) (fun k k0 k1 => by rw [mf.1 k k1, up2_miss (by omega), up2_miss (by omega)]) s2 (by decide) (by decide)⟩
  · rw [E175_0 hQ, c_served (DA5 hQ) hD.1 hD.2.1.1 hk (by decide) (by decide)]
    simp only [Option.bind_some, psh_i]
    rw [E175_8 hQ, c_served (DA5 hQ) hD.1 hD.2.1.1 hk (by decide) (by decide)]
    simp only [Option.bind_some, psh_i]
    rw [E175_17 hQ, c_served (DA5 hQ) hD.1 hD.2.1.1 hk (by decide) (by decide)]
    simp only [Option.bind_some, psh_i]
    rw [show (840 : Int) + 1 = 841 from rfl, show (840 : Int) + 2 = 842 from rfl, show (840 : Int) + 3 = 843 from rfl, E175_26 hQ, w_small (z := I 438 841) (by omega) (by omega), w_small (z := I 438 842) (by omega) (by omega), w_small (z := I 438 843) (by omega) (by omega), a1]
    simp only [Option.bind_some, psh_u]
    rw [E175_40 hQ, c_served (DA5 hQ) rA hD.2.1.1 hk (by decide) (by decide)]
    simp only [Option.bind_some, psh_i]
    rw [show (840 : Int) + 0 = 840 from rfl, E175_52 (RA3 hQ), w_small (z := I 438 840) (by omega) (by omega), c1]
    simp only [Option.bind_some, psh_u]
    rw [E175_56]
  · rw [E291_0 hM, E291_12 hM, if_pos (by decide), gdR_pos (by decide), show w (840 + 1) = 841 by decide, x0, w_small (z := I 438 841) (by omega) (by omega), p1]
    simp only [Option.bind_some, psh_u]
    rw [E291_32, E291_12 hM, if_pos (by decide), gdR_pos (by decide), show w (840 + (1 + 1)) = 842 by decide, xB, w_small (z := I 438 842) (by omega) (by omega), q1]
    simp only [Option.bind_some, psh_u]
    rw [E291_32, E291_12 hM, if_pos (by decide), gdR_pos (by decide), show w (840 + (1 + 1 + 1)) = 843 by decide, xB2, w_small (z := I 438 843) (by omega) (by omega), r1]
    simp only [Option.bind_some, psh_u]
    rw [E291_32, E291_12 hM, if_neg (by decide), xB3, w_small (z := I 438 840) (by omega) (by omega), s1]
    simp only [Option.bind_some, psh_u]
    rw [E291_51 hM, m_psum hK, xB4]
    simp only [Option.bind_some, psh_i]
    rw [E291_58 hM, xB4, show I 438 840 + I 438 841 + I 438 842 + I 438 843 - I 438 840 = I 438 841 + I 438 842 + I 438 843 by omega]
theorem c_sum (hD : DA S b) (h : RelD C I b ρ) (hW : W0 C ρ) (hk : okC C) (f0 : 4 ≤ f) (f1 : f < 12) : ∀ (n : Nat) (k x : Int), 0 ≤ k → k ≤ C.1 → n = (C.1 - k).toNat → ev (d + 1) 24 4 [(2, b), (0, f), (0, x), (0, k)] [] S I = some ((0, x + sm (fun q => ρ (89 * q + (f - 4))) n k), S, I) := by
  have hn0 := hk.1
  have hn5 := hk.2.1
  have e0 : I b 0 = C.1 := h.1.1
  intro n
  induction n with
  | zero =>
    intro k x k0 k1 hn
    rw [E24_4 hD, w_small (z := k) (by omega) (by omega), e0, w_small (z := C.1) (by omega) (by omega), if_neg (by omega), E24_36]
    simp [sm]
  | succ n ih =>
    intro k x k0 k1 hn
    obtain ⟨lf, -⟩ := h.2.2.2.2.1 k k0 (by omega)
    rw [E24_4 hD, w_small (z := k) (by omega) (by omega), e0, w_small (z := C.1) (by omega) (by omega), if_pos (by omega), if_pos (by omega), gdR_pos (by omega), c_detail (DA_lane hD k0 (by omega)) lf.2.1 (lan_12 (hW.1 k k0 (by omega)).1 lf) (by omega) (by omega), lan_f lf f0 (by omega)]
    simp only [Option.bind_some, psh_i]
    rw [E24_28, ih (k + 1) _ (by omega) (by omega) (by omega), sm_succ, Int.add_assoc]
theorem c_blk (hD : DA S b) (h : RelD C I b ρ) : ∀ (n : Nat) (k x : Int), 0 ≤ k → k ≤ 10 → n = (10 - k).toNat → ev d 18 4 [(2, b), (0, x), (0, k)] [] S I = some ((0, x + sm (fun j => ρ (828 + j)) n k), S, I) := by
  intro n
  induction n with
  | zero =>
    intro k x k0 k1 hn
    rw [E18_4 hD, w_small (z := k) (by omega) (by omega), if_neg (by omega)]
    simp [sm]
  | succ n ih =>
    intro k x k0 k1 hn
    rw [E18_4 hD, w_small (z := k) (by omega) (by omega), if_pos (by omega), gdR_pos (by omega), h.2.1.1 k k0 (by omega), ih (k + 1) _ (by omega) (by omega) (by omega), sm_succ, Int.add_assoc]
theorem m_blk (hK : KA S a 20 844) : ∀ (n : Nat) (k x : Int), 0 ≤ k → k ≤ 10 → n = (10 - k).toNat → ev d 214 4 [(2, a), (0, x), (0, k)] [] S I = some ((0, x + sm (fun j => I a (828 + j)) n k), S, I) := by
  intro n
  induction n with
  | zero =>
    intro k x k0 k1 hn
    rw [E214_4 hK, w_small (z := k) (by omega) (by omega), if_neg (by omega)]
    simp [sm]
  | succ n ih =>
    intro k x k0 k1 hn
    rw [E214_4 hK, w_small (z := k) (by omega) (by omega), if_pos (by omega), w_small (z := 828 + k) (by omega) (by omega), gdR_pos (by omega), ih (k + 1) _ (by omega) (by omega) (by omega), sm_succ, Int.add_assoc]
theorem m_cnt1 {v : Int} (hM : MA S 427) (hk : okC C) (hn : I 427 14 = C.1) : ∀ (n : Nat) (k x y : Int), 0 ≤ k → k ≤ C.1 → n = (C.1 - k).toNat → ev (d + 1) 309 12 [(2, 427), (0, v), (0, x), (0, y), (0, k)] [] S I = ev (d + 1) 309 12 [(2, 427), (0, v), (0, x + sm (fun q => I 438 (89 * q) - I 438 (89 * q + 3)) n k), (0, y + sm (fun q => I 438 (89 * q + 5) - I 438 (89 * q + 6)) n k), (0, C.1)] [] S I := by
  have hn0 := hk.1
  have hn5 := hk.2.1
  have hK := isRw_K hM (Or.inl rfl : isRw 438)
  intro n
  induction n with
  | zero =>
    intro k x y k0 k1 hn
    have : k = C.1 := by omega
    subst this
    simp [sm]
  | succ n ih =>
    intro k x y k0 k1 hn'
    rw [E309_12 hM, w_small (z := k) (by omega) (by omega), hn, w_small (z := C.1) (by omega) (by omega), if_pos (by omega), m_of hK (by omega) (by omega)]
    simp only [Option.bind_some, psh_i, Int.add_zero]
    rw [E309_32 hM, m_of hK (by omega) (by omega)]
    simp only [Option.bind_some, psh_i]
    rw [E309_42 hM, m_of hK (by omega) (by omega)]
    simp only [Option.bind_some, psh_i]
    rw [E309_56 hM, m_of hK (by omega) (by omega)]
    simp only [Option.bind_some, psh_i]
    rw [E309_67, ih (k + 1) _ _ (by omega) (by omega) (by omega), sm_succ, sm_succ, Int.add_assoc, Int.add_assoc]
theorem call_count (hS : SH S) (h : ST N I) (hv : isI q) : ∃ r I1 I2, ev (d + 100) 186 0 [(2, 0), (0, q)] [] S I = some ((0, r), S, I1) ∧ ev (d + 100) 309 0 [(2, 427), (0, q), uU, uU, uU] [] S I1 = some ((0, r), S, I2) ∧ ST (N + 100000) I2 := by
  obtain ⟨hQ, hM⟩ := hS
  have hk := h.2.2.2.1.1
  have hD := h.2.2.2.1.2
  have hn0 := hk.1
  have hn5 := hk.2.1
  have hh := hD.1.1
  obtain ⟨d0, d6, d7, d8, d9, d10, d15⟩ := hh
  have dh : I 427 36 = I 424 2 := h.2.2.1.2.2.1
  have dp : I 427 22 = I 67 2 := h.2.2.2.2.2.1.2.2.2.2.1
  have dr : I 427 1 = I 3 1 := h.2.1.2.2.1
  have dt : I 427 4 = I 1 1 := h.1.2.2.1
  have hK := isRw_K hM (Or.inl rfl : isRw 438)
  have e1 := E186_0 (d := d + 99) (I := I) (a1 := q) hQ
  have e2 := E309_0 (d := d + 100) (S := S) (I := I) (a1 := q) hM
  rw [m_cnt1 (d := d + 99) (C := cfM I) hM hk (by rw [up2_miss (by decide)]; rfl) (cfM I).1.toNat 0 0 0 (by decide) (by omega) (by rw [Int.sub_zero]), E309_12 hM, if_neg (by rw [up2_miss (by decide)]; exact Int.lt_irrefl _)] at e2
  have s24 : ∀ f : Int, 4 ≤ f → f < 12 → ∀ d' : Nat, ev (d' + 1) 24 0 [(2, 5), (0, f), uU, uU] [] S I = some ((0, 0 + sm (fun q => I 438 (89 * q + (f - 4))) (cfM I).1.toNat 0), S, I) := fun f f0 f1 d' => by
    rw [E24_0, c_sum (d := d') (DA5 hQ) hD.1 hD.2.1.1 hk f0 f1 (cfM I).1.toNat 0 0 (by decide) (by omega) (by rw [Int.sub_zero])]
  have fin : ST (N + 100000) (up2 I 427 0 0) := ST_le (ST_0 (v := 0) h) (by omega)
  rw [w_small hv.1 hv.2] at e1 e2
  have x38 : up2 I 427 0 0 438 = I 438 := up2_oth (by decide)
  simp only [up2_miss (a := 427) (b := 427) (k := 0) (j := 14) (by decide)] at e2
  by_cases g0 : q = 0
  · rw [if_pos g0] at e1 e2
    exact ⟨_, I, _, e1, by rw [e2, d0]; rfl, fin⟩
  rw [if_neg g0] at e1 e2
  by_cases g1 : q = 1
  · rw [if_pos g1] at e1 e2
    rw [E45_0 (DA5 hQ), s24 4 (by decide) (by decide)] at e1
    simp only [Option.bind_some, psh_i] at e1
    rw [E45_5 (DA5 hQ), s24 7 (by decide) (by decide)] at e1
    simp only [Option.bind_some, psh_i] at e1
    rw [E45_11] at e1
    simp only [Option.bind_some, psh_i] at e1
    rw [E186_79] at e1
    refine ⟨_, I, _, e1, ?_, fin⟩
    rw [e2, x38, sm_sub, Int.zero_add, Int.zero_add, Int.zero_add]
    simp only [show (4 : Int) - 4 = 0 from rfl, show (7 : Int) - 4 = 3 from rfl, Int.add_zero]
  rw [if_neg g1] at e1 e2
  by_cases g2 : q = 2
  · rw [if_pos g2] at e1 e2
    exact ⟨_, I, _, e1, by rw [e2, d10, x38], fin⟩
  rw [if_neg g2] at e1 e2
  by_cases g3 : q = 3
  · rw [if_pos g3] at e1 e2
    exact ⟨_, I, _, e1, by rw [e2, d15, x38], fin⟩
  rw [if_neg g3] at e1 e2
  by_cases g4 : q = 4
  · rw [if_pos g4] at e1 e2
    rw [s24 9 (by decide) (by decide)] at e1
    simp only [Option.bind_some, psh_i] at e1
    rw [E186_105 hQ, s24 10 (by decide) (by decide)] at e1
    simp only [Option.bind_some, psh_i] at e1
    rw [E186_114] at e1
    refine ⟨_, I, _, e1, ?_, fin⟩
    rw [e2, x38, sm_sub, Int.zero_add, Int.zero_add, Int.zero_add]
    rfl
  rw [if_neg g4] at e1 e2
  by_cases g5 : q = 5
  · rw [if_pos g5] at e1 e2
    exact ⟨_, I, _, e1, by rw [e2, d7, x38], fin⟩
  rw [if_neg g5] at e1 e2
  by_cases g6 : q = 6
  · rw [if_pos g6] at e1 e2
    exact ⟨_, I, _, e1, by rw [e2, d6, x38], fin⟩
  rw [if_neg g6] at e1 e2
  by_cases g7 : q = 7
  · rw [if_pos g7] at e1 e2
    rw [E18_0, c_blk (DA5 hQ) hD.1 10 0 0 (by decide) (by decide) (by decide)] at e1
    simp only [Option.bind_some, psh_i] at e1
    rw [E186_139] at e1
    rw [E214_0, m_blk hK 10 0 0 (by decide) (by decide) (by decide)] at e2
    simp only [Option.bind_some, psh_i] at e2
    rw [E309_192] at e2
    exact ⟨_, I, _, e1, by rw [e2, x38], fin⟩
  rw [if_neg g7] at e1 e2
  by_cases g8 : q = 8
  · rw [if_pos g8] at e1 e2
    exact ⟨_, I, _, e1, by rw [e2, up2_miss (by decide), dh], fin⟩
  rw [if_neg g8] at e1 e2
  by_cases g9 : q = 9
  · rw [if_pos g9] at e1 e2
    exact ⟨_, I, _, e1, by rw [e2, up2_miss (by decide), dp], fin⟩
  rw [if_neg g9] at e1 e2
  by_cases g10 : q = 10
  · rw [if_pos g10] at e1 e2
    exact ⟨_, I, _, e1, by rw [e2, up2_miss (by decide), dr], fin⟩
  rw [if_neg g10] at e1 e2
  by_cases g11 : q = 11
  · rw [if_pos g11] at e1 e2
    exact ⟨_, I, _, e1, by rw [e2, up2_miss (by decide), dt], fin⟩
  rw [if_neg g11] at e1 e2
  exact ⟨_, I, _, e1, e2, fin⟩
/-- queue, where it doesn't throw */ -/
theorem call_queue (hS : SH S) (h : ST N I) (hq : isI q) (hf : isI f) (g0 : 0 ≤ q) (g1 : q < (cfM I).1) (f0 : 0 ≤ f) (f1 : f < 13) : ∃ r I2, ev (d + 100) 187 0 [(2, 0), (0, q), (0, f), uU] [] S I = some ((0, r), S, I) ∧ ev (d + 100) 209 0 [(2, 427), (0, q), (0, f)] [] S I = some ((0, r), S, I2) ∧ ST (N + 100000) I2 := by
  obtain ⟨hQ, hM⟩ := hS
  have hk := h.2.2.2.1.1
  have hD := h.2.2.2.1.2
  have hn5 := hk.2.1
  have hK := isRw_K hM (Or.inl rfl : isRw 438)
  have hL := DA_lane (DA5 hQ) g0 (by omega : q < 5)
  obtain ⟨lf, -⟩ := hD.1.2.2.2.2.1 q g0 (by omega)
  obtain ⟨k0, k1, k2, k3⟩ := lf.1 g1
  have x38 : up2 I 427 0 0 438 = I 438 := up2_oth (by decide)
  refine ⟨I (5 + 11 + 4 * q) f, up2 I 427 0 0, ?_, ?_, ST_le (ST_0 (v := 0) h) (by omega)⟩
  · rw [E187_0 hQ, c_lane (DA5 hQ) hD.1.1 hk hq, if_pos ⟨g0, g1⟩]
    simp only [Option.bind_some, psh_r]
    rw [E187_8 (Or.inr hL), if_neg (by omega), w_small hf.1 hf.2, if_neg (by omega), if_pos (by omega), c_detail hL lf.2.1 (lan_12 (hD.2.1.1.1 q g0 (by omega)).1 lf) f0 f1]
    simp only [Option.bind_some, psh_i]
    rw [E187_38]
  · rw [E209_0 hM, m_isQ0 (d := d + 98) hM hk hq, if_pos ⟨g0, g1⟩]
    simp only [Option.bind_some, psh_i]
    rw [E209_10, if_neg (by decide), w_small hf.1 hf.2, m_in (by omega) (by omega) (by decide) (by decide) (by decide) (by decide), if_pos (by omega)]
    simp only [Option.bind_some, psh_i]
    rw [E209_22 hM, if_neg (by decide), w_small hf.1 hf.2, w_small hq.1 hq.2]
    by_cases y0 : f = 0
    · subst y0; rw [if_pos rfl, gdR_pos (by omega), up2_oth (by decide), k0]; rfl
    rw [if_neg y0]
    by_cases y1 : f = 1
    · subst y1; rw [if_pos rfl, gdR_pos (by omega), up2_oth (by decide), k1]; rfl
    rw [if_neg y1]
    by_cases y2 : f = 2
    · subst y2; rw [if_pos rfl, gdR_pos (by omega), up2_oth (by decide), k2]; rfl
    rw [if_neg y2]
    by_cases y3 : f = 3
    · subst y3; rw [if_pos rfl, gdR_pos (by omega), up2_oth (by decide), k3]; rfl
    rw [if_neg y3, m_of hK (by omega) (by omega), x38]
    simp only [Option.bind_some, psh_i]
    rw [E209_99, lan_f lf (by omega) f1]
/-- row, where it doesn't throw */ -/
theorem call_row (hS : SH S) (h : ST N I) (hv : isI k) (g0 : 0 ≤ k) (g1 : k < I 3 1) : ∃ r I2, ev (d + 100) 188 0 [(2, 0), (0, k)] [] S I = some ((1, r), S, I) ∧ ev (d + 100) 310 0 [(2, 427), (0, k)] [] S I = some ((1, r), S, I2) ∧ ST (N + 100000) I2 := by
  obtain ⟨hQ, hM⟩ := hS
  obtain ⟨r0, r1, r2, r3⟩ := h.2.1
  refine ⟨I 4 k, up2 I 427 0 0, ?_, ?_, ST_le (ST_0 (v := 0) h) (by omega)⟩
  · rw [E188_0 hQ, w_small hv.1 hv.2, if_neg (by omega), w_small (z := I 3 1) (by omega) (by omega), if_pos g1, E114_0 (RA3 hQ), w_small hv.1 hv.2, if_neg (by omega), w_small (z := I 3 1) (by omega) (by omega), if_pos g1, gdR_pos (by omega), E114_22]
    simp only [Option.bind_some, psh_j]
    rw [E188_34]
  · rw [E310_0 hM, w_small hv.1 hv.2, r2, w_small (z := I 3 1 - 1) (by omega) (by omega), m_in (by omega) (by omega) (by decide) (by decide) (by omega) (by omega), if_pos (by omega)]
    simp only [Option.bind_some, psh_i]
    rw [E310_18 hM, if_neg (by decide), w_small hv.1 hv.2, gdR_pos (by omega), up2_oth (by decide), r3 k g0 g1]
end r80
