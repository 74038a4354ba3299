/-! the call ticks -/
section r91
variable {d : Nat} {S : SS} {I J G I2 : II} {C : CF} {K : KF} {ρ σ : RW} {b u q k v j N r : Int}
theorem c_fn (hD : DA S b) (h : RelD C I b ρ) (hW : W0 C ρ) (hk : okC C) : ev (d + 1) 24 0 [(2, b), (0, 7), uU, uU] [] S I = some ((0, fnum C ρ), S, I) := by
  rw [E24_0, c_sum (d := d) hD h hW hk (by decide) (by decide) C.1.toNat 0 0 (by decide) hk.1 (by rw [Int.sub_zero]), Int.zero_add]; rfl
theorem c_ps (hD : DA S b) (h : RelD C I b ρ) (hW : W0 C ρ) (hk : okC C) : ev (d + 1) 24 0 [(2, b), (0, 9), uU, uU] [] S I = some ((0, psum C ρ), S, I) := by
  rw [E24_0, c_sum (d := d) hD h hW hk (by decide) (by decide) C.1.toNat 0 0 (by decide) hk.1 (by rw [Int.sub_zero]), Int.zero_add]; rfl
theorem psum_b (hk : okC C) (hB : BdN N ρ) (hN : 0 ≤ N) : -5 ≤ psum C ρ ∧ psum C ρ ≤ 5 * N := by
  have hn0 := hk.1
  have hn5 := hk.2.1
  have h1 := sm_le (f := fun q => ρ (89 * q + 5)) (g := fun _ => N) C.1.toNat 0 (fun q _ _ => (hB _).2)
  have h2 := sm_le (f := fun _ => -1) (g := fun q => ρ (89 * q + 5)) C.1.toNat 0 (fun q _ _ => (hB _).1)
  rw [sm_const] at h1 h2
  refine ⟨?_, ?_⟩
  · unfold psum; omega
  · unfold psum
    have : (C.1.toNat : Int) * N ≤ 5 * N := Int.mul_le_mul_of_nonneg_right (by omega) hN
    omega
theorem call_ticks (hS : SH S) (h : ST N I) (hN0 : 100 ≤ N) (hN : N < 70000000) (hv : isI v) : ∃ r I1 I2, ev (d + 100) 149 0 [(2, 0), (0, v)] [] S I = some ((0, r), S, I1) ∧ ev (d + 100) 235 0 [(2, 427), (0, v)] [] S I1 = some ((0, r), S, I2) ∧ ST (N + 100000) I2 := by
  obtain ⟨hQ, hM⟩ := hS
  obtain ⟨G, g1, g2, g3, g4, g5⟩ := act_beg (S := S) (d + 97) hQ h
  have h2 := h
  obtain ⟨_, tR, _, ⟨hk, hD⟩, ⟨hKF, hRu⟩, ⟨p0, p1, p2, p3, _⟩, _, hB⟩ := h2
  have hn0 := hk.1
  have hn5 := hk.2.1
  have r1 := E149_0 (d := d + 99) (I := I) (a1 := v) hQ
  rw [g1] at r1
  simp only [Option.bind_some, psh_u] at r1
  rw [E149_11 hQ, E23_0 (DA5 hQ), w_small hv.1 hv.2, E23_10] at r1
  have r2 : ∀ J : II, ev (d + 100) 235 0 [(2, 427), (0, v)] [] S J = ev (d + 100) 235 14 [(2, 427), (0, v)] [(0, if 0 ≤ v ∧ v ≤ 60 then 1 else 0)] S (up2 J 427 0 0) := by
    intro J
    rw [E235_0 hM, w_small hv.1 hv.2, m_in (by have := hv.1; omega) (by have := hv.2; omega) (by decide) (by decide) (by decide) (by decide)]
    simp only [Option.bind_some, psh_i]
  by_cases gv : 0 ≤ v ∧ v ≤ 60
  · obtain ⟨w1, w2, w3, w4⟩ := tks_WF (K := kfM I) hk (v - 0).toNat N (I 438) hD.2.1 hD.2.2 hN0 hB.1 (by omega)
    have b412 : RuleR G 412 (kfM I) := by unfold RuleR at *; rw [g3 412 (by omega), show (412 : Int) + 1 = 413 from rfl, g3 413 (by omega)]; exact hRu
    obtain ⟨H, k1, k2, k3⟩ := c_tks (d := d + 92) (S := S) (b := 5) (u := 412) (v := v) (x4 := fnum (cfM I) (I 438)) (x5 := psum (cfM I) (I 438)) (by decide) (by decide) (DA5 hQ) (UA412 hQ) hKF hk (by omega) (v - 0).toNat N 0 0 (I 438) G g4 b412 hD.2.1 hD.2.2 hN0 hB.1 (by omega) (by decide) gv.1 rfl
    rw [if_neg (by omega), if_neg (by omega), c_fn (DA5 hQ) g4 hD.2.1.1 hk] at r1
    simp only [Option.bind_some, psh_i] at r1
    rw [E23_18 (DA5 hQ), c_ps (DA5 hQ) g4 hD.2.1.1 hk] at r1
    simp only [Option.bind_some, psh_i] at r1
    rw [E23_26, k1, E23_34 (DA5 hQ), if_neg (by omega), c_fn (DA5 hQ) k2 w1.1 hk] at r1
    simp only [Option.bind_some, psh_i] at r1
    have hm := fun (J : II) (e1 : cfM J = cfM I) (e2 : kfM J = kfM I) (e3 : J 438 = I 438) => m_tks (d := d + 91) (S := S) (r := 438) (v := v) hM (Or.inl rfl) hk hKF (by omega) (v - 0).toNat N 0 (I 438) J e1 e2 e3 hD.2.1 hD.2.2 hN0 hB.1 (by omega) (by decide) gv.1 rfl
    have pb0 := psum_b (C := cfM I) hk hB.1 (by omega)
    have pb1 := psum_b (C := cfM I) hk w3 (by omega)
    have ib := idl_b (K := kfM I) (C := cfM I) (v - 0).toNat (I 438)
    generalize hσ : tksS (kfM I) (cfM I) (v - 0).toNat (I 438) = σ at *
    generalize hid : idlS (kfM I) (cfM I) (v - 0).toNat (I 438) = idl at *
    generalize han : psum (cfM I) σ - psum (cfM I) (I 438) = an at *
    have an0 : 0 ≤ an := by omega
    have aI : isI an := ⟨by omega, by omega⟩
    obtain ⟨A, a1, a2, a3⟩ := c_tell2 (d := d + 96) (S := S) (I := H) (x := w (fnum (cfM I) σ - fnum (cfM I) (I 438))) (y := w (0 + idl)) (RA3 hQ)
    have kA : RelD (cfM I) A 5 σ := RelD_mem k2 w1.1 (fun x x0 x1 => TF_hi a3 (by omega))
    rw [E23_75 (RA3 hQ), a1] at r1
    simp only [Option.bind_some, psh_u] at r1
    rw [E23_85 (DA5 hQ), c_ps (DA5 hQ) kA w1.1 hk] at r1
    simp only [Option.bind_some, psh_i] at r1
    rw [E23_91, han] at r1
    simp only [Option.bind_some, psh_i] at r1
    have ax : ∀ x, x ≠ 3 → x ≠ 4 → ¬ (5 ≤ x ∧ x < 36) → x ≠ 416 → x ≠ 417 → A x = G x := fun x x0 x1 x2 x3 x4 => by rw [a3 x x0 x1, k3 x (by omega) (by omega) (by omega)]
    have e67 : A 67 = I 67 := by rw [ax 67 (by decide) (by decide) (by omega) (by decide) (by decide), g5]
    have oB : ∀ x, ¬ (5 ≤ x ∧ x < 36) → ¬ (71 + 31 * I 67 1 ≤ x ∧ x < 71 + 31 * I 67 1 + 31) → x ≠ 3 → x ≠ 4 → x ≠ 416 → x ≠ 417 → A x = I x := fun x x0 x1 x2 x3 x4 x5 => by rw [ax x x2 x3 x0 x4 x5, g3 x (by omega)]
    obtain ⟨B, b1, b2, bK, b3, b4, b5, b6⟩ := act_mid (a := an) hM h w1 w2 (BdN_le w3 (by omega)) (GD_mem g2 (fun x x0 x1 => ax x (by omega) (by omega) (by omega) (by omega) (by omega))) kA oB
    rw [E149_31 (PA67 hQ), c_seal hQ (by rw [e67]; exact p0) (by rw [e67]; exact p1) (by rw [e67]; exact p2) (by rw [e67]; exact p3) aI, e67] at r1
    simp only [Option.bind_some, psh_i, E149_34] at r1
    have s2 := r2 (if an < 0 then A else up2 (up2 A 67 1 ((I 67 1 + 1) % 9)) 67 2 (addZ (I 67 2)))
    generalize hI1 : (if an < 0 then A else up2 (up2 A 67 1 ((I 67 1 + 1) % 9)) 67 2 (addZ (I 67 2))) = I1 at r1 s2 b1
    rw [if_pos gv, E235_14 hM, if_neg (by decide), b1] at s2
    simp only [Option.bind_some, psh_u] at s2
    generalize hB3 : up2 (up2 (up2 B 427 24 0) 427 25 0) 427 26 0 = B3
    have c0 : ∀ x, x ≠ 427 → B3 x = B x := fun x hx => by rw [← hB3, up2_oth hx, up2_oth hx, up2_oth hx]
    have c1 : ∀ k, k ≠ 24 → k ≠ 25 → k ≠ 26 → B3 427 k = B 427 k := fun k k0 k1 k2 => by rw [← hB3, up2_miss (by omega), up2_miss (by omega), up2_miss (by omega)]
    have c24 : B3 427 24 = 0 := by rw [← hB3, up2_miss (by decide), up2_miss (by decide), up2_hit rfl rfl]
    have c25 : B3 427 25 = 0 := by rw [← hB3, up2_miss (by decide), up2_hit rfl rfl]
    have c26 : B3 427 26 = 0 := by rw [← hB3, up2_hit rfl rfl]
    obtain ⟨T, t1, t2, t3, t4, t5, t6, t7⟩ := hm B3 ((cfM_mem (c1 14 (by decide) (by decide) (by decide)) (c0 434 (by decide)) (c0 435 (by decide)) (c0 436 (by decide)) (c0 437 (by decide))).trans b2) (by rw [← bK]; unfold kfM; rw [c0 430 (by decide), c1 10 (by decide) (by decide) (by decide)]) (by rw [c0 438 (by decide)]; exact b3)
    rw [c24, Int.zero_add] at t3
    rw [c25, Int.zero_add] at t4
    rw [c26] at t5
    rw [E235_23 hM, E236_0 hM, hB3, t1] at s2
    simp only [Option.bind_some, psh_u] at s2
    generalize hE0 : up2 T 427 1 0 = E0
    have x0 : MD E0 0 (fun _ => 0) := by rw [← hE0]; exact ⟨up2_hit rfl rfl, fun j j0 j1 => by omega⟩
    have y0 : ∀ x, x ≠ 427 → E0 x = T x := fun x hx => by rw [← hE0, up2_oth hx]
    have z0 : ∀ k, k ≠ 1 → E0 427 k = T 427 k := fun k hk => by rw [← hE0, up2_miss (by omega)]
    obtain ⟨E1, m1, x1, z1, y1⟩ := m_ent (d := d + 99) (S := S) (x := w (fnum (cfM I) σ - fnum (cfM I) (I 438))) hM x0 (by decide) (by decide)
    rw [E235_32 hM, t4, hE0, m1] at s2
    simp only [Option.bind_some, psh_u] at s2
    obtain ⟨E2, m2, x2, z2, y2⟩ := m_ent (d := d + 99) (S := S) (x := w (0 + idl)) hM x1 (by decide) (by decide)
    rw [E235_46 hM, z1 26 (by decide), z0 26 (by decide), t5, m2] at s2
    simp only [Option.bind_some, psh_u] at s2
    rw [E235_55 hM, z2 24 (by decide), z1 24 (by decide), z0 24 (by decide), t3] at s2
    have ex : ∀ x, x ≠ 427 → x ≠ 428 → x ≠ 432 → x ≠ 433 → E2 x = setR B 438 σ x := fun x a0 a1 a2 a3 => by
      rw [y2 x a0 a1, y1 x a0 a1, y0 x a0]
      by_cases e : x = 438
      · subst e; rw [t2, setR_same]
      · rw [t7 x e a0 a2 a3, c0 x a0, setR_oth e]
    have ek : ∀ k, (k = 4 ∨ k = 36 ∨ k = 10 ∨ k = 14 ∨ k = 15 ∨ k = 22) → E2 427 k = I 427 k := fun k hk => by rw [z2 k (by omega), z1 k (by omega), z0 k (by omega), t6 k (by omega) (by omega) (by omega), c1 k (by omega) (by omega) (by omega)]; exact b4 k (by omega)
    obtain ⟨I2, l1, l2⟩ := (b6 E2 ex ek ⟨2, _, by decide, by decide, a2, x2⟩).2 an0
    rw [l1] at s2
    simp only [Option.bind_some, psh_i] at s2
    rw [E235_63] at s2
    exact ⟨_, _, I2, r1, s2, l2⟩
  · have e67 : G 67 = I 67 := g5
    have r1' : ev (d + 100) 149 0 [(2, 0), (0, v)] [] S I = some ((0, -1), S, G) := by
      rw [r1]
      have sl := c_seal (d := d + 99) (S := S) (I := G) (a := -1) hQ (by rw [e67]; exact p0) (by rw [e67]; exact p1) (by rw [e67]; exact p2) (by rw [e67]; exact p3) ⟨by decide, by decide⟩
      rw [if_pos (by decide)] at sl
      by_cases g : v < 0
      · rw [if_pos g]
        simp only [Option.bind_some, psh_i]
        rw [E149_31 (PA67 hQ), sl]
        simp only [Option.bind_some, psh_i]
        rw [E149_34]
      · rw [if_neg g, if_pos (by omega)]
        simp only [Option.bind_some, psh_i]
        rw [E149_31 (PA67 hQ), sl]
        simp only [Option.bind_some, psh_i]
        rw [E149_34]
    exact ⟨-1, G, _, r1', by rw [r2, if_neg gv, E235_14 hM, if_pos (by decide)], ST_le (note_ST h g3) (by omega)⟩
end r91
