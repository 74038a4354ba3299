/-! law -/
def dtv (v : Int) : Int := if v < 0 then 100 else v
section ra09
variable {d : Nat} {S : SS} {I J K G I2 A : II} {C : CF} {Q : KF} {ρ σ : RW} {p q r b s c ok u v n a k f N M : Int} {cs l : List Int}
theorem c_dt (hQ : QA S 0) (hU : UA S u) (hu : 67 ≤ u) (hg : GD C A 5 ρ) (hR : RuleR A u Q) (hK : okK Q) (hk : okC C) (hN0 : 100 ≤ N) (hB : BdN N ρ) (hN : N < 69000000) : ∃ B, ev (d + 9) 182 0 [(2, 0), (2, u), uU] [] S A = some ((0, dtv (dnS Q C 99 0 ρ).1), S, B) ∧ ∀ x, ¬ (36 ≤ x ∧ x < 67) → x ≠ u + 4 → x ≠ u + 5 → B x = A x := by
  obtain ⟨J, j1, j2, j3⟩ := c_copy (d := d + 7) (S := S) (a0 := 36) (a1 := 5) (DA5 hQ) (DA36 hQ) (by omega) hg
  have rJ : RuleR J u Q := by unfold RuleR at *; rw [j3 u (by omega), j3 (u + 1) (by omega)]; exact hR
  obtain ⟨H, k1, k2, k3⟩ := c_dn (d := d) (S := S) (K := Q) (C := C) hQ hU hu hK hk 99 0 N ρ J uU j2.1 rJ j2.2.1 j2.2.2 hN0 hB (by omega) (by decide) (by decide) (by decide)
  obtain ⟨⟨db0, db1⟩, _⟩ := dn_b (K := Q) hk 99 0 N ρ hg.2.1 hg.2.2 hN0 hB (by omega) (by decide)
  refine ⟨H, ?_, fun x h1 h2 h3 => by rw [k3 x (by omega) h2 h3, j3 x (by omega)]⟩
  rw [E182_0 hQ, j1]
  simp only [Option.bind_some, psh_u]
  rw [E182_11 hQ, E56_0, k1]
  simp only [Option.bind_some, psh_i]
  rw [E182_19, w_small (z := (dnS Q C 99 0 ρ).1) (by omega) (by omega), E182_30, E182_30]
  unfold dtv
  by_cases g : (dnS Q C 99 0 ρ).1 < 0
  · rw [if_pos g, if_pos g]
  · rw [if_neg g, if_neg g]
theorem c_dt2 (hQ : QA S 0) (hU : UA S u) (hu : 67 ≤ u) (hg : GD C A 5 ρ) {Q0 : KF} (hR : RuleR A u Q0) (hK : okK Q0) (hk : okC C) (hN0 : 100 ≤ N) (hB : BdN N ρ) (hN : N < 68000000) : ∃ v B, ev (d + 9) 182 0 [(2, 0), (2, u), uU] [] S A = some ((0, v), S, B) ∧ (∀ x, ¬ (36 ≤ x ∧ x < 67) → x ≠ u + 4 → x ≠ u + 5 → B x = A x) ∧ 0 ≤ v ∧ v ≤ 100 ∧ ∀ (Q : KF) (σ : RW), RuleR A u Q → okK Q → (∀ j, 0 ≤ j → j < 844 → σ j = ρ j) → BdN (N + 100000) σ → v = dtv (dnS Q C 99 0 σ).1 := by
  obtain ⟨B, b1, b2⟩ := c_dt (d := d) hQ hU hu hg hR hK hk hN0 hB (by omega)
  obtain ⟨⟨db0, db1⟩, _⟩ := dn_b (K := Q0) hk 99 0 N ρ hg.2.1 hg.2.2 hN0 hB (by omega) (by decide)
  refine ⟨_, B, b1, b2, ?_, ?_, fun Q σ h1 h2 h3 h4 => ?_⟩
  · unfold dtv; split <;> omega
  · unfold dtv; split <;> omega
  · obtain ⟨B', c1, c2⟩ := c_dt (d := d) hQ hU hu (GD_row hg h3) h1 h2 hk (show 100 ≤ N + 100000 by omega) h4 (by omega)
    rw [b1] at c1
    exact congrArg (fun z => z.1.2) (Option.some.inj c1)
theorem overS_e {f g : RW} {j : Int} (h0 : 0 ≤ j) (h1 : j < 844) : overS 0 f g j = f j := by unfold overS; rw [if_pos ⟨h0, h1⟩]
theorem overS_B {f g : RW} (h : BdN N f) (h2 : BdN N g) : BdN N (overS 0 f g) := fun k => by
  unfold overS
  split
  · exact h k
  · exact h2 k
theorem m_dt (hM : MA S 427) (hK : okK (kfM J)) (hk : okC (cfM J)) (hg : GD (cfM J) G 5 (J 438)) (hN0 : 100 ≤ N) (hB : BdN N (J 438)) (hB2 : BdN N (J 439)) (hN : N < 69000000) : ∃ T, ev (d + 9) 303 0 [(2, 427), uU] [] S J = some ((0, dtv (dnS (kfM J) (cfM J) 99 0 (overS 0 (J 438) (J 439))).1), S, T) ∧ BdN (N + 44000) (T 439) ∧ (∀ k, k ≠ 24 → k ≠ 25 → k ≠ 35 → T 427 k = J 427 k) ∧ ∀ x, x ≠ 439 → x ≠ 427 → x ≠ 432 → x ≠ 433 → T x = J x := by
  have hg2 := GD_row (σ := overS 0 (J 438) (J 439)) hg (fun j j0 j1 => overS_e j0 j1)
  have tB : BdN N (overS 0 (J 438) (J 439)) := overS_B hB hB2
  obtain ⟨⟨db0, db1⟩, _⟩ := dn_b (K := kfM J) hk 99 0 N _ hg2.2.1 hg2.2.2 hN0 tB (by omega) (by decide)
  generalize hZ : setR J 439 (overS 0 (J 438) (J 439)) = Z
  have z9 : Z 439 = overS 0 (J 438) (J 439) := by rw [← hZ]; exact setR_same
  have zo : ∀ y, y ≠ 439 → Z y = J y := fun y hy => by rw [← hZ]; exact setR_oth hy
  generalize hY : up2 Z 427 35 0 = Y
  have y9 : Y 439 = overS 0 (J 438) (J 439) := by rw [← hY, up2_oth (by decide), z9]
  have yo : ∀ y, y ≠ 439 → y ≠ 427 → Y y = J y := fun y h0 h1 => by rw [← hY, up2_oth h1, zo y h0]
  have yk : ∀ k, k ≠ 35 → Y 427 k = J 427 k := fun k h1 => by rw [← hY, up2_miss (by omega), zo 427 (by decide)]
  have yC : cfM Y = cfM J := cfM_mem (yk 14 (by decide)) (yo 434 (by decide) (by decide)) (yo 435 (by decide) (by decide)) (yo 436 (by decide) (by decide)) (yo 437 (by decide) (by decide))
  have yK : kfM Y = kfM J := by unfold kfM; rw [yo 430 (by decide) (by decide), yk 10 (by decide)]
  obtain ⟨T, t1, t2, t3, t4, t5, _⟩ := m_dn (d := d) (S := S) (K := kfM J) (C := cfM J) hM hK hk 99 0 N _ Y yC yK y9 hg2.2.1 hg2.2.2 hN0 tB (by omega) (by decide) (by decide) (by decide)
  refine ⟨T, ?_, BdN_le t2 (by omega), fun k h1 h2 h3 => by rw [t4 k h1 h2 h3, yk k h3], fun x h1 h2 h3 h4 => by rw [t5 x h1 h2 h3 h4, yo x h1 h2]⟩
  rw [E303_0 hM, m_copies hM, hZ]
  simp only [Option.bind_some, psh_u]
  rw [E303_4 hM, E284_0 hM, hY, t1]
  simp only [Option.bind_some, psh_i]
  rw [E303_12, w_small (z := (dnS (kfM J) (cfM J) 99 0 (overS 0 (J 438) (J 439))).1) (by omega) (by omega), E303_23, E303_23]
  unfold dtv
  by_cases g : (dnS (kfM J) (cfM J) 99 0 (overS 0 (J 438) (J 439))).1 < 0
  · rw [if_pos g, if_pos g]
  · rw [if_neg g, if_neg g]
theorem m_was (hM : MA S 427) (n1 : n ≤ 40) : ∀ (m : Nat) (k : Int) (J : II), J 427 10 = n → 0 ≤ k → k ≤ n → m = (n - k).toNat → ∃ W, ev (d + 1) 302 35 [(2, 427), (0, f), (0, a), (0, n), (0, k)] [] S J = ev (d + 1) 302 35 [(2, 427), (0, f), (0, a), (0, n), (0, n)] [] S W ∧ (∀ x, x ≠ 451 → W x = J x) ∧ ∀ j, W 451 j = if k ≤ j ∧ j < n then J 430 j else J 451 j := by
  intro m
  induction m with
  | zero =>
    intro k J hn k0 k1 hm
    have : k = n := by omega
    subst this
    exact ⟨J, rfl, fun _ _ => rfl, fun j => by rw [if_neg (by omega)]⟩
  | succ m ih =>
    intro k J hn k0 k1 hm
    obtain ⟨W, x1, x2, x3⟩ := ih (k + 1) (up2 J 451 k (J 430 k)) (by rw [up2_oth (by decide)]; exact hn) (by omega) (by omega) (by omega)
    refine ⟨W, ?_, fun x hx => by rw [x2 x hx, up2_oth hx], fun j => ?_⟩
    · rw [E302_35 hM, w_small (z := k) (by omega) (by omega), hn, w_small (z := n) (by omega) (by omega), if_pos (by omega), gdR_pos (by omega), gdR_pos (by omega), x1]
    · rw [x3 j]
      by_cases e : j = k
      · subst e
        rw [if_neg (by omega), up2_hit rfl rfl, if_pos (by omega)]
      · by_cases g : k ≤ j ∧ j < n
        · rw [if_pos (by omega), if_pos g, up2_oth (by decide)]
        · rw [if_neg (by omega), if_neg g, up2_miss (by omega)]
theorem okE_ext {c1 c2 : RW} : ∀ (n : Nat) (k : Int) (t : Nat), (∀ j, k ≤ j → j < k + n → c2 j = c1 j) → okE c1 n k t → okE c2 n k t := by
  intro n
  induction n with
  | zero => intro k t _ h; exact h
  | succ n ih =>
    intro k t he h
    unfold okE at h ⊢
    rw [he k (by omega) (by omega)]
    have nx : ∀ t', okE c1 n (k + 1) t' → okE c2 n (k + 1) t' := fun t' => ih (k + 1) t' (fun j j0 j1 => he j (by omega) (by omega))
    by_cases g : c1 k = 3000
    · rw [if_pos g] at h ⊢
      exact ⟨h.1, nx _ h.2⟩
    rw [if_neg g] at h ⊢
    by_cases g2 : c1 k < 2000
    · rw [if_pos g2] at h ⊢
      exact ⟨h.1, h.2.1, h.2.2.1, nx _ h.2.2.2⟩
    · rw [if_neg g2] at h ⊢
      exact ⟨h.1, h.2.1, nx _ h.2.2⟩
theorem call_law (hS : SH S) (h : ST N I) (hN0 : 100 ≤ N) (hN : N < 67000000) : ∃ r I1 I2, ev (d + 100) 181 0 [(2, 0), uU, uU, uU] [] S I = some ((0, r), S, I1) ∧ ev (d + 100) 302 0 [(2, 427), uU, uU, uU, uU] [] S I1 = some ((0, r), S, I2) ∧ ST (N + 100000) I2 := by
  obtain ⟨hQ, hM⟩ := hS
  obtain ⟨f, A, f0, f1, a1, a2, a3⟩ := both_read (d := d) hQ hM h.1
  have hk := h.2.2.2.1.1
  have hD := h.2.2.2.1.2
  obtain ⟨hKF, hRu⟩ := h.2.2.2.2.1
  obtain ⟨hB1, hB2, _, _⟩ := h.2.2.2.2.2.2.2
  have e1 := E181_0 (d := d + 99) (I := I) hQ
  rw [a1] at e1
  simp only [Option.bind_some, psh_i] at e1
  rw [E181_11 hQ, E137_0 (TA1 hQ)] at e1
  simp only [Option.bind_some, psh_u] at e1
  rw [E181_19 hQ, w_small (z := f) (by omega) (by omega)] at e1
  generalize hA1 : up2 A 1 1 0 = A1 at e1
  have ao : ∀ x, (x < 418 ∨ 423 < x) → x ≠ 1 → A1 x = I x := fun x hx x1 => by rw [← hA1, up2_oth x1]; exact a2 x hx
  have a11 : A1 1 1 = 0 := by rw [← hA1]; exact up2_hit rfl rfl
  have aU : A1 418 = A 418 ∧ A1 419 = A 419 := ⟨by rw [← hA1, up2_oth (by decide)], by rw [← hA1, up2_oth (by decide)]⟩
  by_cases g : f < 0
  · rw [if_pos g] at e1
    obtain ⟨cs, K, k1, k2, k3, k4, k5, k6, k7, k8⟩ := a3 (up2 A1 427 0 0) (by rw [up2_oth (by decide), ao 429 (by decide) (by decide)]) (by rw [up2_miss (by decide), ao 427 (by decide) (by decide)])
    have zo : ∀ x, x ≠ 427 → x ≠ 431 → x ≠ 1 → (x < 418 ∨ 423 < x) → K x = I x := fun x h3 h5 h6 h7 => by rw [k2 x h3 h5, up2_oth h3, ao x h7 h6]
    have zk : ∀ k, k ≠ 0 → k ≠ 4 → k ≠ 5 → k ≠ 6 → k ≠ 7 → k ≠ 11 → K 427 k = I 427 k := fun k h0 h4 h5 h6 h7 h11 => by rw [k3 k h4 h5 h6 h7 h11, up2_miss (by omega), ao 427 (by decide) (by decide)]
    refine ⟨f - 999, A1, K, e1, ?_, ST_mk h (cT_0 ?_ k4) (cR_mem h.2.1 (zo 3 (by decide) (by decide) (by decide) (by decide)) (zo 4 (by decide) (by decide) (by decide) (by decide)) (zo 428 (by decide) (by decide) (by decide) (by decide)) (zk 1 (by decide) (by decide) (by decide) (by decide) (by decide) (by decide))) (cU_mem h.2.2.2.2.1 (zo 412 (by decide) (by decide) (by decide) (by decide)) (zo 413 (by decide) (by decide) (by decide) (by decide)) (zo 430 (by decide) (by decide) (by decide) (by decide)) (zk 10 (by decide) (by decide) (by decide) (by decide) (by decide) (by decide))) (fun x h1 h2 h3 h4 h5 h6 => zo x (by omega) (by omega) h2 (by omega)) (fun k hk => zk k (by omega) (by omega) (by omega) (by omega) (by omega) (by omega)) (fun x hx => zo x (by omega) (by omega) (by omega) (by omega)) ?_⟩
    · rw [E302_0 hM, k1]
      simp only [Option.bind_some, psh_i]
      rw [E302_9 hM, w_small (z := f) (by omega) (by omega), if_pos g, show f + 1 - 1000 = f - 999 by omega]
    · rw [k2 1 (by decide) (by decide), up2_oth (by decide), a11]
    · rw [zo 439 (by decide) (by decide) (by decide) (by decide)]; exact BdN_le hB2 (by omega)
  have fz : f = 0 := by omega
  rw [if_neg g] at e1
  -- the class's two trials
  obtain ⟨cs0, K0, _, _, _, _, _, k06, k07, k08⟩ := a3 I rfl rfl
  obtain ⟨g01, g02, g03⟩ := k08 fz
  have rule_of : ∀ (code : RW) (cs : List Int), SK code cs → A 418 1 = (cs.length : Int) → SK (A 419) (cs.map tk) → RuleR A1 418 (code, (cs.length : Int)) := fun code cs s1 s2 s3 => ⟨by rw [aU.1]; exact s2, fun j j0 j1 => by
    show A1 419 j = tk (code j)
    rw [aU.2]
    exact SK_tk cs s3 s1 j j0 j1⟩
  obtain ⟨v1, B1, b1, b2, b3, b4, b5⟩ := c_dt2 (d := d + 90) (S := S) (A := A1) (C := cfM I) (ρ := I 438) hQ (UA418 hQ) (by decide) (GD_mem hD (fun x x0 x1 => ao x (by omega) (by omega))) (rule_of (K0 431) cs0 k06 g01 g02) (okK_of k06 k07 g03) hk hN0 hB1 (by omega)
  have r412 : RuleR B1 412 (kfM I) := by
    unfold RuleR at *
    rw [b2 412 (by decide) (by decide) (by decide), b2 (412 + 1) (by decide) (by decide) (by decide), ao 412 (by decide) (by decide), ao (412 + 1) (by decide) (by decide)]
    exact hRu
  obtain ⟨v2, B2, c1, c2, c3, c4, c5⟩ := c_dt2 (d := d + 90) (S := S) (A := B1) (C := cfM I) (ρ := I 438) hQ (UA412 hQ) (by decide) (GD_mem hD (fun x x0 x1 => by rw [b2 x (by omega) (by omega) (by omega)]; exact ao x (by omega) (by omega))) r412 hKF hk hN0 hB1 (by omega)
  obtain ⟨D, d1, d2, d3⟩ := c_tell2 (d := d + 97) (S := S) (I := B2) (x := v1) (y := v2) (RA3 hQ)
  rw [b1] at e1
  simp only [Option.bind_some, psh_i] at e1
  rw [E181_37 hQ, c1] at e1
  simp only [Option.bind_some, psh_i] at e1
  rw [E181_46 hQ, w_small (z := v1) (by omega) (by omega), w_small (z := v2) (by omega) (by omega), d1] at e1
  simp only [Option.bind_some, psh_u] at e1
  rw [E181_58] at e1
  have do' : ∀ x, x ≠ 1 → x ≠ 3 → x ≠ 4 → ¬ (36 ≤ x ∧ x < 67) → x ≠ 416 → x ≠ 417 → ¬ (418 ≤ x ∧ x < 424) → D x = I x := fun x h1 h3 h4 h5 h6 h7 h8 => by rw [d3 x h3 h4, c2 x h5 (by omega) (by omega), b2 x h5 (by omega) (by omega), ao x (by omega) h1]
  have d11 : D 1 1 = 0 := by rw [d3 1 (by decide) (by decide), c2 1 (by decide) (by decide) (by decide), b2 1 (by decide) (by decide) (by decide)]; exact a11
  -- the reference
  obtain ⟨cs, K, k1, k2, k3, k4, k5, k6, k7, k8⟩ := a3 (up2 D 427 0 0) (by rw [up2_oth (by decide), do' 429 (by decide) (by decide) (by decide) (by decide) (by decide) (by decide) (by decide)]) (by rw [up2_miss (by decide), do' 427 (by decide) (by decide) (by decide) (by decide) (by decide) (by decide) (by decide)])
  obtain ⟨g1, g2, g3⟩ := k8 fz
  have ko : ∀ x, 424 ≤ x → x ≠ 427 → x ≠ 431 → K x = I x := fun x h1 h2 h3 => by rw [k2 x h2 h3, up2_oth h2, do' x (by omega) (by omega) (by omega) (by omega) (by omega) (by omega) (by omega)]
  have kk : ∀ k, k ≠ 0 → k ≠ 4 → k ≠ 5 → k ≠ 6 → k ≠ 7 → k ≠ 11 → K 427 k = I 427 k := fun k h0 h4 h5 h6 h7 h11 => by rw [k3 k h4 h5 h6 h7 h11, up2_miss (by omega), do' 427 (by decide) (by decide) (by decide) (by decide) (by decide) (by decide) (by decide)]
  have kC : cfM K = cfM I := cfM_mem (kk 14 (by decide) (by decide) (by decide) (by decide) (by decide) (by decide)) (ko 434 (by decide) (by decide) (by decide)) (ko 435 (by decide) (by decide) (by decide)) (ko 436 (by decide) (by decide) (by decide)) (ko 437 (by decide) (by decide) (by decide))
  have kK : kfM K = kfM I := by unfold kfM; rw [ko 430 (by decide) (by decide) (by decide), kk 10 (by decide) (by decide) (by decide) (by decide) (by decide) (by decide)]
  have k38 := ko 438 (by decide) (by decide) (by decide)
  have k39 := ko 439 (by decide) (by decide) (by decide)
  obtain ⟨T1, t1, t2, t3, t4⟩ := m_dt (d := d + 90) (S := S) (J := K) (G := I) hM (by rw [kK]; exact hKF) (by rw [kC]; exact hk) (by rw [kC, k38]; exact hD) hN0 (by rw [k38]; exact hB1) (by rw [k39]; exact hB2) (by omega)
  rw [kK, kC, k38, k39] at t1
  rw [← c5 (kfM I) (overS 0 (I 438) (I 439)) r412 hKF (fun j j0 j1 => overS_e j0 j1) (BdN_le (overS_B hB1 hB2) (by omega))] at t1
  have tn : T1 427 10 = I 427 10 := by rw [t3 10 (by decide) (by decide) (by decide)]; exact kk 10 (by decide) (by decide) (by decide) (by decide) (by decide) (by decide)
  have q0 : 0 ≤ I 427 10 := hKF.1
  have q1 : I 427 10 ≤ 40 := hKF.2.1
  obtain ⟨W, w1, w2, w3⟩ := m_was (d := d + 99) (S := S) (f := f) (a := v2) (n := I 427 10) hM q1 (I 427 10).toNat 0 T1 tn (by decide) q0 (by omega)
  have w11 : W 427 11 = (cs.length : Int) := by rw [w2 427 (by decide), t3 11 (by decide) (by decide) (by decide)]; exact k5
  have w10 : W 427 10 = I 427 10 := by rw [w2 427 (by decide)]; exact tn
  obtain ⟨Z, z1, z2, z3, z4, z5⟩ := m_layD (d := d + 99) (S := S) (J := W) (a1 := 431) (n := W 427 11) hM (MA_k9 hM) (by decide) (by decide) (by omega) (by omega)
  have w31 : W 431 = K 431 := by rw [w2 431 (by decide), t4 431 (by decide) (by decide) (by decide) (by decide)]
  have z30 : SK (Z 430) cs := SK_ext cs k6 (fun j j0 j1 => by rw [z5 j, if_pos (by omega), w31])
  have zlen : Z 427 10 = (cs.length : Int) := by rw [z4]; exact w11
  have zK : kfM Z = (Z 430, (cs.length : Int)) := by unfold kfM; rw [zlen]
  have zo : ∀ x, x ≠ 430 → x ≠ 427 → x ≠ 451 → x ≠ 439 → x ≠ 432 → x ≠ 433 → Z x = K x := fun x h1 h2 h3 h4 h5 h6 => by rw [z2 x h1 h2, w2 x h3, t4 x h4 h2 h5 h6]
  have zk : ∀ k, k ≠ 10 → k ≠ 24 → k ≠ 25 → k ≠ 35 → Z 427 k = K 427 k := fun k h1 h2 h3 h4 => by rw [z3 k h1, w2 427 (by decide), t3 k h2 h3 h4]
  have zC : cfM Z = cfM I := (cfM_mem (zk 14 (by decide) (by decide) (by decide) (by decide)) (zo 434 (by decide) (by decide) (by decide) (by decide) (by decide) (by decide)) (zo 435 (by decide) (by decide) (by decide) (by decide) (by decide) (by decide)) (zo 436 (by decide) (by decide) (by decide) (by decide) (by decide) (by decide)) (zo 437 (by decide) (by decide) (by decide) (by decide) (by decide) (by decide))).trans kC
  have z38 : Z 438 = I 438 := (zo 438 (by decide) (by decide) (by decide) (by decide) (by decide) (by decide)).trans k38
  have z39 : Z 439 = T1 439 := by rw [z2 439 (by decide) (by decide), w2 439 (by decide)]
  have okZ : okK (kfM Z) := by rw [zK]; exact okK_of z30 k7 g3
  obtain ⟨T2, s1, s2, s3, s4⟩ := m_dt (d := d + 90) (S := S) (J := Z) (G := I) (N := N + 44000) hM okZ (by rw [zC]; exact hk) (by rw [zC, z38]; exact hD) (by omega) (by rw [z38]; exact BdN_le hB1 (by omega)) (by rw [z39]; exact t2) (by omega)
  rw [zC, z38, z39] at s1
  rw [← b5 (kfM Z) (overS 0 (I 438) (T1 439)) (by rw [zK]; exact rule_of (Z 430) cs z30 g1 g2) okZ (fun j j0 j1 => overS_e j0 j1) (BdN_le (overS_B (BdN_le hB1 (show N ≤ N + 44000 by omega)) t2) (by omega))] at s1
  obtain ⟨Y, y1, y2, y3, y4, y5⟩ := m_layD (d := d + 99) (S := S) (J := T2) (a1 := 451) (n := I 427 10) hM (MA_k40 hM) (by decide) (by decide) q0 (by omega)
  have t51 : ∀ j, 0 ≤ j → j < I 427 10 → T2 451 j = I 430 j := fun j j0 j1 => by
    rw [s4 451 (by decide) (by decide) (by decide) (by decide), z2 451 (by decide) (by decide), w3 j, if_pos ⟨j0, j1⟩, t4 430 (by decide) (by decide) (by decide) (by decide), ko 430 (by decide) (by decide) (by decide)]
  generalize hgg : updR (updR (fun _ => 0) 0 v1) 1 v2 = gg at d2
  have gg0 : gg 0 = v1 := by rw [← hgg]; rfl
  have gg1 : gg (0 + 1) = v2 := by rw [← hgg]; rfl
  obtain ⟨P, p1, p2, p3⟩ := m_next (d := d + 99) (S := S) (I := up2 Y 427 1 0) (g := gg) (n := 0) (x := v1) hM MD_0 (by decide) (by decide) gg0.symm
  obtain ⟨X, x1, x2, x3⟩ := m_next (d := d + 99) (S := S) (I := P) (g := gg) (n := 0 + 1) (x := v2) hM p2 (by decide) (by decide) gg1.symm
  have xo : ∀ x, x ≠ 427 → x ≠ 428 → X x = Y x := fun x h1 h2 => by rw [x3.2 x h1 h2, p3.2 x h1 h2, up2_oth h1]
  have xk : ∀ k, k ≠ 1 → X 427 k = Y 427 k := fun k h1 => by rw [x3.1 k h1, p3.1 k h1, up2_miss (by omega)]
  have fo : ∀ x, x ≠ 427 → x ≠ 428 → x ≠ 430 → x ≠ 431 → x ≠ 432 → x ≠ 433 → x ≠ 439 → x ≠ 451 → X x = D x := fun x h1 h2 h3 h4 h5 h6 h7 h8 => by rw [xo x h1 h2, y2 x h3 h1, s4 x h7 h1 h5 h6, zo x h3 h1 h8 h7 h5 h6, k2 x h1 h4, up2_oth h1]
  have fk : ∀ k, k ≠ 0 → k ≠ 1 → k ≠ 4 → k ≠ 5 → k ≠ 6 → k ≠ 7 → k ≠ 10 → k ≠ 11 → k ≠ 24 → k ≠ 25 → k ≠ 35 → X 427 k = I 427 k := fun k h0 h1 h4 h5 h6 h7 h10 h11 h24 h25 h35 => by rw [xk k h1, y3 k h10, s3 k h24 h25 h35, zk k h10 h24 h25 h35, kk k h0 h4 h5 h6 h7 h11]
  have x10 : X 427 10 = I 427 10 := by rw [xk 10 (by decide)]; exact y4
  have x30 : ∀ j, 0 ≤ j → j < I 427 10 → X 430 j = I 430 j := fun j j0 j1 => by rw [xo 430 (by decide) (by decide), y5 j, if_pos ⟨j0, j1⟩]; exact t51 j j0 j1
  have fI : ∀ x, x ≠ 1 → x ≠ 3 → x ≠ 4 → ¬ (36 ≤ x ∧ x < 67) → x ≠ 416 → x ≠ 417 → ¬ (418 ≤ x ∧ x < 424) → x ≠ 427 → x ≠ 428 → x ≠ 430 → x ≠ 431 → x ≠ 432 → x ≠ 433 → x ≠ 439 → x ≠ 451 → X x = I x := fun x i1 i2 i3 i4 i5 i6 i7 h1 h2 h3 h4 h5 h6 h7 h8 => by rw [fo x h1 h2 h3 h4 h5 h6 h7 h8, do' x i1 i2 i3 i4 i5 i6 i7]
  have hU : cU X := by
    have kf : kfM X = (X 430, I 427 10) := by unfold kfM; rw [x10]
    refine ⟨?_, ?_, fun j j0 j1 => ?_⟩
    · rw [kf]
      refine ⟨q0, q1, fun hne => ?_⟩
      exact okE_ext _ 0 0 (fun j j0 j1 => x30 j j0 (by have : j < 0 + (((I 427 10).toNat : Nat) : Int) := j1; omega)) (hKF.2.2 hne)
    · rw [fI 412 (by decide) (by decide) (by decide) (by decide) (by decide) (by decide) (by decide) (by decide) (by decide) (by decide) (by decide) (by decide) (by decide) (by decide) (by decide), kf]
      exact hRu.1
    · rw [kf] at j1 ⊢
      have j1' : j < I 427 10 := j1
      show X 413 j = tk (X 430 j)
      rw [fI 413 (by decide) (by decide) (by decide) (by decide) (by decide) (by decide) (by decide) (by decide) (by decide) (by decide) (by decide) (by decide) (by decide) (by decide) (by decide), x30 j j0 j1']
      exact hRu.2 j j0 j1'
  refine ⟨v1 - v2, D, X, e1, ?_, ST_mk h (cT_0 ?_ ?_) (cR_of (TD_congr d2 (fo 3 (by decide) (by decide) (by decide) (by decide) (by decide) (by decide) (by decide) (by decide)) (fo 4 (by decide) (by decide) (by decide) (by decide) (by decide) (by decide) (by decide) (by decide))) x2 (by decide) (by decide)) hU (fun x h1 h2 h3 h4 h5 h6 => fI x h2 h3 h4 h5 (by omega) (by omega) (by omega) (by omega) (by omega) (by omega) (by omega) (by omega) (by omega) (by omega) (by omega)) (fun k hk => fk k (by omega) (by omega) (by omega) (by omega) (by omega) (by omega) (by omega) (by omega) (by omega) (by omega) (by omega)) (fun x hx => fI x (by omega) (by omega) (by omega) (by omega) (by omega) (by omega) (by omega) (by omega) (by omega) (by omega) (by omega) (by omega) (by omega) (by omega) (by omega)) ?_⟩
  · rw [E302_0 hM, k1]
    simp only [Option.bind_some, psh_i]
    rw [E302_9 hM, w_small (z := f) (by omega) (by omega), if_neg g, t1]
    simp only [Option.bind_some, psh_i]
    rw [E302_26 hM, tn, w1, E302_35 hM, w10, if_neg (by omega), z1]
    simp only [Option.bind_some, psh_u]
    rw [E302_76 hM, s1]
    simp only [Option.bind_some, psh_i]
    rw [E302_80 hM, y1]
    simp only [Option.bind_some, psh_u]
    rw [E302_91 hM, w_small (z := v1) (by omega) (by omega), p1]
    simp only [Option.bind_some, psh_u]
    rw [E302_103 hM, w_small (z := v2) (by omega) (by omega), x1]
    simp only [Option.bind_some, psh_u]
    rw [E302_109]
  · rw [fo 1 (by decide) (by decide) (by decide) (by decide) (by decide) (by decide) (by decide) (by decide)]; exact d11
  · rw [xk 4 (by decide), y3 4 (by decide), s3 4 (by decide) (by decide) (by decide), zk 4 (by decide) (by decide) (by decide) (by decide)]; exact k4
  · rw [xo 439 (by decide) (by decide), y2 439 (by decide) (by decide)]; exact BdN_le s2 (by omega)
end ra09
