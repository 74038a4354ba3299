/-! ticks -/
def tksS (K : KF) (C : CF) : Nat → RW → RW
  | 0, ρ => ρ
  | n + 1, ρ => tksS K C n (tickS K C ρ)
def idlS (K : KF) (C : CF) : Nat → RW → Int
  | 0, _ => 0
  | n + 1, ρ => (if tickS K C ρ 493 = 0 then 1 else 0) + idlS K C n (tickS K C ρ)
section r90
variable {d : Nat} {S : SS} {I J G I2 : II} {C : CF} {K : KF} {ρ σ : RW} {b u q k v j N r : Int}
theorem postl_ge (hn : C.1 ≤ 5) : ∀ (n : Nat) (k : Int) (ρ : RW), 0 ≤ k → okPost C n k ρ → psum C ρ ≤ psum C (postlS C n k ρ) := by
  intro n
  induction n with
  | zero => intro k ρ _ _; exact Int.le_refl _
  | succ n ih =>
    intro k ρ hk ho
    obtain ⟨o1, o2, o3, o4⟩ := ho
    unfold postlS
    by_cases g : roomS C ρ k = true
    · rw [if_pos g]
      obtain ⟨p1, p2, p3, p4⟩ := post_facts hn o1 hk o2
      have := ih k (postS C ρ k) hk (o3 g)
      omega
    · rw [if_neg g]
      exact ih (k + 1) ρ (by omega) (o4 g)
theorem tick_ge (hk : okC C) (h : WF C ρ) (hl : lftOK 1 ρ) (hN : 100 ≤ N) (hB : BdN N ρ) (hb : N < 80000000) : psum C ρ ≤ psum C (tickS K C ρ) := by
  obtain ⟨e1, _⟩ := tick_num (K := K) hk h hl hN hB hb
  obtain ⟨⟨_, _, _, k4, _, _, _⟩, _, _⟩ := tick_WF K hk h hl hN hB hb
  have p2 : psum C (tk3S C ρ) + tk3S C ρ 814 = psum C (tk2S ρ) + tk2S ρ 814 := (postl_facts hk.2.1 _ _ _ (by decide) k4).2.1
  have g : psum C (tk2S ρ) ≤ psum C (tk3S C ρ) := postl_ge hk.2.1 _ _ _ (by decide) k4
  omega
theorem tks_WF (hk : okC C) : ∀ (n : Nat) (N : Int) (ρ : RW), WF C ρ → lftOK 1 ρ → 100 ≤ N → BdN N ρ → N + 400 * n < 80000000 → WF C (tksS K C n ρ) ∧ lftOK 1 (tksS K C n ρ) ∧ BdN (N + 400 * n) (tksS K C n ρ) ∧ psum C ρ ≤ psum C (tksS K C n ρ) := by
  intro n
  induction n with
  | zero => intro N ρ h hl hN hB hb; exact ⟨h, hl, BdN_le hB (by omega), Int.le_refl _⟩
  | succ n ih =>
    intro N ρ h hl hN hB hb
    obtain ⟨_, w1, w2, w3, _⟩ := tick_WF K hk h hl hN hB (by omega)
    have g := tick_ge (K := K) hk h hl hN hB (by omega)
    obtain ⟨i1, i2, i3, i4⟩ := ih (N + 400) (tickS K C ρ) w1 w2 (by omega) w3 (by omega)
    exact ⟨i1, i2, BdN_le i3 (by omega), Int.le_trans g i4⟩
theorem idl_b : ∀ (n : Nat) (ρ : RW), 0 ≤ idlS K C n ρ ∧ idlS K C n ρ ≤ n := by
  intro n
  induction n with
  | zero => intro ρ; exact ⟨Int.le_refl _, Int.le_refl _⟩
  | succ n ih =>
    intro ρ
    have := ih (tickS K C ρ)
    unfold idlS
    split <;> omega
theorem c_tks {x4 x5 : Int} (hb : 0 ≤ b) (hbu : b + 31 ≤ u) (hD : DA S b) (hU : UA S u) (hK : okK K) (hk : okC C) (hv : v ≤ 1000) : ∀ (n : Nat) (N k x : Int) (ρ : RW) (I : II), RelD C I b ρ → RuleR I u K → WF C ρ → lftOK 1 ρ → 100 ≤ N → BdN N ρ → N + 400 * n < 80000000 → 0 ≤ k → k ≤ v → n = (v - k).toNat →
    ∃ J, ev (d + 7) 23 34 [(2, b), (0, v), (2, u), (2, 3), (0, x4), (0, x5), (0, x), (0, k)] [] S I = ev (d + 7) 23 34 [(2, b), (0, v), (2, u), (2, 3), (0, x4), (0, x5), (0, x + idlS K C n ρ), (0, v)] [] S J ∧ RelD C J b (tksS K C n ρ) ∧ OUTR b u I J := by
  intro n
  induction n with
  | zero =>
    intro N k x ρ I hR hu hw hl hN hB hb8 k0 k1 hn
    have : k = v := by omega
    subst this
    refine ⟨I, ?_, hR, fun _ _ _ _ => rfl⟩
    unfold idlS; rw [Int.add_zero]
  | succ n ih =>
    intro N k x ρ I hR hu hw hl hN hB hb8 k0 k1 hn
    obtain ⟨J, j1, j2, j3⟩ := c_goOn (d := d) hb hbu hD hU hK hk hR hu hw hl hN hB (by omega)
    obtain ⟨_, w1, w2, w3, _⟩ := tick_WF K hk hw hl hN hB (by omega)
    have e10 : J b 10 = tickS K C ρ 493 := j2.1.2.2.2.2.2.1
    have t0 := w1.1.2.1.1
    have t4 := w1.1.2.1.2.1
    obtain ⟨Z, z1, z2, z3⟩ := ih (N + 400) (k + 1) (x + (if tickS K C ρ 493 = 0 then 1 else 0)) (tickS K C ρ) J j2 (RuleR_OUTR hbu hu j3) w1 w2 (by omega) w3 (by omega) (by omega) (by omega) (by omega)
    refine ⟨Z, ?_, z2, fun a a0 a1 a2 => (z3 a a0 a1 a2).trans (j3 a a0 a1 a2)⟩
    rw [E23_34 hD, w_small (z := k) (by omega) (by omega), w_small (z := v) (by omega) (by omega), if_pos (by omega), j1]
    simp only [Option.bind_some, psh_u]
    rw [E23_45 hD, e10, w_small (z := tickS K C ρ 493) (by omega) (by omega), E23_59, E23_59]
    have ei : x + idlS K C (n + 1) ρ = x + (if tickS K C ρ 493 = 0 then 1 else 0) + idlS K C n (tickS K C ρ) := by
      show x + ((if tickS K C ρ 493 = 0 then 1 else 0) + idlS K C n (tickS K C ρ)) = _
      omega
    rw [ei]
    by_cases g : tickS K C ρ 493 = 0
    · rw [if_pos g] at z1; rw [if_pos g, if_pos g]; exact z1
    · rw [if_neg g] at z1; rw [if_neg g, if_neg g]; exact z1
theorem m_tks (hM : MA S 427) (hr : isRw r) (hk : okC C) (hK : okK K) (hv : v ≤ 1000) : ∀ (n : Nat) (N k : Int) (ρ : RW) (I : II), cfM I = C → kfM I = K → I r = ρ → WF C ρ → lftOK 1 ρ → 100 ≤ N → BdN N ρ → N + 400 * n < 80000000 → 0 ≤ k → k ≤ v → n = (v - k).toNat →
    ∃ J, ev (d + 8) 236 17 [(2, 427), (2, r), (0, v), (0, k)] [] S I = some (uU, S, J) ∧ J r = tksS K C n ρ ∧ J 427 24 = I 427 24 + (psum C (tksS K C n ρ) - psum C ρ) ∧ J 427 25 = I 427 25 + (fnum C (tksS K C n ρ) - fnum C ρ) ∧ J 427 26 = I 427 26 + idlS K C n ρ ∧ (∀ k, k ≠ 24 → k ≠ 25 → k ≠ 26 → J 427 k = I 427 k) ∧ ∀ x, x ≠ r → x ≠ 427 → x ≠ 432 → x ≠ 433 → J x = I x := by
  have hKr := isRw_K hM hr
  have rn : r ≠ 427 := by rcases hr with e | e <;> omega
  have r43 : 430 ≠ r ∧ 434 ≠ r ∧ 435 ≠ r ∧ 436 ≠ r ∧ 437 ≠ r := by rcases hr with e | e <;> omega
  intro n
  induction n with
  | zero =>
    intro N k ρ I hC hKF hI hw hl hN hB hb8 k0 k1 hn
    have : k = v := by omega
    subst this
    refine ⟨I, by rw [E236_17 hM, if_neg (by omega)], hI, ?_, ?_, ?_, fun _ _ _ _ => rfl, fun _ _ _ _ _ => rfl⟩
    · show _ = _ + (psum C ρ - psum C ρ); omega
    · show _ = _ + (fnum C ρ - fnum C ρ); omega
    · show _ = _ + 0; omega
  | succ n ih =>
    intro N k ρ I hC hKF hI hw hl hN hB hb8 k0 k1 hn
    obtain ⟨ok, w1, w2, w3, _⟩ := tick_WF K hk hw hl hN hB (by omega)
    obtain ⟨n1, n2⟩ := tick_num (K := K) hk hw hl hN hB (by omega)
    have t0 := w1.1.2.1.1
    have t4 := w1.1.2.1.2.1
    obtain ⟨J, j1, j2, j3, j4, j5, j6⟩ := m_tick (d := d) (S := S) (I := I) (r := r) hM hr (by rw [hC]; exact hk) (by rw [hKF]; exact hK) (by rw [hC, hKF, hI]; exact ok)
    rw [hC, hKF, hI] at j2
    rw [hC, hI, ← n1] at j3
    rw [hC, hKF, hI, ← n2] at j4
    have f0 : ∀ u : Int, (u = 0 ∨ u = 1) → ev (d + 7) 199 0 [(0, u)] [] S J = some ((0, u), S, J) := fun u hu => m_flag hu
    generalize hG : up2 J 427 26 (J 427 26 + (if tickS K C ρ 493 = 0 then 1 else 0)) = G
    have gC : cfM G = C := by
      rw [← hC]
      exact cfM_mem (by rw [← hG, up2_miss (by omega), j5 14 (by decide) (by decide)]) (by rw [← hG, up2_oth (by decide), j6 434 r43.2.1 (by decide) (by decide) (by decide)]) (by rw [← hG, up2_oth (by decide), j6 435 r43.2.2.1 (by decide) (by decide) (by decide)]) (by rw [← hG, up2_oth (by decide), j6 436 r43.2.2.2.1 (by decide) (by decide) (by decide)]) (by rw [← hG, up2_oth (by decide), j6 437 r43.2.2.2.2 (by decide) (by decide) (by decide)])
    have gK : kfM G = K := by
      rw [← hKF]; unfold kfM
      rw [← hG, up2_miss (by omega), up2_oth (by decide), j6 430 r43.1 (by decide) (by decide) (by decide), j5 10 (by decide) (by decide)]
    obtain ⟨Z, z1, z2, z3, z4, z5, z6, z7⟩ := ih (N + 400) (k + 1) (tickS K C ρ) G gC gK (by rw [← hG, up2_oth rn]; exact j2) w1 w2 (by omega) w3 (by omega) (by omega) (by omega) (by omega)
    refine ⟨Z, ?_, z2, ?_, ?_, ?_, fun k a0 a1 a2 => by rw [z6 k a0 a1 a2, ← hG, up2_miss (by omega), j5 k a0 a1], fun x a0 a1 a2 a3 => by rw [z7 x a0 a1 a2 a3, ← hG, up2_oth a1, j6 x a0 a1 a2 a3]⟩
    · rw [E236_17 hM, w_small (z := k) (by omega) (by omega), w_small (z := v) (by omega) (by omega), if_pos (by omega), j1]
      simp only [Option.bind_some, psh_u]
      rw [E236_27 hM hKr, gdR_pos (by decide), show w 493 = 493 by decide, j2, w_small (z := tickS K C ρ 493) (by omega) (by omega), E236_45, E236_45, f0 1 (Or.inr rfl), f0 0 (Or.inl rfl)]
      simp only [Option.bind_some, psh_i]
      rw [E236_48 hM, E236_48 hM, ← z1, ← hG]
      by_cases g : tickS K C ρ 493 = 0
      · rw [if_pos g, if_pos g]
      · rw [if_neg g, if_neg g]
    · rw [z3, ← hG, up2_miss (by omega), j3]
      show _ = _ + (psum C (tksS K C n (tickS K C ρ)) - _)
      omega
    · rw [z4, ← hG, up2_miss (by omega), j4]
      show _ = _ + (fnum C (tksS K C n (tickS K C ρ)) - _)
      omega
    · rw [z5, ← hG, up2_hit rfl rfl, j5 26 (by decide) (by decide)]
      show _ = _ + ((if tickS K C ρ 493 = 0 then 1 else 0) + idlS K C n (tickS K C ρ))
      omega
end r90
