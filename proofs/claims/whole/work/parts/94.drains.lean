/-! drains -/
def dnS (K : KF) (C : CF) : Nat → Int → RW → Int × RW
  | 0, a, ρ => if drainedS C ρ = true then (a, ρ) else (-2, ρ)
  | n + 1, a, ρ => if drainedS C ρ = true then (a, ρ) else dnS K C n (a + 1) (tickS K C (takAllS C.1.toNat 0 ρ))
section r94
variable {d : Nat} {S : SS} {I J G I2 : II} {C : CF} {K : KF} {ρ σ : RW} {a b u q k v j N r id : Int}
theorem post_6 (hn : C.1 ≤ 5) (hC : Cn ρ) (h0 : 0 ≤ k) (hq : 0 ≤ ρ (494 + 4 * k) ∧ ρ (494 + 4 * k) < C.1) (q0 : 0 ≤ q) (q1 : q < 5) : postS C ρ k (89 * q + 6) = ρ (89 * q + 6) := by
  have c80 := hC.2.2.2.2.2
  have pb := pAt_b (q := ρ (494 + 4 * k)) (k := ρ (89 * ρ (494 + 4 * k) + 5)) hq.1 (by omega)
  have la : ∀ j, j ≠ 89 * ρ (494 + 4 * k) + 5 → ¬ (pAt (ρ (494 + 4 * k)) (ρ (89 * ρ (494 + 4 * k) + 5)) ≤ j ∧ j ≤ pAt (ρ (494 + 4 * k)) (ρ (89 * ρ (494 + 4 * k) + 5)) + 4) → laidS C ρ k j = ρ j := fun j j0 j1 => by
    unfold laidS; simp (disch := omega) only [updR_miss]
  unfold postS outGoS shf
  rw [if_neg (by omega), updR_miss (by omega), la _ (by omega) (by omega)]
theorem postl_6 (hn : C.1 ≤ 5) (q0 : 0 ≤ q) (q1 : q < 5) : ∀ (n : Nat) (k : Int) (ρ : RW), 0 ≤ k → okPost C n k ρ → postlS C n k ρ (89 * q + 6) = ρ (89 * q + 6) := by
  intro n
  induction n with
  | zero => intro k ρ _ _; rfl
  | succ n ih =>
    intro k ρ hk ho
    obtain ⟨o1, o2, o3, o4⟩ := ho
    unfold postlS
    by_cases g : roomS C ρ k = true
    · rw [if_pos g, ih k (postS C ρ k) hk (o3 g), post_6 hn o1 hk o2 q0 q1]
    · rw [if_neg g]
      exact ih (k + 1) ρ (by omega) (o4 g)
theorem shads_6 : ∀ (n : Nat) (q' : Int) (ρ : RW), 0 ≤ q' → q' + n ≤ 5 → shadsS C n q' ρ (89 * q + 6) = ρ (89 * q + 6) := by
  intro n
  induction n with
  | zero => intro q' ρ _ _; rfl
  | succ n ih =>
    intro q' ρ q0 q1
    unfold shadsS
    rw [ih (q' + 1) _ (by omega) (by omega), shad_lo (by omega)]
theorem fetl_6 (hk : okC C) : ∀ (n : Nat) (ρ : RW), 0 ≤ q → q < 5 → okFet K C n ρ → fetlS K C n ρ (89 * q + 6) = ρ (89 * q + 6) := by
  intro n
  induction n with
  | zero => intro ρ _ _ _; rfl
  | succ n ih =>
    intro ρ q0 q1 ho
    obtain ⟨o1, o2, o3, o4, o5⟩ := ho
    unfold fetlS
    by_cases g : ρ 493 < ρ 826 ∧ anyS C ρ = true
    · obtain ⟨p1, p2, p3, p4, p5, p6⟩ := o5 g
      rw [if_pos g, ih _ q0 q1 p6, fetches_lo hk o2.1 o2.2.2.2.2.1 p1 (by omega) (by omega)]
    · rw [if_neg g]
theorem tick_6 (hk : okC C) (h : WF C ρ) (hl : lftOK 1 ρ) (hN : 100 ≤ N) (hB : BdN N ρ) (hb : N < 80000000) (q0 : 0 ≤ q) (q1 : q < 5) : tickS K C ρ (89 * q + 6) = ρ (89 * q + 6) := by
  have hn0 := hk.1
  have hn5 := hk.2.1
  obtain ⟨⟨k1, k2, k3, k4, k5, k6, k7⟩, w, _⟩ := tick_WF K hk h hl hN hB hb
  have c1 : tk1S ρ 493 ≤ 4 := by
    have : Cn (tk1S ρ) := by
      revert k3
      generalize (tk1S ρ 493).toNat = n
      intro k3
      cases n with
      | zero => exact k3
      | succ m => exact k3.1
    exact this.2.2.1
  have e1 : tk1S ρ (89 * q + 6) = ρ (89 * q + 6) := decs_lo (Or.inl (by omega)) _ _ _ (by decide) (by omega)
  have e2 : tk2S ρ (89 * q + 6) = tk1S ρ (89 * q + 6) := endl_lo (Or.inl (by omega)) _ _ _ (by decide) c1 k3
  have e3 : tk3S C ρ (89 * q + 6) = tk2S ρ (89 * q + 6) := postl_6 hn5 q0 q1 _ _ _ (by decide) k4
  have e4 : tk4S C ρ (89 * q + 6) = tk3S C ρ (89 * q + 6) := shads_6 _ _ _ (by decide) (by omega)
  have e5 : tk5S K C ρ (89 * q + 6) = tk4S C ρ (89 * q + 6) := fetl_6 hk 80 (tk4S C ρ) q0 q1 k6
  have e6 : tickS K C ρ (89 * q + 6) = tk5S K C ρ (89 * q + 6) := updR_miss (by omega)
  rw [e6, e5, e4, e3, e2, e1]
theorem tick_us (hk : okC C) (h : WF C ρ) (hl : lftOK 1 ρ) (hN : 100 ≤ N) (hB : BdN N ρ) (hb : N < 80000000) : usum C (tickS K C ρ) = usum C ρ :=
  sm_congr _ _ (fun q q0 q1 => tick_6 hk h hl hN hB hb q0 (by have := hk.2.1; have := hk.1; omega))
/-- a turn of a drain -/
theorem dn_step (K : KF) (hk : okC C) (h : WF C ρ) (hl : lftOK 1 ρ) (hN : 100 ≤ N) (hB : BdN N ρ) (hb : N < 70000000) : WF C (takAllS C.1.toNat 0 ρ) ∧ lftOK 1 (takAllS C.1.toNat 0 ρ) ∧ BdN (N + 35) (takAllS C.1.toNat 0 ρ) ∧ WF C (tickS K C (takAllS C.1.toNat 0 ρ)) ∧ lftOK 1 (tickS K C (takAllS C.1.toNat 0 ρ)) ∧ BdN (N + 435) (tickS K C (takAllS C.1.toNat 0 ρ)) := by
  have hn0 := hk.1
  have hn5 := hk.2.1
  obtain ⟨t1, t2, t3⟩ := takAll_facts hn5 C.1.toNat 0 N ρ h hl hB (by decide) (by omega)
  have t3' := BdN_le t3 (show N + 7 * (C.1.toNat : Int) ≤ N + 35 by omega)
  obtain ⟨_, w1, w2, w3, _⟩ := tick_WF K hk t1 t2 (show 100 ≤ N + 35 by omega) t3' (by omega)
  exact ⟨t1, t2, t3', w1, w2, BdN_le w3 (by omega)⟩
theorem dn_b (hk : okC C) : ∀ (n : Nat) (a N : Int) (ρ : RW), WF C ρ → lftOK 1 ρ → 100 ≤ N → BdN N ρ → N + 435 * n < 70000000 → 0 ≤ a → (-2 ≤ (dnS K C n a ρ).1 ∧ (dnS K C n a ρ).1 ≤ a + n) ∧ WF C (dnS K C n a ρ).2 ∧ BdN (N + 435 * n) (dnS K C n a ρ).2 := by
  intro n
  induction n with
  | zero =>
    intro a N ρ h hl hN hB hb ha
    unfold dnS
    by_cases g : drainedS C ρ = true
    · rw [if_pos g]; exact ⟨⟨by show -2 ≤ a; omega, by show a ≤ _; omega⟩, h, BdN_le hB (by omega)⟩
    · rw [if_neg g]; exact ⟨⟨by show (-2 : Int) ≤ -2; omega, by show (-2 : Int) ≤ _; omega⟩, h, BdN_le hB (by omega)⟩
  | succ n ih =>
    intro a N ρ h hl hN hB hb ha
    unfold dnS
    by_cases g : drainedS C ρ = true
    · rw [if_pos g]; exact ⟨⟨by show -2 ≤ a; omega, by show a ≤ _; omega⟩, h, BdN_le hB (by omega)⟩
    · rw [if_neg g]
      obtain ⟨_, _, _, w1, w2, w3⟩ := dn_step K hk h hl hN hB (by omega)
      obtain ⟨⟨i0, i1⟩, i2, i3⟩ := ih (a + 1) (N + 435) _ w1 w2 (by omega) w3 (by omega) (by omega)
      exact ⟨⟨i0, by omega⟩, i2, BdN_le i3 (by omega)⟩
theorem takAll_hi (hj : 445 ≤ j) : ∀ (n : Nat) (q : Int) (ρ : RW), 0 ≤ q → q + n ≤ 5 → takAllS n q ρ j = ρ j := by
  have tk : ∀ (q : Int), q < 5 → ∀ (n : Nat) (ρ : RW), tkqS q n ρ j = ρ j := by
    intro q hq n
    induction n with
    | zero => intro ρ; rfl
    | succ n ih => intro ρ; unfold tkqS; rw [ih, tak_lo (by omega)]
  intro n
  induction n with
  | zero => intro q ρ _ _; rfl
  | succ n ih => intro q ρ q0 q1; unfold takAllS; rw [ih (q + 1) _ (by omega) (by omega), tk q (by omega)]
theorem c_dn {u : Int} (hQ : QA S 0) (hU : UA S u) (hu67 : 67 ≤ u) (hK : okK K) (hk : okC C) : ∀ (n : Nat) (a N : Int) (ρ : RW) (I : II) (a3 : AV), RelD C I 36 ρ → RuleR I u K → WF C ρ → lftOK 1 ρ → 100 ≤ N → BdN N ρ → N + 435 * n < 70000000 → 0 ≤ a → a ≤ 99 → n = (99 - a).toNat →
    ∃ J, ev (d + 8) 56 2 [(2, 36), (2, u), (0, a), a3] [] S I = some ((0, (dnS K C n a ρ).1), S, J) ∧ RelD C J 36 (dnS K C n a ρ).2 ∧ OUTR 36 u I J := by
  have hD := DA36 hQ
  intro n
  induction n with
  | zero =>
    intro a N ρ I a3 hR hu hw hl hN hB hb8 k0 k1 hn
    have : a = 99 := by omega
    subst this
    have dr := c_drained (d := d + 7) hD hR hw.1 hk (BdN_Bd hB (by omega))
    refine ⟨I, ?_, ?_, fun _ _ _ _ => rfl⟩
    · rw [E56_2 hD, if_neg (by decide), dr]
      simp only [Option.bind_some, psh_i]
      rw [E56_62, E56_72, E56_72]
      unfold dnS
      by_cases g : drainedS C ρ = true
      · rw [if_pos g, if_pos g, if_neg (by decide)]
      · rw [if_neg g, if_neg g, if_pos (by decide)]
    · unfold dnS; split <;> exact hR
  | succ n ih =>
    intro a N ρ I a3 hR hu hw hl hN hB hb8 k0 k1 hn
    have dr := c_drained (d := d + 7) hD hR hw.1 hk (BdN_Bd hB (by omega))
    have e : ev (d + 8) 56 2 [(2, 36), (2, u), (0, a), a3] [] S I = if drainedS C ρ = true then some ((0, a), S, I) else ev (d + 8) 56 19 [(2, 36), (2, u), (0, a), (0, 0)] [] S I := by
      rw [E56_2 hD, w_small (z := a) (by omega) (by omega), if_pos (by omega), dr]
      simp only [Option.bind_some, psh_i]
      rw [E56_12]
      by_cases g : drainedS C ρ = true
      · rw [if_pos g, if_neg (by decide), if_pos g]
      · rw [if_neg g, if_pos (by decide), if_neg g]
    have ed : dnS K C (n + 1) a ρ = if drainedS C ρ = true then (a, ρ) else dnS K C n (a + 1) (tickS K C (takAllS C.1.toNat 0 ρ)) := rfl
    by_cases g : drainedS C ρ = true
    · rw [if_pos g] at e ed
      rw [ed]
      exact ⟨I, e, hR, fun _ _ _ _ => rfl⟩
    · rw [if_neg g] at e ed
      obtain ⟨t1, t2, t3, w1, w2, w3⟩ := dn_step K hk hw hl hN hB (by omega)
      obtain ⟨J, j1, j2, j3⟩ := c_takAll (d := d + 5) (S := S) (u := u) (x2 := a) (by decide) hD hk C.1.toNat 0 N ρ I hR hw hl hB (by decide) hk.1 (by rw [Int.sub_zero])
      have rJ : RuleR J u K := RuleR_OUTR (by omega) hu (OUTR_of j3)
      obtain ⟨H, h1, h2, h3⟩ := c_goOn (d := d + 1) (S := S) (b := 36) (u := u) (by decide) (by omega) hD hU hK hk j2 rJ t1 t2 (show 100 ≤ N + 35 by omega) t3 (by omega)
      obtain ⟨Z, z1, z2, z3⟩ := ih (a + 1) (N + 435) _ H (0, C.1) h2 (RuleR_OUTR (by omega) rJ h3) w1 w2 (by omega) w3 (by omega) (by omega) (by omega) (by omega)
      rw [ed]
      refine ⟨Z, ?_, z2, OUTR_trans (OUTR_trans (OUTR_of j3) h3) z3⟩
      rw [e, j1, E56_47 hD, h1]
      simp only [Option.bind_some, psh_u]
      rw [E56_52, z1]
theorem m_dn (hM : MA S 427) (hK : okK K) (hk : okC C) : ∀ (n : Nat) (a N : Int) (ρ : RW) (I : II), cfM I = C → kfM I = K → I 439 = ρ → WF C ρ → lftOK 1 ρ → 100 ≤ N → BdN N ρ → N + 435 * n < 70000000 → 0 ≤ a → a ≤ 99 → n = (99 - a).toNat →
    ∃ J, ev (d + 8) 284 7 [(2, 427), (2, 439), (0, a)] [] S I = some ((0, (dnS K C n a ρ).1), S, J) ∧ BdN (N + 435 * n + 100) (J 439) ∧ (0 ≤ (dnS K C n a ρ).1 → J 439 = (dnS K C n a ρ).2 ∧ J 427 35 = I 427 35 + (usum C (dnS K C n a ρ).2 - usum C ρ)) ∧ (∀ k, k ≠ 24 → k ≠ 25 → k ≠ 35 → J 427 k = I 427 k) ∧ (∀ x, x ≠ 439 → x ≠ 427 → x ≠ 432 → x ≠ 433 → J x = I x) ∧ ∀ j, 445 ≤ j → J 439 j = (dnS K C n a ρ).2 j := by
  intro n
  induction n with
  | zero =>
    intro a N ρ I hC hKF hI hw hl hN hB hb8 k0 k1 hn
    have : a = 99 := by omega
    subst this
    have dr := m_drained (d := d + 6) (S := S) (I := I) hM (Or.inr rfl) (by rw [hC]; exact hk) (by rw [hI]; exact BdN_Bd hB (by omega))
    rw [hC, hI] at dr
    by_cases g : drainedS C ρ = true
    · have ed : dnS K C 0 99 ρ = (99, ρ) := by unfold dnS; rw [if_pos g]
      rw [ed]
      refine ⟨I, ?_, by rw [hI]; exact BdN_le hB (by omega), fun _ => ⟨hI, by show _ = _ + (usum C ρ - usum C ρ); omega⟩, fun _ _ _ _ => rfl, fun _ _ _ _ _ => rfl, fun _ _ => by rw [hI]⟩
      rw [E284_7 hM, if_neg (by decide), dr]
      simp only [Option.bind_some, psh_i]
      rw [if_pos g, E284_18 hM, if_neg (by decide)]
    · have ed : dnS K C 0 99 ρ = (-2, ρ) := by unfold dnS; rw [if_neg g]
      rw [ed]
      obtain ⟨t1, t2, t3, _⟩ := dn_step K hk hw hl hN hB (by omega)
      obtain ⟨J, j1, j2, j3, j4, j5⟩ := m_takAll (d := d + 4) (S := S) (r := 439) hM (Or.inr rfl) hk C.1.toNat 0 N ρ I hC hI hw hl hB (by have := hk.2.1; omega) (by decide) hk.1 (by rw [Int.sub_zero])
      refine ⟨J, ?_, by rw [j2]; exact BdN_le t3 (by omega), fun h => absurd (show (0 : Int) ≤ -2 from h) (by decide), fun k _ _ k2 => j4 k k2, fun x x0 x1 _ _ => j5 x x0 x1, fun j hj => by rw [j2, takAll_hi hj _ _ _ (by decide) (by have := hk.1; have := hk.2.1; omega)]⟩
      rw [E284_7 hM, if_neg (by decide), dr]
      simp only [Option.bind_some, psh_i]
      rw [if_neg g, E284_18 hM, if_pos (by decide), E286_0, j1]
      simp only [Option.bind_some, psh_u]
      rw [E284_28 hM, if_neg (by decide), E284_39, E284_7 hM, if_pos (by decide)]
  | succ n ih =>
    intro a N ρ I hC hKF hI hw hl hN hB hb8 k0 k1 hn
    have dr := m_drained (d := d + 6) (S := S) (I := I) hM (Or.inr rfl) (by rw [hC]; exact hk) (by rw [hI]; exact BdN_Bd hB (by omega))
    rw [hC, hI] at dr
    have ed : dnS K C (n + 1) a ρ = if drainedS C ρ = true then (a, ρ) else dnS K C n (a + 1) (tickS K C (takAllS C.1.toNat 0 ρ)) := rfl
    by_cases g : drainedS C ρ = true
    · rw [if_pos g] at ed
      rw [ed]
      refine ⟨I, ?_, by rw [hI]; exact BdN_le hB (by omega), fun _ => ⟨hI, by show _ = _ + (usum C ρ - usum C ρ); omega⟩, fun _ _ _ _ => rfl, fun _ _ _ _ _ => rfl, fun _ _ => by rw [hI]⟩
      rw [E284_7 hM, w_small (z := a) (by omega) (by omega), if_neg (by omega), dr]
      simp only [Option.bind_some, psh_i]
      rw [if_pos g, E284_18 hM, if_neg (by decide)]
    · rw [if_neg g] at ed
      obtain ⟨t1, t2, t3, w1, w2, w3⟩ := dn_step K hk hw hl hN hB (by omega)
      obtain ⟨J, j1, j2, j3, j4, j5⟩ := m_takAll (d := d + 4) (S := S) (r := 439) hM (Or.inr rfl) hk C.1.toNat 0 N ρ I hC hI hw hl hB (by have := hk.2.1; omega) (by decide) hk.1 (by rw [Int.sub_zero])
      have jC : cfM J = C := (cfM_mem (j4 14 (by decide)) (j5 434 (by decide) (by decide)) (j5 435 (by decide) (by decide)) (j5 436 (by decide) (by decide)) (j5 437 (by decide) (by decide))).trans hC
      have jK : kfM J = K := by rw [← hKF]; unfold kfM; rw [j5 430 (by decide) (by decide), j4 10 (by decide)]
      obtain ⟨ok, _⟩ := tick_WF K hk t1 t2 (show 100 ≤ N + 35 by omega) t3 (by omega)
      have us := tick_us (K := K) hk t1 t2 (show 100 ≤ N + 35 by omega) t3 (by omega)
      obtain ⟨H, h1, h2, h3, h4, h5, h6⟩ := m_tick (d := d) (S := S) (I := J) (r := 439) hM (Or.inr rfl) (by rw [jC]; exact hk) (by rw [jK]; exact hK) (by rw [jC, jK, j2]; exact ok)
      rw [jC, jK, j2] at h2
      have hC' : cfM H = C := (cfM_mem (h5 14 (by decide) (by decide)) (h6 434 (by decide) (by decide) (by decide) (by decide)) (h6 435 (by decide) (by decide) (by decide) (by decide)) (h6 436 (by decide) (by decide) (by decide) (by decide)) (h6 437 (by decide) (by decide) (by decide) (by decide))).trans jC
      have hK' : kfM H = K := by rw [← jK]; unfold kfM; rw [h6 430 (by decide) (by decide) (by decide) (by decide), h5 10 (by decide) (by decide)]
      obtain ⟨Z, z1, z2, z3, z4, z5, z6⟩ := ih (a + 1) (N + 435) _ H hC' hK' h2 w1 w2 (by omega) w3 (by omega) (by omega) (by omega) (by omega)
      rw [ed]
      refine ⟨Z, ?_, BdN_le z2 (by omega), fun h => ⟨(z3 h).1, ?_⟩, fun k k0 k1 k2 => by rw [z4 k k0 k1 k2, h5 k k0 k1, j4 k k2], fun x x0 x1 x2 x3 => by rw [z5 x x0 x1 x2 x3, h6 x x0 x1 x2 x3, j5 x x0 x1], z6⟩
      · rw [E284_7 hM, w_small (z := a) (by omega) (by omega), if_neg (by omega), dr]
        simp only [Option.bind_some, psh_i]
        rw [if_neg g, E284_18 hM, if_pos (by decide), E286_0, j1]
        simp only [Option.bind_some, psh_u]
        rw [E284_28 hM, w_small (z := a) (by omega) (by omega), if_pos (by omega), h1]
        simp only [Option.bind_some, psh_u]
        rw [E284_39, z1]
      · rw [(z3 h).2, us, h5 35 (by decide) (by decide), j3]
        omega
theorem c_us (hD : DA S b) (h : RelD C I b ρ) (hW : W0 C ρ) (hk : okC C) : ev (d + 1) 24 0 [(2, b), (0, 10), uU, uU] [] S I = some ((0, usum C ρ), S, I) := by
  rw [E24_0, c_sum (d := d) hD h hW hk (by decide) (by decide) C.1.toNat 0 0 (by decide) hk.1 (by rw [Int.sub_zero]), Int.zero_add]; rfl
theorem usum_tau (hk : okC C) (he : ∀ j, 0 ≤ j → j < 844 → σ j = ρ j) : usum C σ = usum C ρ :=
  sm_congr _ _ (fun q q0 q1 => he _ (by omega) (by have := hk.1; have := hk.2.1; omega))
theorem call_drains (hS : SH S) (h : ST N I) (hN0 : 100 ≤ N) (hN : N < 69000000) : ∃ r I1 I2, ev (d + 100) 170 0 [(2, 0), uU] [] S I = some ((0, r), S, I1) ∧ ev (d + 100) 283 0 [(2, 427), uU] [] S I1 = some ((0, r), S, I2) ∧ ST (N + 100000) I2 := by
  obtain ⟨hQ, hM⟩ := hS
  have hk := h.2.2.2.1.1
  have hn5 := hk.2.1
  have hD := h.2.2.2.1.2
  obtain ⟨hKF, hRu⟩ := h.2.2.2.2.1
  have tB := tau_B h
  obtain ⟨tW, tL⟩ := tau_GD h
  obtain ⟨J, j1, j2, j3⟩ := tri_beg (d := d + 98) (S := S) hQ h
  have rJ : RuleR J 412 (kfM I) := by unfold RuleR at *; rw [j3 412 (by omega), show (412 : Int) + 1 = 413 from rfl, j3 413 (by omega)]; exact hRu
  obtain ⟨H, k1, k2, k3⟩ := c_dn (d := d + 91) (S := S) (K := kfM I) (C := cfM I) hQ (UA412 hQ) (by decide) hKF hk 99 0 N (tau I) J uU j2 rJ tW tL hN0 tB (by omega) (by decide) (by decide) (by decide)
  obtain ⟨⟨db0, db1⟩, dW, dB⟩ := dn_b (K := kfM I) hk 99 0 N (tau I) tW tL hN0 tB (by omega) (by decide)
  have md := fun (Z : II) (z1 : cfM Z = cfM I) (z2 : kfM Z = kfM I) (z3 : Z 439 = tau I) => m_dn (d := d + 91) (S := S) (K := kfM I) (C := cfM I) hM hKF hk 99 0 N (tau I) Z z1 z2 z3 tW tL hN0 tB (by omega) (by decide) (by decide) (by decide)
  generalize hv : (dnS (kfM I) (cfM I) 99 0 (tau I)).1 = v at *
  generalize hσ : (dnS (kfM I) (cfM I) 99 0 (tau I)).2 = σ at *
  have otH : OT I H := fun x _ _ _ x2 x3 x4 _ => by rw [k3 x (by omega) x3 x4, j3 x (by omega)]
  have e1 := E170_0 (d := d + 99) (I := I) hQ
  rw [j1] at e1
  simp only [Option.bind_some, psh_u] at e1
  rw [E170_11 hQ, E56_0, k1] at e1
  simp only [Option.bind_some, psh_i] at e1
  rw [E170_22 hQ, w_small (z := v) (by omega) (by omega)] at e1
  have ref : ∀ A : II, OT I A → ∃ T, ev (d + 100) 283 0 [(2, 427), uU] [] S A = ev (d + 100) 283 17 [(2, 427), uU] [(0, v)] S T ∧ BdN (N + 435 * 99 + 100) (T 439) ∧ (0 ≤ v → T 439 = σ ∧ T 427 35 = usum (cfM I) σ - usum (cfM I) (tau I)) ∧ (∀ k, k ≠ 0 → k ≠ 24 → k ≠ 25 → k ≠ 35 → T 427 k = A 427 k) ∧ ∀ x, x ≠ 439 → x ≠ 427 → x ≠ 432 → x ≠ 433 → T x = A x := by
    intro A ot
    generalize hZ : setR (up2 A 427 0 0) 439 (tau I) = Z
    have z9 : Z 439 = tau I := by rw [← hZ]; exact setR_same
    have zo : ∀ y, y ≠ 439 → Z y = up2 A 427 0 0 y := fun y hy => by rw [← hZ]; exact setR_oth hy
    generalize hY : up2 Z 427 35 0 = Y
    have y9 : Y 439 = tau I := by rw [← hY, up2_oth (by decide), z9]
    have yo : ∀ y, y ≠ 439 → y ≠ 427 → Y y = A y := fun y h0 h1 => by rw [← hY, up2_oth h1, zo y h0, up2_oth h1]
    have yk : ∀ k, k ≠ 0 → k ≠ 35 → Y 427 k = A 427 k := fun k h0 h1 => by rw [← hY, up2_miss (by omega), zo 427 (by decide), up2_miss (by omega)]
    have y35 : Y 427 35 = 0 := by rw [← hY, up2_hit rfl rfl]
    have yC : cfM Y = cfM I := (cfM_mem (yk 14 (by decide) (by decide)) (yo 434 (by decide) (by decide)) (yo 435 (by decide) (by decide)) (yo 436 (by decide) (by decide)) (yo 437 (by decide) (by decide))).trans (OT_cfM ot)
    have yK : kfM Y = kfM I := by unfold kfM; rw [yo 430 (by decide) (by decide), yk 10 (by decide) (by decide), OT_up ot (by decide) (by decide), OT_up ot (by decide) (by decide)]
    obtain ⟨T, t1, t2, t3, t4, t5, _⟩ := md Y yC yK y9
    refine ⟨T, ?_, BdN_le t2 (by omega), fun hv => ⟨(t3 hv).1, by rw [(t3 hv).2, y35]; omega⟩, fun k g0 g1 g2 g3 => by rw [t4 k g1 g2 g3, yk k g0 g3], fun x x0 x1 x2 x3 => by rw [t5 x x0 x1 x2 x3, yo x x0 x1]⟩
    rw [E283_0 hM, m_cop hM ot (fun y hy => up2_oth hy), hZ]
    simp only [Option.bind_some, psh_u]
    rw [E283_9 hM, E284_0 hM, hY, t1]
    simp only [Option.bind_some, psh_i]
  by_cases g : v < 0
  · rw [if_pos g, E170_62] at e1
    obtain ⟨T, t1, t2, t3, t4, t5⟩ := ref H otH
    have hx : ∀ x, x ≠ 439 → x ≠ 427 → x ≠ 432 → x ≠ 433 → T x = H x := t5
    refine ⟨-2, H, T, ?_, ?_, tri_ST h otH (fun x a0 a1 a2 a3 _ _ _ _ => hx x a2 a0 (by omega) (by omega)) (fun k hk => t4 k (by omega) (by omega) (by omega) (by omega)) (cR_mem h.2.1 (by rw [hx 3 (by decide) (by decide) (by decide) (by decide), k3 3 (by decide) (by decide) (by decide), j3 3 (by decide)]) (by rw [hx 4 (by decide) (by decide) (by decide) (by decide), k3 4 (by decide) (by decide) (by decide), j3 4 (by decide)]) (by rw [hx 428 (by decide) (by decide) (by decide) (by decide), k3 428 (by decide) (by decide) (by decide), j3 428 (by decide)]) (by rw [t4 1 (by decide) (by decide) (by decide) (by decide), k3 427 (by decide) (by decide) (by decide), j3 427 (by decide)])) (BdN_le t2 (by omega))⟩
    · have ev2 : v = -2 := by
        have key : ∀ (n : Nat) (a : Int) (ρ : RW), 0 ≤ a → (dnS (kfM I) (cfM I) n a ρ).1 < 0 → (dnS (kfM I) (cfM I) n a ρ).1 = -2 := by
          intro n
          induction n with
          | zero =>
            intro a ρ ha
            unfold dnS
            split
            · intro h; have : a < 0 := h; omega
            · intro _; rfl
          | succ n ih =>
            intro a ρ ha
            unfold dnS
            split
            · intro h; have : a < 0 := h; omega
            · exact ih (a + 1) _ (by omega)
        rw [← hv]; exact key 99 0 (tau I) (by decide) (by rw [hv]; exact g)
      rw [e1, ev2]
    · rw [t1, E283_17 hM, w_small (z := v) (by omega) (by omega), if_pos g]
  · rw [if_neg g, c_us (DA36 hQ) k2 dW.1 hk] at e1
    simp only [Option.bind_some, psh_i] at e1
    have k5 : RelD (cfM I) H 5 (I 438) := RelD_mem hD.1 hD.2.1.1 (fun x x0 x1 => OT_lo otH x0 (by omega))
    rw [E170_40 hQ, c_us (DA5 hQ) k5 hD.2.1.1 hk] at e1
    simp only [Option.bind_some, psh_i] at e1
    rw [E170_49 hQ, E18_0, c_blk (DA36 hQ) k2 10 0 0 (by decide) (by decide) (by decide)] at e1
    simp only [Option.bind_some, psh_i] at e1
    have eu : usum (cfM I) (tau I) = usum (cfM I) (I 438) := usum_tau hk (fun j j0 j1 => tau_eq j0 j1)
    obtain ⟨A, a1, a2, a3⟩ := c_tell2 (d := d + 97) (S := S) (I := H) (x := w (usum (cfM I) σ - usum (cfM I) (I 438))) (y := w (0 + sm (fun j => σ (828 + j)) 10 0)) (RA3 hQ)
    rw [E170_58 (RA3 hQ), a1] at e1
    simp only [Option.bind_some, psh_u] at e1
    rw [E170_62] at e1
    have ot : OT I A := OT_trans otH (OT_TF a3)
    obtain ⟨T, t1, t2, t3, t4, t5⟩ := ref A ot
    obtain ⟨t3a, t3b⟩ := t3 (by omega)
    rw [eu] at t3b
    generalize hg : updR (updR (fun _ => 0) 0 (w (usum (cfM I) σ - usum (cfM I) (I 438)))) 1 (w (0 + sm (fun j => σ (828 + j)) 10 0)) = gg at a2
    have gg0 : gg 0 = w (usum (cfM I) σ - usum (cfM I) (I 438)) := by rw [← hg]; rfl
    have gg1 : gg 1 = w (0 + sm (fun j => σ (828 + j)) 10 0) := by rw [← hg]; rfl
    obtain ⟨B, p1, p2, p3⟩ := m_next (d := d + 99) (S := S) (g := gg) (n := 0) (x := w (usum (cfM I) σ - usum (cfM I) (I 438))) (I := up2 T 427 1 0) hM MD_0 (by decide) (by decide) (by rw [gg0])
    obtain ⟨B2, q1, q2, q3⟩ := m_next (d := d + 99) (S := S) (g := gg) (n := 0 + 1) (x := w (0 + sm (fun j => σ (828 + j)) 10 0)) (I := B) hM p2 (by decide) (by decide) gg1.symm
    have b39 : B 439 = σ := by rw [p3.2 439 (by decide) (by decide), up2_oth (by decide), t3a]
    have hx : ∀ x, x ≠ 439 → x ≠ 427 → x ≠ 428 → x ≠ 432 → x ≠ 433 → B2 x = A x := fun x x0 x1 x2 x3 x4 => by rw [q3.2 x x1 x2, p3.2 x x1 x2, up2_oth x1, t5 x x0 x1 x3 x4]
    refine ⟨v, A, B2, e1, ?_, tri_ST h ot (fun x a0 a1 a2 a3 _ _ _ _ => hx x a2 a0 a1 (by omega) (by omega)) (fun k hk => by rw [q3.1 k (by omega), p3.1 k (by omega), up2_miss (by omega), t4 k (by omega) (by omega) (by omega) (by omega)]) (cR_of (TD_congr a2 (hx 3 (by decide) (by decide) (by decide) (by decide) (by decide)) (hx 4 (by decide) (by decide) (by decide) (by decide) (by decide))) q2 (by decide) (by decide)) (by rw [q3.2 439 (by decide) (by decide), b39]; exact BdN_le dB (by omega))⟩
    rw [t1, E283_17 hM, w_small (z := v) (by omega) (by omega), if_neg g, t3b, p1]
    simp only [Option.bind_some, psh_u]
    rw [E283_39 hM, E214_0, m_blk (isRw_K hM (Or.inr rfl)) 10 0 0 (by decide) (by decide) (by decide), b39]
    simp only [Option.bind_some, psh_i]
    rw [E283_47 hM, q1]
    simp only [Option.bind_some, psh_u]
    rw [E283_51]
end r94
