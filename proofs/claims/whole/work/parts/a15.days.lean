/-! days: one act -/
def actS (Q : KF) (C : CF) (t : Int → Int) (p : Int) (ρ : RW) : Bool × RW :=
  if aSg (t p) = 0 then (false, rsS C ρ)
  else if aSg (t p) = 1 then (decide ((ringsS C ρ (t (p + 1) - 48)).1 < 0), (ringsS C ρ (t (p + 1) - 48)).2)
  else if aSg (t p) = 2 then (false, tksS Q C (t (p + 1) - 48).toNat ρ)
  else if aSg (t p) = 3 then (decide ((takesS C ρ (t (p + 1) - 48)).1 < 0), (takesS C ρ (t (p + 1) - 48)).2)
  else if aSg (t p) = 4 then (decide ((callsS C ρ (t (p + 1) - 48) (10 * (t (p + 2) - 48) + (t (p + 3) - 48))).1 < 0), (callsS C ρ (t (p + 1) - 48) (10 * (t (p + 2) - 48) + (t (p + 3) - 48))).2)
  else (decide ((putsS C ρ (t (p + 1) - 48) (t (p + 2) - 48) (t (p + 3) - 48) (10 * (t (p + 4) - 48) + (t (p + 5) - 48))).1 < 0), (putsS C ρ (t (p + 1) - 48) (t (p + 2) - 48) (t (p + 3) - 48) (10 * (t (p + 4) - 48) + (t (p + 5) - 48))).2)
section ra15
variable {d : Nat} {S : SS} {I J K G I2 : II} {t u : Int → Int} {L p q r b s c ok v n a k N lo hi m x : Int} {C : CF} {Q : KF} {ρ σ : RW}
theorem tick_B (Q : KF) (hk : okC C) (h : WF C ρ) (hl : lftOK 1 ρ) (hN : 100 ≤ N) (hB : BdN N ρ) (hb : N < 80000000) : BdN (N + 321) (tickS Q C ρ) := by
  have hn := hk.2.1
  have r0 := h.1.2.1.1
  have r4 := h.1.2.1.2.1
  obtain ⟨a1, a2, a3, a4⟩ := decs_all (ρ 493).toNat 0 ρ h.1 (by decide) (by omega)
  have a5 := BdN_decs (N := N) (ρ 493).toNat 0 ρ hB (fun i g0 g1 => by have := hl i g0 (by omega); omega)
  rw [show decsS (ρ 493).toNat 0 ρ = tk1S ρ from rfl] at a1 a2 a3 a4 a5
  have e1 : tk1S ρ 493 = ρ 493 := a3 493 (fun i _ _ => by omega)
  have w1 : WF C (tk1S ρ) := ⟨a1, fun z => by rw [a2]; exact h.2 z⟩
  have l0 : lftOK 0 (tk1S ρ) := fun i g0 g1 => by
    rw [e1] at g1
    have := hl i g0 g1
    rw [a4 i g0 (by omega)]; omega
  obtain ⟨b1, b2, b3, b4, b5⟩ := endl_all hn hN (by omega) (tk1S ρ 493).toNat 0 (tk1S ρ) w1 a5 l0 (fun j g0 g1 => by omega) (by decide) (by omega) (by rw [Int.sub_zero])
  rw [show endlS (tk1S ρ 493).toNat 0 (tk1S ρ) = tk2S ρ from rfl] at b2 b3 b4 b5
  have o8 := b2.1.2.2.1.2.1
  have o0 := b2.1.2.2.1.1
  obtain ⟨c1, c2, c3, c4, c5⟩ := post_all hk hN (tk2S ρ 814).toNat 0 N (tk2S ρ) b2 (Int.le_refl _) b3 (by omega) (by decide) (by omega) (by rw [Int.sub_zero])
  rw [show postlS C (tk2S ρ 814).toNat 0 (tk2S ρ) = tk3S C ρ from rfl] at c2 c3 c4 c5
  have c3 := BdN_le c3 (show N + ((tk2S ρ 814).toNat : Int) ≤ N + 80 by omega)
  have n0 := hk.1
  obtain ⟨d1, d2, d3, d4⟩ := shads_all hn (show (0 : Int) ≤ N + 80 by omega) C.1.toNat 0 (tk3S C ρ) c2 c3 (by decide) (by omega)
  rw [show shadsS C C.1.toNat 0 (tk3S C ρ) = tk4S C ρ from rfl] at d1 d2 d3 d4
  have l4 : lftOK 1 (tk4S C ρ) := lftOK_congr (fun j g0 g1 => (d4 j g0).trans (c5 j g0 g1)) b2.1.2.1.2.1 b5
  have mu := mu_b d1.1
  obtain ⟨f1, f2, f3, f4, f5⟩ := fetl_all Q hk 80 (N + 80) (tk4S C ρ) d1 l4 (by omega) d2 (by omega) (by omega)
  rw [show fetlS Q C 80 (tk4S C ρ) = tk5S Q C ρ from rfl] at f2 f3 f4 f5
  have bt := f3 827
  have t0 := f2.1.2.2.2.1
  obtain ⟨m1, m2, m3, m4, m5⟩ := t0
  exact BdN_upd (BdN_le f3 (by omega)) (by omega) (by omega)
theorem tks_B (hk : okC C) : ∀ (n : Nat) (N : Int) (ρ : RW), WF C ρ → lftOK 1 ρ → 100 ≤ N → BdN N ρ → N + 400 * n < 80000000 → BdN (N + 321 * n) (tksS Q C n ρ) := by
  intro n
  induction n with
  | zero => intro N ρ h hl hN hB hb; exact BdN_le hB (by omega)
  | succ n ih =>
    intro N ρ h hl hN hB hb
    obtain ⟨_, w1, w2, _⟩ := tick_WF Q hk h hl hN hB (by omega)
    exact BdN_le (ih (N + 321) (tickS Q C ρ) w1 w2 (by omega) (tick_B Q hk h hl hN hB (by omega)) (by omega)) (by omega)
theorem rs_b (hk : okC C) (h : WF C ρ) : 0 ≤ rsA C ρ + runm ρ + rsB C ρ ∧ rsA C ρ + runm ρ + rsB C ρ ≤ 1000 := by
  have hn0 := hk.1
  have hn5 := hk.2.1
  have o0 := h.1.2.2.1.1
  have o8 := h.1.2.2.1.2.1
  have ca : ∀ q, 0 ≤ q → q < 0 + (C.1.toNat : Int) → (0 ≤ ρ (89 * q) - ρ (89 * q + 3) ∧ ρ (89 * q) - ρ (89 * q + 3) ≤ 7) ∧ 0 ≤ ρ (89 * q + 5) - ρ (89 * q + 6) ∧ ρ (89 * q + 5) - ρ (89 * q + 6) ≤ 7 := fun q q0 q1 => by
    have c := (h.1.1 q q0 (by omega)).1
    unfold cntsOK at c
    omega
  have bA0 : 0 ≤ rsA C ρ := sm_nonneg _ _ (fun q q0 q1 => (ca q q0 q1).1.1)
  have bA1 : rsA C ρ ≤ C.1.toNat * 7 := by
    have := sm_le (f := fun q => ρ (89 * q) - ρ (89 * q + 3)) (g := fun _ => 7) C.1.toNat 0 (fun q q0 q1 => (ca q q0 q1).1.2)
    rw [sm_const] at this; exact this
  have bB0 : 0 ≤ sm (fun q => ρ (89 * q + 5) - ρ (89 * q + 6)) C.1.toNat 0 := sm_nonneg _ _ (fun q q0 q1 => (ca q q0 q1).2.1)
  have bB1 : sm (fun q => ρ (89 * q + 5) - ρ (89 * q + 6)) C.1.toNat 0 ≤ C.1.toNat * 7 := by
    have := sm_le (f := fun q => ρ (89 * q + 5) - ρ (89 * q + 6)) (g := fun _ => 7) C.1.toNat 0 (fun q q0 q1 => (ca q q0 q1).2.2)
    rw [sm_const] at this; exact this
  have bM0 : 0 ≤ runm ρ := by unfold runm; exact sm_nonneg _ _ (fun k _ _ => by split <;> omega)
  have bM1 : runm ρ ≤ 80 := by have := out_room h hn5; omega
  have eB : rsB C ρ = ρ 814 + sm (fun q => ρ (89 * q + 5) - ρ (89 * q + 6)) C.1.toNat 0 := rfl
  omega
theorem actF_dig (h : actF n t p < 0) (p0 : 0 ≤ p) : 0 ≤ aSg (t p) ∧ (1 ≤ aSg (t p) → p + 1 < n ∧ 48 ≤ t (p + 1) ∧ t (p + 1) ≤ 57) ∧ (aSg (t p) = 4 → (p + 2 < n ∧ 48 ≤ t (p + 2) ∧ t (p + 2) ≤ 57) ∧ p + 3 < n ∧ 48 ≤ t (p + 3) ∧ t (p + 3) ≤ 57) ∧ (aSg (t p) = 5 → (p + 2 < n ∧ 48 ≤ t (p + 2) ∧ t (p + 2) ≤ 52) ∧ (p + 3 < n ∧ 48 ≤ t (p + 3) ∧ t (p + 3) ≤ 57) ∧ (p + 4 < n ∧ 48 ≤ t (p + 4) ∧ t (p + 4) ≤ 57) ∧ p + 5 < n ∧ 48 ≤ t (p + 5) ∧ t (p + 5) ≤ 57) := by
  have one : t p ≠ 120 → 0 ≤ aSg (t p) → aSg (t p) < 4 → p + 1 < n ∧ 48 ≤ t (p + 1) ∧ t (p + 1) ≤ 57 := fun y1 y2 y3 => by
    rw [actF_1 y1 y2 y3] at h
    refine Classical.byContradiction fun g => ?_
    rw [if_pos g] at h; omega
  rcases aSg_c (t p) with ⟨e, e1, e2⟩ | ⟨e, e1, e2⟩ | ⟨e, e1, e2⟩ | ⟨e, e1, e2⟩ | ⟨e, e1, e2⟩ | ⟨e, e1, e2⟩ | ⟨_, _, _, _, _, _, e1⟩
  · exact ⟨by omega, fun x => by omega, fun x => by omega, fun x => by omega⟩
  · have := one (by omega) (by omega) (by omega); exact ⟨by omega, fun _ => this, fun x => by omega, fun x => by omega⟩
  · have := one (by omega) (by omega) (by omega); exact ⟨by omega, fun _ => this, fun x => by omega, fun x => by omega⟩
  · have := one (by omega) (by omega) (by omega); exact ⟨by omega, fun _ => this, fun x => by omega, fun x => by omega⟩
  · rw [actF_c e] at h
    have d1 : p + 1 < n ∧ 48 ≤ t (p + 1) ∧ t (p + 1) ≤ 57 := Classical.byContradiction fun g => by rw [if_pos g] at h; omega
    rw [if_neg (fun x => x d1)] at h
    have d2 : p + 2 < n ∧ 48 ≤ t (p + 2) ∧ t (p + 2) ≤ 57 := Classical.byContradiction fun g => by rw [if_pos g] at h; omega
    rw [if_neg (fun x => x d2)] at h
    have d3 : p + 3 < n ∧ 48 ≤ t (p + 3) ∧ t (p + 3) ≤ 57 := Classical.byContradiction fun g => by rw [if_pos g] at h; omega
    exact ⟨by omega, fun _ => d1, fun _ => ⟨d2, d3⟩, fun x => by omega⟩
  · rw [actF_p e] at h
    have d1 : p + 1 < n ∧ 48 ≤ t (p + 1) ∧ t (p + 1) ≤ 57 := Classical.byContradiction fun g => by rw [if_pos g] at h; omega
    rw [if_neg (fun x => x d1)] at h
    have d2 : p + 2 < n ∧ 48 ≤ t (p + 2) ∧ t (p + 2) ≤ 52 := Classical.byContradiction fun g => by rw [if_pos g] at h; omega
    rw [if_neg (fun x => x d2)] at h
    have d3 : p + 3 < n ∧ 48 ≤ t (p + 3) ∧ t (p + 3) ≤ 57 := Classical.byContradiction fun g => by rw [if_pos g] at h; omega
    rw [if_neg (fun x => x d3)] at h
    have d4 : p + 4 < n ∧ 48 ≤ t (p + 4) ∧ t (p + 4) ≤ 57 := Classical.byContradiction fun g => by rw [if_pos g] at h; omega
    rw [if_neg (fun x => x d4)] at h
    have d5 : p + 5 < n ∧ 48 ≤ t (p + 5) ∧ t (p + 5) ≤ 57 := Classical.byContradiction fun g => by rw [if_pos g] at h; omega
    exact ⟨by omega, fun _ => d1, fun x => by omega, fun _ => ⟨d2, d3, d4, d5⟩⟩
  · rw [actF_0 e1] at h; omega
theorem actS_WF (hk : okC C) (hw : WF C ρ) (hl : lftOK 1 ρ) (hN : 100 ≤ N) (hB : BdN N ρ) (hb : N < 70000000) (hF : actF n t p < 0) (p0 : 0 ≤ p) : WF C (actS Q C t p ρ).2 ∧ lftOK 1 (actS Q C t p ρ).2 ∧ BdN (N + 1445 * aLn (t p)) (actS Q C t p ρ).2 := by
  obtain ⟨z0, z1, z2, z3⟩ := actF_dig hF p0
  have ab := aLn_b (t p)
  unfold actS
  by_cases g0 : aSg (t p) = 0
  · rw [if_pos g0]
    obtain ⟨w1, w2, w3⟩ := rs_WF hw hk.1 hk.2.1 hB hN
    exact ⟨w1, w2, BdN_le w3 (by omega)⟩
  rw [if_neg g0]
  obtain ⟨d0, d1, d2⟩ := z1 (by omega)
  by_cases g1 : aSg (t p) = 1
  · rw [if_pos g1]
    obtain ⟨w1, w2, w3⟩ := ringsS_WF (q := t (p + 1) - 48) hw hk hB hN
    exact ⟨w1, w3 1 hl, BdN_le w2 (by omega)⟩
  rw [if_neg g1]
  by_cases g2 : aSg (t p) = 2
  · have el : aLn (t p) = 2 := by
      rcases aSg_c (t p) with ⟨_, e1, _⟩ | ⟨_, e1, _⟩ | ⟨_, e1, e2⟩ | ⟨_, e1, _⟩ | ⟨_, e1, _⟩ | ⟨_, e1, _⟩ | ⟨_, _, _, _, _, _, e1⟩ <;> omega
    rw [if_pos g2]
    obtain ⟨w1, w2, _⟩ := tks_WF (K := Q) hk (t (p + 1) - 48).toNat N ρ hw hl hN hB (by omega)
    exact ⟨w1, w2, BdN_le (tks_B (Q := Q) hk (t (p + 1) - 48).toNat N ρ hw hl hN hB (by omega)) (by omega)⟩
  rw [if_neg g2]
  by_cases g3 : aSg (t p) = 3
  · rw [if_pos g3]
    obtain ⟨w1, w2, w3⟩ := takesS_WF (q := t (p + 1) - 48) hw hk hB
    exact ⟨w1, w3 1 hl, BdN_le w2 (by omega)⟩
  rw [if_neg g3]
  by_cases g4 : aSg (t p) = 4
  · rw [if_pos g4]
    obtain ⟨w1, w2, w3, _⟩ := callsS_WF (q := t (p + 1) - 48) (id := 10 * (t (p + 2) - 48) + (t (p + 3) - 48)) hw hk hB hN
    exact ⟨w1, w3 1 hl, BdN_le w2 (by omega)⟩
  · rw [if_neg g4]
    obtain ⟨w1, w2, w3⟩ := putsS_WF (q := t (p + 1) - 48) (op := t (p + 2) - 48) (bl := t (p + 3) - 48) (v := 10 * (t (p + 4) - 48) + (t (p + 5) - 48)) hw hk hB hN
    exact ⟨w1, w3 1 hl, BdN_le w2 (by omega)⟩
theorem c_dig (hT : TA S 1) (hp : isI p) (h0 : 0 ≤ I 1 1) (h1 : I 1 1 ≤ 80) : ev (d + 1) 136 0 [(2, 1), (0, p)] [] S I = some ((0, att (I 1 1) (I 2) p - 48), S, I) := by
  rw [E136_0 hT, c_att hT hp h0 h1]
  simp only [Option.bind_some, psh_i]
  rw [E136_5]
theorem c_dg2 (hT : TA S 1) (p0 : 0 ≤ p) (p1 : p < 1000) (h0 : 0 ≤ I 1 1) (h1 : I 1 1 ≤ 80) : ev (d + 2) 138 0 [(2, 1), (0, p)] [] S I = some ((0, 10 * (att (I 1 1) (I 2) p - 48) + (att (I 1 1) (I 2) (p + 1) - 48)), S, I) := by
  rw [E138_0 hT, c_dig hT ⟨by omega, by omega⟩ h0 h1]
  simp only [Option.bind_some, psh_i]
  rw [E138_7 hT, c_dig hT ⟨by omega, by omega⟩ h0 h1]
  simp only [Option.bind_some, psh_i]
  rw [E138_15]
theorem att_in (h0 : 0 ≤ p) (h1 : p < n) : att n t p = t p := by unfold att; rw [if_pos ⟨h0, h1⟩]
/-- an act by the class -/
theorem c_actD (hQ : QA S 0) (h0 : 0 ≤ I 1 1) (h1 : I 1 1 ≤ 80) (ht : ∀ j, 0 ≤ j → j < I 1 1 → 0 ≤ I 2 j ∧ I 2 j < 256) (p0 : 0 ≤ p) (p1 : p < I 1 1) (hF : actF (I 1 1) (I 2) p < 0) (hk : okC C) (hQK : okK Q) (hRu : RuleR I 412 Q) (hR : RelD C I 5 ρ) (hw : WF C ρ) (hl : lftOK 1 ρ) (hN : 100 ≤ N) (hB : BdN N ρ) (hb : N < 70000000) :
    ∃ v J, ev (d + 20) 158 0 [(2, 0), (0, p), uU] [] S I = some ((0, v), S, J) ∧ isI v ∧ (v < 0 ↔ (actS Q C (I 2) p ρ).1 = true) ∧ RelD C J 5 (actS Q C (I 2) p ρ).2 ∧ ∀ x, ¬ (5 ≤ x ∧ x < 36) → x ≠ 3 → x ≠ 4 → x ≠ 416 → x ≠ 417 → J x = I x := by
  obtain ⟨z0, z1, z2, z3⟩ := actF_dig hF p0
  obtain ⟨t0, t1⟩ := ht p p0 p1
  have hT := TA1 hQ
  have sgc := aSg_c (I 2 p)
  rw [E158_0 hQ, c_dig (d := d + 18) hT ⟨by omega, by omega⟩ h0 h1]
  simp only [Option.bind_some, psh_i]
  rw [E158_10 hQ, c_att hT ⟨by omega, by omega⟩ h0 h1, att_in p0 p1]
  simp only [Option.bind_some, psh_i]
  rw [E158_19 hQ, w_small (z := I 2 p) (by omega) (by omega)]
  unfold actS
  by_cases g0 : aSg (I 2 p) = 0
  · have e : I 2 p = 120 := by omega
    obtain ⟨J, j1, j2, j3, j4⟩ := c_reset (d := d + 14) (S := S) (I := I) (b := 5) (Or.inl rfl) (DA5 hQ) (RA3 hQ) hR hw hk
    have rb := rs_b hk hw
    rw [if_pos g0, e, if_neg (by decide), if_neg (by decide), if_neg (by decide), if_neg (by decide), if_neg (by decide), if_pos rfl, j1]
    simp only [Option.bind_some, psh_i]
    rw [E158_184]
    exact ⟨_, J, rfl, ⟨by omega, by omega⟩, by constructor <;> intro x <;> first | omega | exact absurd x (by decide), j2, fun x x0 x1 x2 _ _ => j4 x (by omega) x1 x2⟩
  rw [if_neg g0]
  obtain ⟨d0, d1, d2⟩ := z1 (by omega)
  rw [att_in (t := I 2) (by omega : 0 ≤ p + 1) d0]
  by_cases g1 : aSg (I 2 p) = 1
  · have e : I 2 p = 114 := by omega
    obtain ⟨J, j1, j2, j3⟩ := c_bell (d := d + 17) (S := S) (I := I) (b := 5) (q := I 2 (p + 1) - 48) (by decide) (DA5 hQ) hR hw hk hB (by omega) ⟨by omega, by omega⟩
    have rb := ringsS_b (C := C) (ρ := ρ) (q := I 2 (p + 1) - 48)
    rw [if_pos g1, e, if_neg (by decide), if_neg (by decide), if_neg (by decide), if_pos rfl, j1]
    simp only [Option.bind_some, psh_i]
    rw [E158_123]
    exact ⟨_, J, rfl, ⟨by omega, by omega⟩, by rw [decide_eq_true_eq], j2, fun x x0 _ _ _ _ => j3 x (by omega)⟩
  rw [if_neg g1]
  by_cases g2 : aSg (I 2 p) = 2
  · have e : I 2 p = 116 := by omega
    generalize hv : I 2 (p + 1) - 48 = v
    have v0 : 0 ≤ v ∧ v ≤ 9 := by omega
    obtain ⟨H, k1, k2, k3⟩ := c_tks (d := d + 12) (S := S) (b := 5) (u := 412) (v := v) (x4 := fnum C ρ) (x5 := psum C ρ) (by decide) (by decide) (DA5 hQ) (UA412 hQ) hQK hk (by omega) (v - 0).toNat N 0 0 ρ I hR hRu hw hl hN hB (by omega) (by decide) v0.1 rfl
    rw [Int.sub_zero] at k1 k2
    obtain ⟨w1, w2, w3, w4⟩ := tks_WF (K := Q) hk v.toNat N ρ hw hl hN hB (by omega)
    have pb0 := psum_b (C := C) hk hB (by omega)
    have pb1 := psum_b (C := C) hk w3 (by omega)
    have ib := idl_b (K := Q) (C := C) v.toNat ρ
    obtain ⟨A, a1, a2, a3⟩ := c_tell2 (d := d + 16) (S := S) (I := H) (x := w (fnum C (tksS Q C v.toNat ρ) - fnum C ρ)) (y := w (0 + idlS Q C v.toNat ρ)) (RA3 hQ)
    have kA : RelD C A 5 (tksS Q C v.toNat ρ) := RelD_mem k2 w1.1 (fun x x0 x1 => TF_hi a3 (by omega))
    rw [if_pos g2, e, if_neg (by decide), if_neg (by decide), if_neg (by decide), if_neg (by decide), if_pos rfl, E23_0 (DA5 hQ), w_small (z := v) (by omega) (by omega), if_neg (by omega), if_neg (by omega), c_fn (DA5 hQ) hR hw.1 hk]
    simp only [Option.bind_some, psh_i]
    rw [E23_18 (DA5 hQ), c_ps (DA5 hQ) hR hw.1 hk]
    simp only [Option.bind_some, psh_i]
    rw [E23_26, k1, E23_34 (DA5 hQ), if_neg (by omega), c_fn (DA5 hQ) k2 w1.1 hk]
    simp only [Option.bind_some, psh_i]
    rw [E23_75 (RA3 hQ), a1]
    simp only [Option.bind_some, psh_u]
    rw [E23_85 (DA5 hQ), c_ps (DA5 hQ) kA w1.1 hk]
    simp only [Option.bind_some, psh_i]
    rw [E23_91]
    simp only [Option.bind_some, psh_i]
    rw [E158_140]
    exact ⟨_, A, rfl, ⟨by omega, by omega⟩, by constructor <;> intro x <;> first | omega | exact absurd x (by decide), kA, fun x x0 x1 x2 x3 x4 => by rw [a3 x x1 x2, k3 x (by omega) (by omega) (by omega)]⟩
  rw [if_neg g2]
  by_cases g3 : aSg (I 2 p) = 3
  · have e : I 2 p = 107 := by omega
    generalize hv : I 2 (p + 1) - 48 = v
    obtain ⟨J, j1, j2, j3, j4, j5⟩ := c_take (d := d + 14) (S := S) (I := I) (b := 5) (q := v) (by decide) (DA5 hQ) (RA3 hQ) hR hw hk hB (by omega) ⟨by omega, by omega⟩
    have av : (takesS C ρ v).1 < 0 ∧ -2 ≤ (takesS C ρ v).1 ∨ 0 ≤ (takesS C ρ v).1 ∧ 0 ≤ ρ (takesS C ρ v).1 ∧ 0 ≤ ρ ((takesS C ρ v).1 + 1) := by
      rw [takesS_eq]
      split
      · rename_i g
        have hn5 := hk.2.1
        split
        · exact Or.inl (by simp)
        · rename_i g1
          have qo := hw.1.1 v g.1 (by omega)
          have c1 := qo.1
          unfold cntsOK at c1
          have pb := pAt_b (q := v) (k := ρ (89 * v + 6)) g.1 (by omega)
          have cp := qo.2.2 (ρ (89 * v + 6)) (Int.le_refl _) (by omega)
          exact Or.inr ⟨by show 0 ≤ pAt v _; omega, cp.1, cp.2.2.1⟩
      · exact Or.inl (by simp)
    have b0 := hB (takesS C ρ v).1
    have b1 := hB ((takesS C ρ v).1 + 1)
    rw [if_pos g3, e, if_neg (by decide), if_pos rfl, j1]
    simp only [Option.bind_some, psh_i]
    rw [E158_153]
    refine ⟨_, J, rfl, ?_, ?_, j2, fun x x0 x1 x2 _ _ => j5 x (by omega) x1 x2⟩
    · split
      · exact ⟨by omega, by omega⟩
      · exact ⟨by omega, by omega⟩
    · rw [decide_eq_true_eq]
      split
      · exact Iff.rfl
      · constructor
        · intro x; omega
        · intro x; omega
  rw [if_neg g3]
  by_cases g4 : aSg (I 2 p) = 4
  · have e : I 2 p = 99 := by omega
    obtain ⟨x2, x3⟩ := z2 g4
    obtain ⟨J, j1, j2, j3⟩ := c_callBack (d := d + 15) (S := S) (I := I) (b := 5) (q := I 2 (p + 1) - 48) (id := 10 * (I 2 (p + 2) - 48) + (I 2 (p + 3) - 48)) (by decide) (DA5 hQ) hR hw hk hB (by omega) ⟨by omega, by omega⟩ ⟨by omega, by omega⟩
    have ab := (callsAns_spec (ρ := ρ) (q := I 2 (p + 1) - 48) (id := 10 * (I 2 (p + 2) - 48) + (I 2 (p + 3) - 48)) hk).2.2
    rw [← callsS_1] at ab
    rw [if_pos g4, e, if_pos rfl, c_dg2 (d := d + 17) hT (by omega) (by omega) h0 h1, show p + 2 + 1 = p + 3 by omega, att_in (t := I 2) (by omega : 0 ≤ p + 2) x2.1, att_in (t := I 2) (by omega : 0 ≤ p + 3) x3.1]
    simp only [Option.bind_some, psh_i]
    rw [E158_169 (DA5 hQ), j1]
    simp only [Option.bind_some, psh_i]
    rw [E158_172]
    exact ⟨_, J, rfl, ⟨by omega, by omega⟩, by rw [decide_eq_true_eq], j2, fun x x0 _ _ _ _ => j3 x (by omega)⟩
  · have e : I 2 p = 112 ∧ aSg (I 2 p) = 5 := by omega
    obtain ⟨x2, x3, x4, x5⟩ := z3 e.2
    obtain ⟨J, j1, j2, j3⟩ := c_write (d := d + 15) (S := S) (I := I) (b := 5) (q := I 2 (p + 1) - 48) (op := I 2 (p + 2) - 48) (bl := I 2 (p + 3) - 48) (v := 10 * (I 2 (p + 4) - 48) + (I 2 (p + 5) - 48)) (by decide) (DA5 hQ) hR hw hk hB (by omega) ⟨by omega, by omega⟩ ⟨by omega, by omega⟩ ⟨by omega, by omega⟩ ⟨by omega, by omega⟩
    have rb := putsS_b (C := C) (ρ := ρ) (q := I 2 (p + 1) - 48) (op := I 2 (p + 2) - 48) (bl := I 2 (p + 3) - 48) (v := 10 * (I 2 (p + 4) - 48) + (I 2 (p + 5) - 48))
    rw [if_neg g4, e.1, if_neg (by decide), if_neg (by decide), if_pos rfl, c_dig (d := d + 18) hT ⟨by omega, by omega⟩ h0 h1, att_in (t := I 2) (by omega : 0 ≤ p + 2) x2.1]
    simp only [Option.bind_some, psh_i]
    rw [E158_91 hQ, c_dig (d := d + 18) hT ⟨by omega, by omega⟩ h0 h1, att_in (t := I 2) (by omega : 0 ≤ p + 3) x3.1]
    simp only [Option.bind_some, psh_i]
    rw [E158_101 hQ, c_dg2 (d := d + 17) hT (by omega) (by omega) h0 h1, show p + 4 + 1 = p + 5 by omega, att_in (t := I 2) (by omega : 0 ≤ p + 4) x4.1, att_in (t := I 2) (by omega : 0 ≤ p + 5) x5.1]
    simp only [Option.bind_some, psh_i]
    rw [E158_111 (DA5 hQ), j1]
    simp only [Option.bind_some, psh_i]
    rw [E158_114]
    exact ⟨_, J, rfl, ⟨by omega, by omega⟩, by rw [decide_eq_true_eq], j2, fun x x0 _ _ _ _ => j3 x (by omega)⟩
/-- an act by the reference -/
theorem m_actD (hM : MA S 427) (k0 : 0 ≤ k) (k1 : k < 80) (p0 : 0 ≤ p) (hF : actF n t p < 0) (hrec : REC J t k p) (hk : okC (cfM J)) (hQK : okK (kfM J)) (hI : J 438 = ρ) (hw : WF (cfM J) ρ) (hl : lftOK 1 ρ) (hN : 100 ≤ N) (hB : BdN N ρ) (hb : N < 70000000) :
    ∃ v K, ev (d + 20) 270 0 [(2, 427), (0, k), uU] [] S J = some ((0, v), S, K) ∧ isI v ∧ (v < 0 ↔ (actS (kfM J) (cfM J) t p ρ).1 = true) ∧ K 438 = (actS (kfM J) (cfM J) t p ρ).2 ∧ (∀ i, i ≠ 24 → i ≠ 25 → i ≠ 26 → K 427 i = J 427 i) ∧ ∀ x, x ≠ 438 → x ≠ 427 → x ≠ 432 → x ≠ 433 → K x = J x := by
  obtain ⟨z0, z1, z2, z3⟩ := actF_dig hF p0
  obtain ⟨r1, r2, r3, r4⟩ := hrec
  have wk : w k = k := w_small (by omega) (by omega)
  have hC : Cn (J 438) := by rw [hI]; exact WF_Cn hw.1 hB (by omega)
  have hK := isRw_K hM (Or.inl rfl : isRw 438)
  have sgc := aSg_c (t p)
  have so : ∀ (f : RW), (∀ i, i ≠ 24 → i ≠ 25 → i ≠ 26 → setR J 438 f 427 i = J 427 i) ∧ ∀ x, x ≠ 438 → x ≠ 427 → x ≠ 432 → x ≠ 433 → setR J 438 f x = J x := fun f => ⟨fun i _ _ _ => by rw [setR_oth (by decide)], fun x x0 _ _ _ => setR_oth x0⟩
  rw [E270_0 hM, wk, gdR_pos (by omega), gdR_pos (by omega), r1, w_small (z := aSg (t p)) (by omega) (by omega)]
  unfold actS
  by_cases g0 : aSg (t p) = 0
  · have rb := rs_b hk hw
    obtain ⟨z, hz⟩ := m_resets (d := d + 17) (S := S) (I := J) (r := 438) (f := 0) hM (Or.inl rfl) hk hC.1 (by rw [hI]; exact hw.1.2.1.1) (by rw [hI]; exact hw.1.2.1.2.1)
    rw [hI] at hz
    rw [if_pos g0, if_pos g0, hz, E262_144 hK hM, if_neg (by decide), if_pos (by decide), E262_219]
    simp only [Option.bind_some, psh_i]
    rw [E270_57]
    have er : sm (fun q => ρ (89 * q) - ρ (89 * q + 3)) (cfM J).1.toNat 0 + runm ρ + (ρ 814 + sm (fun q => ρ (89 * q + 5) - ρ (89 * q + 6)) (cfM J).1.toNat 0) = rsA (cfM J) ρ + runm ρ + rsB (cfM J) ρ := rfl
    rw [er]
    exact ⟨_, _, rfl, ⟨by omega, by omega⟩, by constructor <;> intro x <;> first | omega | exact absurd x (by decide), setR_same, so _⟩
  rw [if_neg g0, if_neg g0]
  obtain ⟨d0, d1, d2⟩ := z1 (by omega)
  rw [r2 (by omega)]
  by_cases g1 : aSg (t p) = 1
  · have rb := ringsS_b (C := cfM J) (ρ := ρ) (q := t (p + 1) - 48)
    have mr := m_rings (d := d + 17) (S := S) (I := J) (r := 438) (q := t (p + 1) - 48) hM (Or.inl rfl) hk hC ⟨by omega, by omega⟩
    rw [hI] at mr
    rw [if_pos g1, if_pos g1, mr]
    simp only [Option.bind_some, psh_i]
    rw [E270_67]
    exact ⟨_, _, rfl, ⟨by omega, by omega⟩, by rw [decide_eq_true_eq], setR_same, so _⟩
  rw [if_neg g1, if_neg g1]
  by_cases g2 : aSg (t p) = 2
  · generalize hv : t (p + 1) - 48 = v
    have v0 : 0 ≤ v ∧ v ≤ 9 := by omega
    generalize hB3 : up2 (up2 (up2 J 427 24 0) 427 25 0) 427 26 0 = B3
    have c0 : ∀ x, x ≠ 427 → B3 x = J x := fun x hx => by rw [← hB3, up2_oth hx, up2_oth hx, up2_oth hx]
    have c1 : ∀ k, k ≠ 24 → k ≠ 25 → k ≠ 26 → B3 427 k = J 427 k := fun k k0 k1 k2 => by rw [← hB3, up2_miss (by omega), up2_miss (by omega), up2_miss (by omega)]
    obtain ⟨T, t1, t2, t3, t4, t5, t6, t7⟩ := m_tks (d := d + 11) (S := S) (r := 438) (v := v) (C := cfM J) (K := kfM J) hM (Or.inl rfl) hk hQK (by omega) (v - 0).toNat N 0 ρ B3 (cfM_mem (c1 14 (by decide) (by decide) (by decide)) (c0 434 (by decide)) (c0 435 (by decide)) (c0 436 (by decide)) (c0 437 (by decide))) (by unfold kfM; rw [c0 430 (by decide), c1 10 (by decide) (by decide) (by decide)]) (by rw [c0 438 (by decide)]; exact hI) hw hl hN hB (by omega) (by decide) v0.1 rfl
    rw [Int.sub_zero] at t2
    rw [if_pos g2, if_pos g2, E236_0 hM, hB3, t1]
    simp only [Option.bind_some, psh_u]
    rw [E270_77]
    exact ⟨0, T, rfl, ⟨by decide, by decide⟩, by constructor <;> intro x <;> exact absurd x (by decide), t2, fun i i0 i1 i2 => by rw [t6 i i0 i1 i2, c1 i i0 i1 i2], fun x x0 x1 x2 x3 => by rw [t7 x x0 x1 x2 x3, c0 x x1]⟩
  rw [if_neg g2, if_neg g2]
  by_cases g3 : aSg (t p) = 3
  · have mt := m_takes (d := d + 17) (S := S) (I := J) (r := 438) (q := t (p + 1) - 48) hM (Or.inl rfl) hk hC ⟨by omega, by omega⟩
    rw [hI] at mt
    have av : -2 ≤ (takesS (cfM J) ρ (t (p + 1) - 48)).1 ∧ (takesS (cfM J) ρ (t (p + 1) - 48)).1 ≤ 1000 := by
      rw [takesS_eq]
      split
      · rename_i g
        have hn5 := hk.2.1
        split
        · exact ⟨by show (-2 : Int) ≤ -2; decide, by show (-2 : Int) ≤ 1000; decide⟩
        · have pb := pAt_b (q := t (p + 1) - 48) (k := ρ (89 * (t (p + 1) - 48) + 6)) g.1 (by omega)
          exact ⟨by show -2 ≤ pAt _ _; omega, by show pAt _ _ ≤ 1000; omega⟩
      · exact ⟨by show (-2 : Int) ≤ -1; decide, by show (-1 : Int) ≤ 1000; decide⟩
    rw [if_pos g3, if_pos g3, mt]
    simp only [Option.bind_some, psh_i]
    rw [E270_88]
    exact ⟨_, _, rfl, ⟨by omega, by omega⟩, by rw [decide_eq_true_eq], setR_same, so _⟩
  rw [if_neg g3, if_neg g3]
  by_cases g4 : aSg (t p) = 4
  · obtain ⟨x2, x3⟩ := z2 g4
    obtain ⟨_, _, _, w4⟩ := callsS_WF (q := t (p + 1) - 48) (id := 10 * (t (p + 2) - 48) + (t (p + 3) - 48)) hw hk hB hN
    have mc := m_calls (d := d + 15) (S := S) (I := J) (r := 438) (q := t (p + 1) - 48) (id := 10 * (t (p + 2) - 48) + (t (p + 3) - 48)) hM (Or.inl rfl) hk hC ⟨by omega, by omega⟩ ⟨by omega, by omega⟩ (by rw [hI]; exact w4)
    rw [hI] at mc
    have ab := (callsAns_spec (ρ := ρ) (q := t (p + 1) - 48) (id := 10 * (t (p + 2) - 48) + (t (p + 3) - 48)) hk).2.2
    rw [← callsS_1] at ab
    rw [if_pos g4, if_pos g4, gdR_pos (by omega), r3 g4, mc]
    simp only [Option.bind_some, psh_i]
    rw [E270_104]
    exact ⟨_, _, rfl, ⟨by omega, by omega⟩, by rw [decide_eq_true_eq], setR_same, so _⟩
  · have e : aSg (t p) = 5 := by omega
    obtain ⟨x2, x3, x4, x5⟩ := z3 e
    obtain ⟨y3, y4, y5⟩ := r4 e
    have mp := m_puts (d := d + 14) (S := S) (I := J) (r := 438) (q := t (p + 1) - 48) (op := t (p + 2) - 48) (b := t (p + 3) - 48) (v := 10 * (t (p + 4) - 48) + (t (p + 5) - 48)) hM (Or.inl rfl) hk hC ⟨by omega, by omega⟩ ⟨by omega, by omega⟩ ⟨by omega, by omega⟩ ⟨by omega, by omega⟩
    rw [hI] at mp
    have rb := putsS_b (C := cfM J) (ρ := ρ) (q := t (p + 1) - 48) (op := t (p + 2) - 48) (bl := t (p + 3) - 48) (v := 10 * (t (p + 4) - 48) + (t (p + 5) - 48))
    rw [if_neg g4, if_neg g4, gdR_pos (by omega), gdR_pos (by omega), gdR_pos (by omega), y3, y4, y5, mp]
    simp only [Option.bind_some, psh_i]
    rw [E270_132]
    exact ⟨_, _, rfl, ⟨by omega, by omega⟩, by rw [decide_eq_true_eq], setR_same, so _⟩
end ra15
