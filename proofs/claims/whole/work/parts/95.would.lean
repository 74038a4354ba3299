/-! would -/
def blS (C : CF) : Nat → Int → RW → RW
  | 0, _, ρ => ρ
  | n + 1, q, ρ => blS C n (q + 1) (ringsS C ρ q).2
section r95
variable {d : Nat} {S : SS} {I J G I2 : II} {C : CF} {K : KF} {ρ σ : RW} {a b u q k v j N r id : Int}
theorem bl_WF (hk : okC C) : ∀ (n : Nat) (q N : Int) (ρ : RW), WF C ρ → lftOK 1 ρ → BdN N ρ → 100 ≤ N → WF C (blS C n q ρ) ∧ lftOK 1 (blS C n q ρ) ∧ BdN (N + n) (blS C n q ρ) := by
  intro n
  induction n with
  | zero => intro q N ρ h hl hB hN; exact ⟨h, hl, BdN_le hB (by omega)⟩
  | succ n ih =>
    intro q N ρ h hl hB hN
    obtain ⟨w1, w2, w3⟩ := ringsS_WF (q := q) h hk hB hN
    obtain ⟨i1, i2, i3⟩ := ih (q + 1) (N + 1) _ w1 (w3 1 hl) w2 (by omega)
    exact ⟨i1, i2, BdN_le i3 (by omega)⟩
theorem c_blS (hb : 0 ≤ b) (hD : DA S b) (hk : okC C) : ∀ (n : Nat) (q N : Int) (ρ : RW) (I : II), RelD C I b ρ → WF C ρ → BdN N ρ → 100 ≤ N → N + n < 1073741824 → 0 ≤ q → q ≤ C.1 → n = (C.1 - q).toNat →
    ∃ J, ev (d + 3) 58 2 [(2, b), (0, q)] [] S I = some (uU, S, J) ∧ RelD C J b (blS C n q ρ) ∧ OUTB b I J := by
  have hn0 := hk.1
  have hn5 := hk.2.1
  intro n
  induction n with
  | zero =>
    intro q N ρ I hR hw hB hN hb8 q0 q1 hn
    refine ⟨I, ?_, hR, OUTB_refl b I⟩
    rw [E58_2 hD, hR.1.1, show q = C.1 by omega, if_neg (Int.lt_irrefl _)]
  | succ n ih =>
    intro q N ρ I hR hw hB hN hb8 q0 q1 hn
    obtain ⟨J, j1, j2, j3⟩ := c_bell (d := d) (S := S) hb hD hR hw hk hB (by omega) (q := q) ⟨by omega, by omega⟩
    obtain ⟨w1, w2, w3⟩ := ringsS_WF (q := q) hw hk hB hN
    obtain ⟨Z, z1, z2, z3⟩ := ih (q + 1) (N + 1) _ J j2 w1 w2 (by omega) (by omega) (by omega) (by omega) (by omega)
    refine ⟨Z, ?_, z2, OUTB_trans j3 z3⟩
    rw [E58_2 hD, hR.1.1, w_small (z := q) (by omega) (by omega), w_small (z := C.1) (by omega) (by omega), if_pos (by omega), j1]
    simp only [Option.bind_some, psh_i]
    rw [E58_15, z1]
theorem m_blS {v : Int} (hM : MA S 427) (hk : okC C) : ∀ (n : Nat) (q N : Int) (ρ : RW) (I : II), cfM I = C → I 439 = ρ → WF C ρ → BdN N ρ → 100 ≤ N → N + n < 1073741824 → 0 ≤ q → q ≤ C.1 → n = (C.1 - q).toNat →
    ev (d + 3) 287 25 [(2, 427), (0, v), (0, q)] [] S I = ev (d + 3) 287 25 [(2, 427), (0, v), (0, C.1)] [] S (setR I 439 (blS C n q ρ)) := by
  have hn0 := hk.1
  have hn5 := hk.2.1
  intro n
  induction n with
  | zero =>
    intro q N ρ I hC hI hw hB hN hb8 q0 q1 hn
    have : q = C.1 := by omega
    subst this
    show _ = ev (d + 3) 287 25 [(2, 427), (0, v), (0, C.1)] [] S (setR I 439 ρ)
    rw [← hI, setR_id]
  | succ n ih =>
    intro q N ρ I hC hI hw hB hN hb8 q0 q1 hn
    have e14 : I 427 14 = C.1 := by rw [← hC]; rfl
    have mr := m_rings (d := d) (S := S) (I := I) (r := 439) (q := q) hM (Or.inr rfl) (by rw [hC]; exact hk) (by rw [hI]; exact WF_Cn hw.1 hB (by omega)) ⟨by omega, by omega⟩
    rw [hC, hI] at mr
    obtain ⟨w1, w2, w3⟩ := ringsS_WF (q := q) hw hk hB hN
    rw [E287_25 hM, e14, w_small (z := q) (by omega) (by omega), w_small (z := C.1) (by omega) (by omega), if_pos (by omega), mr]
    simp only [Option.bind_some, psh_i]
    rw [E287_42, ih (q + 1) (N + 1) _ (setR I 439 (ringsS C ρ q).2) ((cfM_setR (Or.inr rfl)).trans hC) setR_same w1 w2 (by omega) (by omega) (by omega) (by omega) (by omega), setR_set]
    rfl
theorem call_would (hS : SH S) (h : ST N I) (hN0 : 100 ≤ N) (hN : N < 69000000) (hv : isI v) : ∃ r I1 I2, ev (d + 100) 171 0 [(2, 0), (0, v)] [] S I = some ((0, r), S, I1) ∧ ev (d + 100) 287 0 [(2, 427), (0, v), uU] [] S I1 = some ((0, r), S, I2) ∧ ST (N + 100000) I2 := by
  obtain ⟨hQ, hM⟩ := hS
  have hk := h.2.2.2.1.1
  have hn0 := hk.1
  have hn5 := hk.2.1
  have hD := h.2.2.2.1.2
  obtain ⟨hKF, hRu⟩ := h.2.2.2.2.1
  have tB := tau_B h
  obtain ⟨tW, tL⟩ := tau_GD h
  have e2 : ∀ J : II, ev (d + 100) 287 0 [(2, 427), (0, v), uU] [] S J = ev (d + 100) 287 14 [(2, 427), (0, v), uU] [(0, if 0 ≤ v ∧ v ≤ 9 then 1 else 0)] S (up2 J 427 0 0) := by
    intro J
    rw [E287_0 hM, w_small hv.1 hv.2, m_in (by have := hv.1; omega) (by have := hv.2; omega) (by decide) (by decide) (by decide) (by decide)]
    simp only [Option.bind_some, psh_i]
  by_cases gv : 0 ≤ v ∧ v ≤ 9
  · obtain ⟨J, j1, j2, j3⟩ := tri_beg (d := d + 98) (S := S) hQ h
    obtain ⟨L, l1, l2, l3⟩ := c_blS (d := d + 96) (S := S) (b := 36) (by decide) (DA36 hQ) hk (cfM I).1.toNat 0 N (tau I) J j2 tW tB hN0 (by omega) (by decide) hn0 (by rw [Int.sub_zero])
    obtain ⟨bW, bL, bB⟩ := bl_WF hk (cfM I).1.toNat 0 N (tau I) tW tL tB hN0
    have bB' := BdN_le bB (show N + ((cfM I).1.toNat : Int) ≤ N + 5 by omega)
    have ml := fun (Z : II) (z1 : cfM Z = cfM I) (z2 : Z 439 = tau I) => m_blS (d := d + 97) (S := S) (v := v) hM hk (cfM I).1.toNat 0 N (tau I) Z z1 z2 tW tB hN0 (by omega) (by decide) hn0 (by rw [Int.sub_zero])
    generalize hβ : blS (cfM I) (cfM I).1.toNat 0 (tau I) = β at *
    have rL : RuleR L 412 (kfM I) := by unfold RuleR at *; rw [l3 412 (by omega), j3 412 (by omega), show (412 : Int) + 1 = 413 from rfl, l3 413 (by omega), j3 413 (by omega)]; exact hRu
    obtain ⟨H, k1, k2, k3⟩ := c_dn (d := d + 91) (S := S) (K := kfM I) (C := cfM I) hQ (UA412 hQ) (by decide) hKF hk 99 0 (N + 5) β L uU l2 rL bW bL (by omega) bB' (by omega) (by decide) (by decide) (by decide)
    obtain ⟨⟨db0, db1⟩, dW, dB⟩ := dn_b (K := kfM I) hk 99 0 (N + 5) β bW bL (by omega) bB' (by omega) (by decide)
    have md := fun (Z : II) (z1 : cfM Z = cfM I) (z2 : kfM Z = kfM I) (z3 : Z 439 = β) => m_dn (d := d + 91) (S := S) (K := kfM I) (C := cfM I) hM hKF hk 99 0 (N + 5) β Z z1 z2 z3 bW bL (by omega) bB' (by omega) (by decide) (by decide) (by decide)
    generalize hx : (dnS (kfM I) (cfM I) 99 0 β).1 = x at *
    generalize hσ : (dnS (kfM I) (cfM I) 99 0 β).2 = σ at *
    have otH : OT I H := fun y _ _ _ x2 x3 x4 _ => by rw [k3 y (by omega) x3 x4, l3 y (by omega), j3 y (by omega)]
    have e1 := E171_0 (d := d + 99) (I := I) (a1 := v) hQ
    rw [w_small hv.1 hv.2, if_neg (by omega), if_pos (by omega), j1] at e1
    simp only [Option.bind_some, psh_u] at e1
    rw [E171_23 hQ, E58_0, l1] at e1
    simp only [Option.bind_some, psh_u] at e1
    rw [E171_30 hQ, E56_0, k1] at e1
    simp only [Option.bind_some, psh_i] at e1
    rw [E171_45, w_small (z := x) (by omega) (by omega)] at e1
    obtain ⟨A, a1, a2, a3⟩ := c_tell1 (d := d + 98) (S := S) (I := H) (x := if x < 0 then 0 else 1) (RA3 hQ)
    have e1' : ev (d + 100) 171 0 [(2, 0), (0, v)] [] S I = some ((0, σ (828 + v)), S, A) := by
      have t : ev (d + 100) 171 53 [(2, 0), (0, v)] [(1, if x < 0 then 0 else 1), (2, 3)] S H = some ((0, σ (828 + v)), S, A) := by
        have ab : A 38 v = σ (828 + v) := by rw [TF_hi a3 (by decide)]; exact k2.2.1.1 v gv.1 (by omega)
        rw [E171_53 (RA3 hQ), a1]
        simp only [Option.bind_some, psh_u]
        rw [E171_56 hQ, E29_0 (DA36 hQ), w_small hv.1 hv.2, if_neg (by omega), if_pos (by omega), gdR_pos (by omega), show (36 : Int) + 2 = 38 from rfl, ab, E29_20]
        simp only [Option.bind_some, psh_i]
        rw [E171_64]
      rw [e1, ← t]
      by_cases g : x < 0
      · rw [if_pos g, if_pos g]
      · rw [if_neg g, if_neg g]
    have ot : OT I A := OT_trans otH (OT_TF a3)
    generalize hZ : setR (up2 A 427 0 0) 439 (tau I) = Z
    have z9 : Z 439 = tau I := by rw [← hZ]; exact setR_same
    have zo : ∀ y, y ≠ 439 → Z y = up2 A 427 0 0 y := fun y hy => by rw [← hZ]; exact setR_oth hy
    have zC : cfM Z = cfM I := (cfM_mem (by rw [zo 427 (by decide), up2_miss (by decide)]) (by rw [zo 434 (by decide), up2_oth (by decide)]) (by rw [zo 435 (by decide), up2_oth (by decide)]) (by rw [zo 436 (by decide), up2_oth (by decide)]) (by rw [zo 437 (by decide), up2_oth (by decide)])).trans (OT_cfM ot)
    have m1 := ml Z zC z9
    generalize hY : up2 (setR Z 439 β) 427 35 0 = Y
    have y9 : Y 439 = β := by rw [← hY, up2_oth (by decide), setR_same]
    have yo : ∀ y, y ≠ 439 → y ≠ 427 → Y y = A y := fun y h0 h1 => by rw [← hY, up2_oth h1, setR_oth h0, zo y h0, up2_oth h1]
    have yk : ∀ k, k ≠ 0 → k ≠ 35 → Y 427 k = A 427 k := fun k h0 h1 => by rw [← hY, up2_miss (by omega), setR_oth (by decide), zo 427 (by decide), up2_miss (by omega)]
    have yC : cfM Y = cfM I := (cfM_mem (yk 14 (by decide) (by decide)) (yo 434 (by decide) (by decide)) (yo 435 (by decide) (by decide)) (yo 436 (by decide) (by decide)) (yo 437 (by decide) (by decide))).trans (OT_cfM ot)
    have yK : kfM Y = kfM I := by unfold kfM; rw [yo 430 (by decide) (by decide), yk 10 (by decide) (by decide), OT_up ot (by decide) (by decide), OT_up ot (by decide) (by decide)]
    obtain ⟨T, t1, t2, t3, t4, t5, t6⟩ := md Y yC yK y9
    have e14 : setR Z 439 β 427 14 = (cfM I).1 := by rw [setR_oth (by decide), zo 427 (by decide), up2_miss (by decide)]; exact congrArg Prod.fst (OT_cfM ot)
    have s2 := e2 A
    rw [if_pos gv, E287_14 hM, if_neg (by decide), m_cop hM ot (fun y hy => up2_oth hy), hZ] at s2
    simp only [Option.bind_some, psh_u] at s2
    rw [E287_23, m1, E287_25 hM, e14, if_neg (Int.lt_irrefl _), E284_0 hM, hY, t1] at s2
    simp only [Option.bind_some, psh_i] at s2
    rw [E287_57 hM, w_small (z := x) (by omega) (by omega)] at s2
    have f0 : ∀ u : Int, (u = 0 ∨ u = 1) → ev (d + 99) 199 0 [(0, u)] [] S (up2 T 427 1 0) = some ((0, u), S, up2 T 427 1 0) := fun u hu => m_flag hu
    obtain ⟨B, p1, p2, p3⟩ := m_next (d := d + 99) (S := S) (g := updR (fun _ => 0) 0 (if x < 0 then 0 else 1)) (n := 0) (x := if x < 0 then 0 else 1) (I := up2 T 427 1 0) hM MD_0 (by decide) (by decide) (by rw [updR_hit rfl])
    have b39 : B 439 = T 439 := by rw [p3.2 439 (by decide) (by decide), up2_oth (by decide)]
    have b28 : B 439 (828 + v) = σ (828 + v) := by rw [b39]; exact t6 _ (by omega)
    have hxx : ∀ y, y ≠ 439 → y ≠ 427 → y ≠ 428 → y ≠ 432 → y ≠ 433 → B y = A y := fun y x0 x1 x2 x3 x4 => by rw [p3.2 y x1 x2, up2_oth x1, t5 y x0 x1 x3 x4, yo y x0 x1]
    refine ⟨_, A, B, e1', ?_, tri_ST h ot (fun y a0 a1 a2 a3 _ _ _ _ => hxx y a2 a0 a1 (by omega) (by omega)) (fun k hk => by rw [p3.1 k (by omega), up2_miss (by omega), t4 k (by omega) (by omega) (by omega), yk k (by omega) (by omega)]) (cR_of (TD_congr a2 (hxx 3 (by decide) (by decide) (by decide) (by decide) (by decide)) (hxx 4 (by decide) (by decide) (by decide) (by decide) (by decide))) p2 (by decide) (by decide)) (by rw [b39]; exact BdN_le t2 (by omega))⟩
    have t : ev (d + 100) 287 73 [(2, 427), (0, v), (0, x)] [(0, if x < 0 then 0 else 1), (2, 427)] S (up2 T 427 1 0) = some ((0, σ (828 + v)), S, B) := by
      rw [E287_73, f0 _ (by split <;> simp)]
      simp only [Option.bind_some, psh_i]
      rw [E287_76 hM, w_small (z := if x < 0 then 0 else 1) (by split <;> decide) (by split <;> decide), p1]
      simp only [Option.bind_some, psh_u]
      rw [E287_80 hM, w_small (z := 828 + v) (by omega) (by omega), gdR_pos (by omega), b28]
    rw [s2, ← t]
    by_cases g : x < 0
    · rw [if_pos g, if_pos g]
    · rw [if_neg g, if_neg g]
  · refine ⟨-1, I, _, ?_, by rw [e2, if_neg gv, E287_14 hM, if_pos (by decide)], ST_le (ST_0 (v := 0) h) (by omega)⟩
    rw [E171_0 hQ, w_small hv.1 hv.2, E171_10]
    by_cases g : v < 0
    · rw [if_pos g]
    · rw [if_neg g, if_neg (by omega)]
end r95
