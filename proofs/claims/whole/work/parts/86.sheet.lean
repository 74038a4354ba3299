/-! sheet -/
def cl99 (z : Int) : Int := if (if 0 < z then z else 0) < 99 then (if 0 < z then z else 0) else 99
def shV (t n a s k : Int) : Int := if t ≠ 3 ∧ k < n then cl99 (w (if t = 0 then iB (a + k * s) else if t = 1 then iS (a + k * s) else a + k * s)) else 0
def shS (ρ V : RW) (k : Int) : RW := fun j => if 828 ≤ j ∧ j < 828 + k then V (j - 828) else ρ j
section r86
variable {d : Nat} {S : SS} {I J G I2 : II} {C : CF} {ρ σ V : RW} {b q k v t n a s N : Int}
theorem cl99_b {z : Int} : 0 ≤ cl99 z ∧ cl99 z ≤ 99 := by unfold cl99; split <;> split <;> omega
theorem shV_b {k : Int} : 0 ≤ shV t n a s k ∧ shV t n a s k ≤ 99 := by unfold shV; split; exact cl99_b; omega
theorem cl99_m {z : Int} : (if 0 < (if z < 99 then z else 99) then (if z < 99 then z else 99) else 0) = cl99 z := by
  by_cases h1 : z < 99 <;> by_cases h2 : 0 < z <;> simp [cl99, h1, h2] <;> omega
theorem dr_ST (h : ST N I) (hσ : WF (cfM I) σ) (hl : lftOK 1 σ) (hB : BdN (N + 100000) σ) (hR : RelD (cfM I) I2 5 σ) (hx : ∀ x, x < 427 → ¬ (5 ≤ x ∧ x < 36) → I2 x = I x) (hy : ∀ x, 427 < x → x ≠ 438 → I2 x = I x) (e38 : I2 438 = σ) (hk : ∀ k, k ≠ 0 → I2 427 k = I 427 k) : ST (N + 100000) I2 := by
  obtain ⟨tT, tR, tH, tD, tU, tP, tK, tB⟩ := h
  have yy : ∀ x, 427 < x → x ≠ 438 → I2 x = I x := hy
  have hc : cfM I2 = cfM I := cfM_mem (hk 14 (by decide)) (yy 434 (by decide) (by decide)) (yy 435 (by decide) (by decide)) (yy 436 (by decide) (by decide)) (yy 437 (by decide) (by decide))
  have tB2 := cB_le tB (show N ≤ N + 100000 by omega)
  refine ⟨cT_mem tT (hx 1 (by decide) (by omega)) (hx 2 (by decide) (by omega)) (yy 429 (by decide) (by decide)) (hk 4 (by decide)), cR_mem tR (hx 3 (by decide) (by omega)) (hx 4 (by decide) (by omega)) (yy 428 (by decide) (by decide)) (hk 1 (by decide)), cH_mem tH (hx 424 (by decide) (by omega)) (hx 425 (by decide) (by omega)) (hx 426 (by decide) (by omega)) (yy 448 (by decide) (by decide)) (yy 449 (by decide) (by decide)) (hk 36 (by decide)), ?_, cU_mem tU (hx 412 (by decide) (by omega)) (hx 413 (by decide) (by omega)) (yy 430 (by decide) (by decide)) (hk 10 (by decide)), cP_mem tP hc (fun k => by rw [hx 67 (by decide) (by omega)]) (hk 22 (by decide)) (yy 440 (by decide) (by decide)) (fun x x0 x1 => hx x (by omega) (by omega)), cK_mem tK (hk 14 (by decide)) (hk 15 (by decide)) (yy 434 (by decide) (by decide)) (yy 435 (by decide) (by decide)) (yy 436 (by decide) (by decide)) (yy 437 (by decide) (by decide)) (yy 452 (by decide) (by decide)) (hx 70 (by decide) (by omega)) (yy 453 (by decide) (by decide)) (yy 454 (by decide) (by decide)) (fun x x0 x1 => hx x (by omega) (by omega)), ?_⟩
  · unfold cD; rw [hc, e38]; exact ⟨tD.1, hR, hσ, hl⟩
  · unfold cB; rw [e38, yy 439 (by decide) (by decide), yy 440 (by decide) (by decide), yy 454 (by decide) (by decide)]; exact ⟨hB, tB2.2⟩
theorem c_17 {x : Int} (t0 : 0 ≤ t) (t1 : t < 4) : ev d 17 0 [(0, t), (0, x), uU] [] S I = some ((0, cl99 (w (if t = 0 then iB x else if t = 1 then iS x else x))), S, I) := by
  rw [E17_0, w_small (z := t) (by omega) (by omega), E17_20, E17_20, E17_20]
  by_cases g0 : t = 0
  · rw [if_pos g0, if_pos g0]; rfl
  · rw [if_neg g0, if_neg g0]
    by_cases g1 : t = 1
    · rw [if_pos g1, if_pos g1]; rfl
    · rw [if_neg g1, if_neg g1]; rfl
theorem c_sh (hD : DA S 5) (t0 : 0 ≤ t) (t1 : t < 4) (hn : isI n) : ∀ (m : Nat) (k : Int) (I : II), 0 ≤ k → k ≤ 10 → m = (10 - k).toNat →
    ∃ J, ev (d + 1) 16 44 [(2, 5), (0, t), (0, n), (0, a), (0, s), (0, if t = 3 then 1 else 0), (0, k)] [] S I = ev (d + 1) 16 44 [(2, 5), (0, t), (0, n), (0, a), (0, s), (0, if t = 3 then 1 else 0), (0, 10)] [] S J ∧ (∀ j, k ≤ j → j < 10 → J 7 j = shV t n a s j) ∧ (∀ j, j < k → J 7 j = I 7 j) ∧ ∀ y, y ≠ 7 → J y = I y := by
  intro m
  induction m with
  | zero =>
    intro k I k0 k1 hm
    have : k = 10 := by omega
    subst this
    exact ⟨I, rfl, fun j j0 j1 => by omega, fun _ _ => rfl, fun _ _ => rfl⟩
  | succ m ih =>
    intro k I k0 k1 hm
    have hK : KA S 7 20 10 := DA_k2 hD
    have st : ev (d + 1) 16 44 [(2, 5), (0, t), (0, n), (0, a), (0, s), (0, if t = 3 then 1 else 0), (0, k)] [] S I = ev (d + 1) 16 44 [(2, 5), (0, t), (0, n), (0, a), (0, s), (0, if t = 3 then 1 else 0), (0, k + 1)] [] S (up2 I 7 k (shV t n a s k)) := by
      rw [E16_44 hD, w_small (z := k) (by omega) (by omega), if_pos (by omega), w_small hn.1 hn.2, E16_68, c_17 t0 t1]
      simp only [Option.bind_some, psh_i]
      rw [show (5 : Int) + 2 = 7 from rfl, E16_83 hK, w_small (z := k) (by omega) (by omega), gdR_pos (by omega), E16_83 hK, w_small (z := k) (by omega) (by omega), gdR_pos (by omega)]
      unfold shV
      by_cases g3 : t = 3
      · rw [if_pos g3, if_neg (by decide), if_neg (show ¬ (t ≠ 3 ∧ k < n) from fun y => y.1 g3)]
      · rw [if_neg g3, if_pos (by decide)]
        by_cases g4 : k < n
        · rw [if_pos g4, if_pos (show t ≠ 3 ∧ k < n from ⟨g3, g4⟩)]
        · rw [if_neg g4, if_neg (show ¬ (t ≠ 3 ∧ k < n) from fun y => g4 y.2)]
    obtain ⟨J, j1, j2, j3, j4⟩ := ih (k + 1) (up2 I 7 k (shV t n a s k)) (by omega) (by omega) (by omega)
    refine ⟨J, st.trans j1, fun j h0 h1 => ?_, fun j h0 => by rw [j3 j (by omega), up2_miss (by omega)], fun y hy => by rw [j4 y hy, up2_oth hy]⟩
    by_cases e : j = k
    · subst e; rw [j3 j (by omega), up2_hit rfl rfl]
    · exact j2 j (by omega) h1
theorem m_sh (hM : MA S 427) (t0 : 0 ≤ t) (t1 : t < 4) (hn : isI n) : ∀ (m : Nat) (k : Int) (I : II) (a7 : AV), 0 ≤ k → k ≤ 10 → m = (10 - k).toNat →
    ∃ z z', ev (d + 1) 213 43 [(2, 427), (0, t), (0, n), (0, a), (0, s), (0, a + k * s), (0, k), a7] [] S I = ev (d + 1) 213 43 [(2, 427), (0, t), (0, n), (0, a), (0, s), (0, z), (0, 10), z'] [] S (setR I 438 (fun j => if 828 + k ≤ j ∧ j < 838 then shV t n a s (j - 828) else I 438 j)) := by
  intro m
  induction m with
  | zero =>
    intro k I a7 k0 k1 hm
    have : k = 10 := by omega
    subst this
    refine ⟨a + 10 * s, a7, ?_⟩
    have e : (fun j => if 828 + 10 ≤ j ∧ j < 838 then shV t n a s (j - 828) else I 438 j) = I 438 := by funext j; rw [if_neg (by omega)]
    rw [e, setR_id]
  | succ m ih =>
    intro k I a7 k0 k1 hm
    have hK := isRw_K hM (Or.inl rfl : isRw 438)
    have st : ∃ z', ev (d + 1) 213 43 [(2, 427), (0, t), (0, n), (0, a), (0, s), (0, a + k * s), (0, k), a7] [] S I = ev (d + 1) 213 43 [(2, 427), (0, t), (0, n), (0, a), (0, s), (0, a + k * s + s), (0, k + 1), z'] [] S (up2 I 438 (828 + k) (shV t n a s k)) := by
      refine ⟨(0, if t = 0 then iB (a + k * s) else if t = 1 then iS (a + k * s) else a + k * s), ?_⟩
      rw [E213_43 hM, w_small (z := k) (by omega) (by omega), if_pos (by omega), w_small (z := t) (by omega) (by omega)]
      have e : ∀ (A : Prop) [Decidable A] (x y : Int), (if A then ev (d + 1) 213 73 [(2, 427), (0, t), (0, n), (0, a), (0, s), (0, a + k * s), (0, k), a7] [(0, x)] S I else ev (d + 1) 213 73 [(2, 427), (0, t), (0, n), (0, a), (0, s), (0, a + k * s), (0, k), a7] [(0, y)] S I) = ev (d + 1) 213 73 [(2, 427), (0, t), (0, n), (0, a), (0, s), (0, a + k * s), (0, k), a7] [(0, if A then x else y)] S I := fun A _ x y => by split <;> rfl
      rw [e, e]
      unfold shV
      generalize (if t = 0 then iB (a + k * s) else if t = 1 then iS (a + k * s) else a + k * s) = x
      rw [E213_73 hM, w_small (z := t) (by omega) (by omega), w_small (z := k) (by omega) (by omega), w_small hn.1 hn.2, E213_96, cl99_m, E213_111 hK, w_small (z := 828 + k) (by omega) (by omega), gdR_pos (by omega), E213_111 hK, w_small (z := 828 + k) (by omega) (by omega), gdR_pos (by omega)]
      by_cases g3 : t = 3
      · rw [if_pos g3, if_neg (show ¬ (t ≠ 3 ∧ k < n) from fun y => y.1 g3)]
      · rw [if_neg g3]
        by_cases g4 : k < n
        · rw [if_pos g4, if_pos (show t ≠ 3 ∧ k < n from ⟨g3, g4⟩)]
        · rw [if_neg g4, if_neg (show ¬ (t ≠ 3 ∧ k < n) from fun y => g4 y.2)]
    obtain ⟨z', hz⟩ := st
    obtain ⟨y, y', hy⟩ := ih (k + 1) (up2 I 438 (828 + k) (shV t n a s k)) z' (by omega) (by omega) (by omega)
    have ek : a + (k + 1) * s = a + k * s + s := by rw [Int.add_mul, Int.one_mul]; omega
    rw [ek] at hy
    refine ⟨y, y', ?_⟩
    rw [hz, hy]
    congr 1
    rw [up2_set, setR_set, setR_same]
    congr 1
    funext j
    by_cases e : j = 828 + k
    · subst e; rw [if_neg (by omega), updR_hit rfl, if_pos (by omega), show 828 + k - 828 = k by omega]
    · by_cases g : 828 + k ≤ j ∧ j < 838
      · rw [if_pos (by omega), if_pos g]
      · rw [if_neg (by omega), if_neg g, updR_miss e]
theorem blk_WF (h : WF C ρ) (hl : lftOK 1 ρ) (hB : BdN N ρ) (hN : 100 ≤ N) (hV : ∀ k, 0 ≤ V k ∧ V k ≤ 99) : WF C (shS ρ V 10) ∧ lftOK 1 (shS ρ V 10) ∧ BdN N (shS ρ V 10) := by
  have oo : ∀ j, ¬ (828 ≤ j ∧ j < 838) → shS ρ V 10 j = ρ j := fun j hj => by unfold shS; rw [if_neg (by omega)]
  have oi : ∀ j, 828 ≤ j → j < 838 → shS ρ V 10 j = V (j - 828) := fun j h0 h1 => by unfold shS; rw [if_pos (by omega)]
  obtain ⟨m1, m2, m3, m4, m5⟩ := h.1.2.2.2.1
  obtain ⟨w1, w2⟩ := misc_W0 (σ := shS ρ V 10) h.1 (fun j g0 g1 g2 => oo j (by omega)) ⟨fun j g0 g1 => by rw [oi j g0 g1]; exact hV _, fun j g0 g1 => by rw [oo j (by omega)]; exact m2 j g0 g1, fun j g0 g1 => by rw [oo j (by omega)]; exact m3 j g0 g1, fun j g0 g1 => by rw [oo j (by omega)]; exact m4 j g0 g1, by rw [oo 826 (by omega), oo 827 (by omega), oo 838 (by omega), oo 839 (by omega)]; exact m5⟩
  refine ⟨⟨w1, fun z => by rw [w2]; exact h.2 z⟩, lftOK_congr (fun j j0 j1 => oo j (by omega)) h.1.2.1.2.1 hl, fun j => ?_⟩
  by_cases g : 828 ≤ j ∧ j < 838
  · rw [oi j g.1 g.2]; have := hV (j - 828); omega
  · rw [oo j g]; exact hB j
theorem call_sheet (hS : SH S) (h : ST N I) (hN0 : 100 ≤ N) (hN : N < 70000000) (ht : isI t) (hn : isI n) :
    ∃ r I1 I2, ev (d + 100) 146 0 [(2, 0), (0, t), (0, n), (0, a), (0, s)] [] S I = some ((0, r), S, I1) ∧ ev (d + 100) 213 0 [(2, 427), (0, t), (0, n), (0, a), (0, s), uU, uU, uU] [] S I1 = some ((0, r), S, I2) ∧ ST (N + 100000) I2 := by
  obtain ⟨hQ, hM⟩ := hS
  have hD := h.2.2.2.1.2
  have hB := h.2.2.2.2.2.2.2.1
  have hK := isRw_K hM (Or.inl rfl : isRw 438)
  have e1 := E146_0 (d := d + 99) (I := I) (a1 := t) (a2 := n) (a3 := a) (a4 := s) hQ
  rw [E16_0, w_small ht.1 ht.2, w_small hn.1 hn.2, E16_15] at e1
  have e2 : ∀ J : II, ev (d + 100) 213 0 [(2, 427), (0, t), (0, n), (0, a), (0, s), uU, uU, uU] [] S J = ev (d + 100) 213 14 [(2, 427), (0, t), (0, n), (0, a), (0, s), uU, uU, uU] [(0, if 0 ≤ t ∧ t ≤ 3 then 1 else 0)] S (up2 J 427 0 0) := by
    intro J
    rw [E213_0 hM, w_small ht.1 ht.2, m_in (by have := ht.1; omega) (by have := ht.2; omega) (by decide) (by decide) (by decide) (by decide)]
    simp only [Option.bind_some, psh_i]
  have fin0 : ST (N + 100000) (up2 I 427 0 0) := ST_le (ST_0 (v := 0) h) (by omega)
  by_cases g1 : 0 ≤ t ∧ t ≤ 3
  · rw [if_neg (by omega), if_neg (by omega)] at e1
    by_cases g2 : 10 < n
    · rw [if_pos g2] at e1
      simp only [Option.bind_some, psh_i] at e1
      rw [E146_12] at e1
      exact ⟨-1, I, _, e1, by rw [e2, if_pos g1, E213_14, if_neg (by decide), w_small hn.1 hn.2, if_pos g2, E213_23], fin0⟩
    · rw [if_neg g2, E16_27, E16_27, w_small hn.1 hn.2, E16_41, E16_41] at e1
      have e3 : ∀ J : II, ev (d + 100) 213 0 [(2, 427), (0, t), (0, n), (0, a), (0, s), uU, uU, uU] [] S J = if t = 3 ∨ ¬ n < 0 then ev (d + 100) 213 43 [(2, 427), (0, t), (0, n), (0, a), (0, s), (0, a), (0, 0), uU] [] S (up2 J 427 0 0) else some ((0, -2), S, up2 J 427 0 0) := by
        intro J
        rw [e2, if_pos g1, E213_14, if_neg (by decide), w_small hn.1 hn.2, if_neg g2, w_small ht.1 ht.2, E213_37]
        by_cases g3 : t = 3
        · rw [if_pos g3, if_pos (Or.inl g3)]
        · rw [if_neg g3]
          by_cases g4 : n < 0
          · rw [if_pos g4, if_neg (by omega)]
          · rw [if_neg g4, if_pos (Or.inr g4)]
      have e4 : ev (d + 100) 146 0 [(2, 0), (0, t), (0, n), (0, a), (0, s)] [] S I = if t = 3 ∨ ¬ n < 0 then (ev (d + 99) 16 44 [(2, 5), (0, t), (0, n), (0, a), (0, s), (0, if t = 3 then 1 else 0), (0, 0)] [] S I).bind (fun q => ev (d + 99 + 1) 146 12 [(2, 0), (0, t), (0, n), (0, a), (0, s)] (psh q.1 []) q.2.1 q.2.2) else some ((0, -2), S, I) := by
        rw [e1]
        by_cases g3 : t = 3
        · rw [if_pos g3, if_neg (by decide), if_pos (Or.inl g3), if_pos g3]
        · rw [if_neg g3, if_pos (by decide), if_neg g3]
          by_cases g4 : n < 0
          · rw [if_pos g4, if_neg (by omega)]
            simp only [Option.bind_some, psh_i]
            rw [E146_12]
          · rw [if_neg g4, if_pos (Or.inr g4)]
      by_cases g3 : t = 3 ∨ ¬ n < 0
      · rw [if_pos g3] at e4
        obtain ⟨J, j1, j2, _, j4⟩ := c_sh (d := d + 98) (S := S) (a := a) (s := s) (DA5 hQ) g1.1 (by omega) hn 10 0 I (by decide) (by decide) (by decide)
        obtain ⟨w1, w2, w3⟩ := blk_WF (V := shV t n a s) hD.2.1 hD.2.2 hB hN0 (fun k => shV_b)
        have oo : ∀ j, ¬ (828 ≤ j ∧ j < 838) → shS (I 438) (shV t n a s) 10 j = I 438 j := fun j hj => by unfold shS; rw [if_neg (by omega)]
        have rJ : RelD (cfM I) J 5 (shS (I 438) (shV t n a s) 10) := by
          obtain ⟨h1, ⟨a1, a2, a3⟩, h3, h4, h5, h6⟩ := hD.1
          refine ⟨hdR_congr (fun k _ => by rw [j4 5 (by decide)]) (fun j hj => oo j (by omega)) h1, ⟨fun j j0 j1' => ?_, fun c c0 c1 => ?_, fun c c0 c1 => ?_⟩, runsR_congr hD.2.1.1.2.1.2.1 (fun y y0 y1 => j4 y (by omega)) (fun j j0 j1 => oo j (by omega)) h3, boxR_congr hD.2.1.1.2.2.1.2.1 (j4 _ (by decide)) (fun j j0 j1 => oo j (by omega)) h4, fun q g0 g1 => laneR_congr g0 g1 (fun x x0 x1 => j4 x (by omega)) (fun j j0 j1 => oo j (by omega)) (h5 q g0 g1), bitsR_congr (fun q g0 g1 => by rw [j4 _ (by omega)]) (fun z => cnt_low hD.2.1.1 (fun j g0 g1 _ g2 => oo j (by omega))) h6⟩
          · show J 7 j = _
            rw [j2 j j0 j1']
            unfold shS; rw [if_pos (by omega), show 828 + j - 828 = j by omega]
          · show J 8 c = _ ∧ J 9 c = _
            rw [j4 8 (by decide), j4 9 (by decide), oo _ (by omega), oo _ (by omega)]; exact a2 c c0 c1
          · show J 10 c = _
            rw [j4 10 (by decide), oo _ (by omega)]; exact a3 c c0 c1
        obtain ⟨z, z', hz⟩ := m_sh (d := d + 99) (S := S) (t := t) (n := n) (a := a) (s := s) hM g1.1 (by omega) hn 10 0 (up2 J 427 0 0) uU (by decide) (by decide) (by decide)
        rw [Int.zero_mul, Int.add_zero, up2_oth (by decide), j4 438 (by decide)] at hz
        have es : (fun j => if 828 + 0 ≤ j ∧ j < 838 then shV t n a s (j - 828) else I 438 j) = shS (I 438) (shV t n a s) 10 := by funext j; unfold shS; rfl
        rw [es] at hz
        generalize hσ : shS (I 438) (shV t n a s) 10 = σ at *
        have fin : ST (N + 100000) (setR (up2 J 427 0 0) 438 σ) := dr_ST h w1 w2 (BdN_le w3 (by omega)) (RelD_mem rJ w1.1 (fun x x0 x1 => by rw [setR_oth (by omega), up2_oth (by omega)])) (fun x x0 x1 => by rw [setR_oth (by omega), up2_oth (by omega), j4 x (by omega)]) (fun x x0 x1 => by rw [setR_oth x1, up2_oth (by omega), j4 x (by omega)]) setR_same (fun k hk => by rw [setR_oth (by decide), up2_miss (by omega), j4 427 (by decide)])
        rw [j1, E16_44 (DA5 hQ), if_neg (by decide)] at e4
        by_cases g5 : t = 3
        · rw [if_pos g5, if_neg (by decide), E16_104] at e4
          simp only [Option.bind_some, psh_i] at e4
          rw [E146_12] at e4
          refine ⟨-3, J, _, e4, ?_, fin⟩
          rw [e3, if_pos g3, hz, E213_43 hM, if_neg (by decide), w_small ht.1 ht.2, if_pos g5, E213_142]
        · rw [if_neg g5, if_pos (by decide), E18_0, c_blk (DA5 hQ) rJ 10 0 0 (by decide) (by decide) (by decide)] at e4
          simp only [Option.bind_some, psh_i] at e4
          rw [E16_104] at e4
          simp only [Option.bind_some, psh_i] at e4
          rw [E146_12] at e4
          refine ⟨_, J, _, e4, ?_, fin⟩
          rw [e3, if_pos g3, hz, E213_43 hM, if_neg (by decide), w_small ht.1 ht.2, if_neg g5, E214_0, m_blk hK 10 0 0 (by decide) (by decide) (by decide), setR_same]
          simp only [Option.bind_some, psh_i]
          rw [E213_142]
      · rw [if_neg g3] at e4
        exact ⟨-2, I, _, e4, by rw [e3, if_neg g3], fin0⟩
  · refine ⟨-1, I, _, ?_, by rw [e2, if_neg g1, E213_14, if_pos (by decide), E213_23], fin0⟩
    rw [e1]
    by_cases g : t < 0
    · rw [if_pos g]
      simp only [Option.bind_some, psh_i]
      rw [E146_12]
    · rw [if_neg g, if_pos (by omega)]
      simp only [Option.bind_some, psh_i]
      rw [E146_12]
end r86
