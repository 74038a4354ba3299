/-! queues: what is told -/
def rkq (c : Int) : Int := if c = 104 then 1 else if c = 108 then 3 else if c = 109 then 2 else if c = 117 then 0 else -1
def wqS (n : Int) (t : Int → Int) : Int := if ¬ (0 < n ∧ 50 ≤ t 0 ∧ t 0 ≤ 56) then 0 else if ¬ (1 < n ∧ 50 ≤ t 1 ∧ t 1 ≤ 56) then 1 else if ¬ (2 < n ∧ 0 ≤ rkq (t 2)) then 2 else if 3 < n ∧ t 3 ≠ 115 then 3 else if 4 < n then 4 else -1
section rb10
variable {d : Nat} {S : SS} {I J K G I2 : II} {t u : Int → Int} {L p q r b s c ok v n a k N lo hi : Int} {C D : CF} {ρ : RW}
theorem rkq_b (c : Int) : -1 ≤ rkq c ∧ rkq c ≤ 3 := by unfold rkq; repeat' split
                                                       all_goals omega
theorem rkq_neg : rkq (-1) = -1 := by decide
theorem ops10 (c : Int) : ix (txt 10) c 4 0 = rkq c := by
  show (if ((117 : Nat) : Int) = c then (0 : Int) else if ((104 : Nat) : Int) = c then 0 + 1 else if ((109 : Nat) : Int) = c then 0 + 1 + 1 else if ((108 : Nat) : Int) = c then 0 + 1 + 1 + 1 else -1) = _
  unfold rkq
  repeat' split
  all_goals omega
theorem c_rk (hc : isI c) : ev d 144 0 [(0, c)] [] S I = some ((0, rkq c), S, I) := by
  rw [E144_0, w_small hc.1 hc.2]
  unfold rkq
  by_cases g1 : c = 104
  · rw [if_pos g1, if_pos g1]
  by_cases g2 : c = 108
  · rw [if_neg g1, if_neg g1, if_pos g2, if_pos g2]
  by_cases g3 : c = 109
  · rw [if_neg g1, if_neg g1, if_neg g2, if_neg g2, if_pos g3, if_pos g3]
  by_cases g4 : c = 117
  · rw [if_neg g1, if_neg g1, if_neg g2, if_neg g2, if_neg g3, if_neg g3, if_pos g4, if_pos g4]
  · rw [if_neg g1, if_neg g1, if_neg g2, if_neg g2, if_neg g3, if_neg g3, if_neg g4, if_neg g4]
/-- the sign at p, as the class sees it -/
def att (n : Int) (t : Int → Int) (p : Int) : Int := if 0 ≤ p ∧ p < n then t p else -1
theorem c_att (hT : TA S 1) (hp : isI p) (h0 : 0 ≤ I 1 1) (h1 : I 1 1 ≤ 80) : ev d 135 0 [(2, 1), (0, p)] [] S I = some ((0, att (I 1 1) (I 2) p), S, I) := by
  unfold att
  by_cases g : 0 ≤ p ∧ p < I 1 1
  · rw [if_pos g, c_at hT g.1 g.2 h1]
  · rw [if_neg g, c_at_out hT hp g h0 h1]
theorem att_b (ht : ∀ j, 0 ≤ j → j < n → 0 ≤ t j ∧ t j < 256) : -1 ≤ att n t p ∧ att n t p < 256 := by
  unfold att
  split
  · rename_i g; have := ht p g.1 g.2; omega
  · omega
theorem wqS_congr (h : ∀ j, 0 ≤ j → j < n → u j = t j) : wqS n u = wqS n t := by
  unfold wqS
  by_cases g0 : 0 < n
  · rw [h 0 (by decide) g0]
    by_cases g1 : 1 < n
    · rw [h 1 (by decide) g1]
      by_cases g2 : 2 < n
      · rw [h 2 (by decide) g2]
        by_cases g3 : 3 < n
        · rw [h 3 (by decide) g3]
        · simp only [g3, false_and]
      · simp only [g2, false_and, not_false_eq_true, if_true]
    · simp only [g1, false_and, not_false_eq_true, if_true]
  · simp only [g0, false_and, not_false_eq_true, if_true]
theorem c_wq (hQ : QA S 0) (h0 : 0 ≤ I 1 1) (h1 : I 1 1 ≤ 80) (ht : ∀ j, 0 ≤ j → j < I 1 1 → 0 ≤ I 2 j ∧ I 2 j < 256) : ev (d + 2) 143 0 [(2, 0), uU] [] S I = some ((0, wqS (I 1 1) (I 2)), S, I) := by
  have ca := fun (d' : Nat) (p : Int) (hp : isI p) => c_att (d := d') (S := S) (I := I) (TA1 hQ) hp h0 h1
  have ab := fun p => att_b (p := p) ht
  have lp : ∀ (a1 : Int) (e : a1 = 0 ∨ a1 = 1), ev (d + 2) 143 2 [(2, 0), (0, a1)] [] S I = if a1 < I 1 1 ∧ 50 ≤ I 2 a1 ∧ I 2 a1 ≤ 56 then ev (d + 2) 143 2 [(2, 0), (0, a1 + 1)] [] S I else some ((0, a1), S, I) := by
    intro a1 e
    have b := ab a1
    rw [E143_2 hQ, w_small (z := a1) (by omega) (by omega), if_pos (by omega), ca _ a1 ⟨by omega, by omega⟩]
    simp only [Option.bind_some, psh_i]
    rw [E143_15 hQ, w_small (z := att (I 1 1) (I 2) a1) (by omega) (by omega), ca _ a1 ⟨by omega, by omega⟩]
    simp only [Option.bind_some, psh_i]
    rw [E143_28, w_small (z := att (I 1 1) (I 2) a1) (by omega) (by omega), E143_33]
    by_cases g : a1 < I 1 1
    · have e1 : att (I 1 1) (I 2) a1 = I 2 a1 := by unfold att; rw [if_pos ⟨by omega, g⟩]
      rw [e1]
      by_cases g2 : I 2 a1 < 50
      · rw [if_pos g2, if_neg (by omega)]
      · rw [if_neg g2]
        by_cases g3 : 56 < I 2 a1
        · rw [if_pos g3, if_neg (by omega)]
        · rw [if_neg g3, if_pos (by omega)]
    · have e1 : att (I 1 1) (I 2) a1 = -1 := by unfold att; rw [if_neg (by omega)]
      rw [e1, if_pos (by decide), if_neg (by omega)]
  rw [E143_0, lp 0 (Or.inl rfl)]
  unfold wqS
  by_cases g0 : 0 < I 1 1 ∧ 50 ≤ I 2 0 ∧ I 2 0 ≤ 56
  · rw [if_pos g0, if_neg (fun x => x g0), lp (0 + 1) (Or.inr rfl), show (0 : Int) + 1 = 1 from rfl]
    by_cases g1 : 1 < I 1 1 ∧ 50 ≤ I 2 1 ∧ I 2 1 ≤ 56
    · rw [if_pos g1, if_neg (fun x => x g1), E143_2 hQ, show w (1 + 1) = 2 by decide, if_neg (by decide), ca _ 2 ⟨by decide, by decide⟩]
      simp only [Option.bind_some, psh_i]
      have b2 := ab 2
      have b3 := ab 3
      rw [E143_49, c_rk ⟨by omega, by omega⟩]
      simp only [Option.bind_some, psh_i]
      have rb := rkq_b (att (I 1 1) (I 2) 2)
      rw [E143_52 hQ, w_small (z := rkq (att (I 1 1) (I 2) 2)) (by omega) (by omega), w_small (z := I 1 1) (by omega) (by omega)]
      by_cases g2 : 2 < I 1 1
      · have e2 : att (I 1 1) (I 2) 2 = I 2 2 := by unfold att; rw [if_pos ⟨by decide, g2⟩]
        rw [e2] at rb ⊢
        by_cases g3 : rkq (I 2 2) = -1
        · rw [if_pos g3, if_pos (show ¬ (2 < I 1 1 ∧ 0 ≤ rkq (I 2 2)) from fun x => by omega)]
        · rw [if_neg g3, if_neg (show ¬ ¬ (2 < I 1 1 ∧ 0 ≤ rkq (I 2 2)) from fun x => x ⟨g2, by omega⟩)]
          have e84 : ev (d + 2) 143 84 [(2, 0), (0, 1 + 1)] [] S I = some ((0, if 4 < I 1 1 then 4 else -1), S, I) := by
            rw [E143_84 hQ, w_small (z := I 1 1) (by omega) (by omega), E143_100, E143_100]
            split <;> rfl
          by_cases g4 : 3 < I 1 1
          · have e3 : att (I 1 1) (I 2) 3 = I 2 3 := by unfold att; rw [if_pos ⟨by decide, g4⟩]
            rw [if_pos g4, ca _ 3 ⟨by decide, by decide⟩]
            simp only [Option.bind_some, psh_i]
            rw [E143_77, w_small (z := att (I 1 1) (I 2) 3) (by omega) (by omega), e3, e84]
            by_cases g5 : I 2 3 = 115
            · rw [if_pos g5, if_neg (show ¬ (3 < I 1 1 ∧ I 2 3 ≠ 115) from fun x => x.2 g5)]
            · rw [if_neg g5, if_pos ⟨g4, g5⟩]
          · rw [if_neg g4, e84, if_neg (show ¬ (3 < I 1 1 ∧ I 2 3 ≠ 115) from fun x => g4 x.1)]
      · have e2 : att (I 1 1) (I 2) 2 = -1 := by unfold att; rw [if_neg (by omega)]
        rw [e2, rkq_neg, if_pos rfl, if_pos (show ¬ (2 < I 1 1 ∧ 0 ≤ rkq (I 2 2)) from fun x => g2 x.1)]
    · rw [if_neg g1, if_pos g1]
  · rw [if_neg g0, if_pos g0]
theorem m_din (hM : MA S 427) (e5 : J 427 5 = p) (e6 : J 427 6 = L) (p0 : 0 ≤ p) (pL : p ≤ L) (L1 : L ≤ 80) (l0 : 0 ≤ lo) (l1 : hi < 10) (l2 : lo < 10) (l3 : 0 ≤ hi) (ht : ∀ j, 0 ≤ j → j < L → 0 ≤ J 429 j ∧ J 429 j < 256) : ev (d + 1) 208 0 [(2, 427), (0, lo), (0, hi)] [] S J = if p < L ∧ lo ≤ J 429 p - 48 ∧ J 429 p - 48 ≤ hi then some ((0, J 429 p - 48), S, up2 J 427 5 (p + 1)) else some ((0, -1), S, J) := by
  rw [E208_0 hM, e5, e6, w_small (z := p) (by omega) (by omega), w_small (z := L) (by omega) (by omega)]
  by_cases g : p < L
  · obtain ⟨t0, t1⟩ := ht p p0 g
    rw [if_pos g, gdR_pos (by omega), w_small (z := J 429 p - 48) (by omega) (by omega), w_small (z := lo) (by omega) (by omega), w_small (z := hi) (by omega) (by omega), m_in (by omega) (by omega) (by omega) (by omega) (by omega) (by omega)]
    simp only [Option.bind_some, psh_i]
    rw [E208_31 hM, e5, w_small (z := p + 1 - 1) (by omega) (by omega), show p + 1 - 1 = p by omega, gdR_pos (by omega), E208_34]
    by_cases g2 : lo ≤ J 429 p - 48 ∧ J 429 p - 48 ≤ hi
    · rw [if_pos g2, if_neg (by decide), if_pos ⟨g, g2⟩]
    · rw [if_neg g2, if_pos (by decide), if_neg (fun x => g2 x.2)]
  · rw [if_neg g, if_neg (fun x => g x.1), E208_34]
theorem m_qs (hM : MA S 427) (e4 : J 427 4 = n) (n0 : 0 ≤ n) (n1 : n ≤ 80) (ht : ∀ j, 0 ≤ j → j < n → 0 ≤ J 429 j ∧ J 429 j < 256) : ∃ K, (∀ x, x ≠ 427 → K x = J x) ∧ (∀ k, k ≠ 0 → k ≠ 4 → k ≠ 5 → k ≠ 6 → k ≠ 7 → K 427 k = J 427 k) ∧ K 427 4 = 0 ∧ (0 ≤ wqS n (J 429) → ev (d + 6) 207 0 [(2, 427), uU, uU, uU, uU] [] S J = some ((0, -1 - wqS n (J 429)), S, K)) ∧ (wqS n (J 429) < 0 → ev (d + 6) 207 0 [(2, 427), uU, uU, uU, uU] [] S J = ev (d + 6) 207 68 [(2, 427), (0, J 429 0 - 48), (0, J 429 1 - 48), (0, rkq (J 429 2)), uU] [(0, if 3 < n then 1 else 0)] S K ∧ K 427 5 = n ∧ K 427 6 = n) := by
  have rb := rkq_b (J 429 2)
  have e0 : ev (d + 6) 207 0 [(2, 427), uU, uU, uU, uU] [] S J = ev (d + 6) 207 11 [(2, 427), uU, uU, uU, uU] [(0, n)] S (up2 (up2 (up2 (up2 (up2 J 427 0 0) 427 4 0) 427 5 0) 427 7 0) 427 6 n) := by
    rw [E207_0 hM, E195_0 hM, up2_miss (by decide), e4, w_small (z := n) (by omega) (by omega), show w 80 = 80 by decide]
    simp only [Option.bind_some, psh_i]
    by_cases g : 80 < n
    · omega
    · rw [if_neg g]
  generalize hG : up2 (up2 (up2 (up2 (up2 J 427 0 0) 427 4 0) 427 5 0) 427 7 0) 427 6 n = G at e0
  have go : ∀ x, x ≠ 427 → G x = J x := fun x hx => by rw [← hG, up2_oth hx, up2_oth hx, up2_oth hx, up2_oth hx, up2_oth hx]
  have gk : ∀ k, k ≠ 0 → k ≠ 4 → k ≠ 5 → k ≠ 6 → k ≠ 7 → G 427 k = J 427 k := fun k h0 h1 h2 h3 h4 => by rw [← hG]; simp (disch := omega) only [up2_miss]
  have g4 : G 427 4 = 0 := by rw [← hG]; simp (disch := omega) only [up2_miss, up2_hit]
  have g5 : G 427 5 = 0 := by rw [← hG]; simp (disch := omega) only [up2_miss, up2_hit]
  have g6 : G 427 6 = n := by rw [← hG]; simp (disch := omega) only [up2_miss, up2_hit]
  have jt : G 429 = J 429 := go 429 (by decide)
  -- memories with another place
  have at' : ∀ v : Int, (∀ x, x ≠ 427 → up2 G 427 5 v x = J x) ∧ (∀ k, k ≠ 0 → k ≠ 4 → k ≠ 5 → k ≠ 6 → k ≠ 7 → up2 G 427 5 v 427 k = J 427 k) ∧ up2 G 427 5 v 427 4 = 0 := fun v => ⟨fun x hx => by rw [up2_oth hx]; exact go x hx, fun k h0 h1 h2 h3 h4 => by rw [up2_miss (by omega)]; exact gk k h0 h1 h2 h3 h4, by rw [up2_miss (by decide)]; exact g4⟩
  have up5 : ∀ v v' : Int, up2 (up2 G 427 5 v) 427 5 v' = up2 G 427 5 v' := fun v v' => by
    funext x y
    unfold up2
    split <;> rfl
  have din : ∀ p : Int, 0 ≤ p → p ≤ n → ev (d + 5) 208 0 [(2, 427), (0, 2), (0, 8)] [] S (up2 G 427 5 p) = if p < n ∧ 2 ≤ J 429 p - 48 ∧ J 429 p - 48 ≤ 8 then some ((0, J 429 p - 48), S, up2 G 427 5 (p + 1)) else some ((0, -1), S, up2 G 427 5 p) := by
    intro p p0 p1
    have := m_din (d := d + 4) (S := S) (J := up2 G 427 5 p) (p := p) (L := n) (lo := 2) (hi := 8) hM (up2_hit rfl rfl) (by rw [up2_miss (by decide)]; exact g6) p0 p1 n1 (by decide) (by decide) (by decide) (by decide) (by rw [up2_oth (by decide), jt]; exact ht)
    rw [up2_oth (by decide), jt, up5] at this
    exact this
  have gG : up2 G 427 5 0 = G := up2_id g5
  rw [← gG] at e0
  rw [E207_11 hM, din 0 (by decide) n0] at e0
  unfold wqS
  by_cases q0 : 0 < n ∧ 50 ≤ J 429 0 ∧ J 429 0 ≤ 56
  · rw [if_neg (fun x => x q0)]
    rw [if_pos (show 0 < n ∧ 2 ≤ J 429 0 - 48 ∧ J 429 0 - 48 ≤ 8 by omega)] at e0
    simp only [Option.bind_some, psh_i] at e0
    rw [E207_19 hM, w_small (z := J 429 0 - 48) (by omega) (by omega), if_neg (by omega), show (0 : Int) + 1 = 1 from rfl, din 1 (by decide) (by omega)] at e0
    by_cases q1 : 1 < n ∧ 50 ≤ J 429 1 ∧ J 429 1 ≤ 56
    · rw [if_neg (fun x => x q1)]
      rw [if_pos (show 1 < n ∧ 2 ≤ J 429 1 - 48 ∧ J 429 1 - 48 ≤ 8 by omega)] at e0
      simp only [Option.bind_some, psh_i] at e0
      have fo := m_of' (d := d + 1) (S := S) (J := up2 G 427 5 (1 + 1)) (p := 2) (L := n) (a := -20) (l := txt 10) hM (up2_hit rfl rfl) (by rw [up2_miss (by decide)]; exact g6) (by decide) (by omega) n1 (by rw [up2_oth (by decide), jt]; exact ht) (by decide) rfl (by decide) (by decide)
      rw [up2_oth (by decide), jt, up5, show ix (txt 10) (J 429 2) (txt 10).length 0 = rkq (J 429 2) from ops10 _] at fo
      rw [E207_35 hM, w_small (z := J 429 1 - 48) (by omega) (by omega), if_neg (by omega), fo] at e0
      by_cases q2 : 2 < n ∧ 0 ≤ rkq (J 429 2)
      · rw [if_neg (fun x => x q2)]
        rw [if_pos q2] at e0
        simp only [Option.bind_some, psh_i] at e0
        have sg := m_sgn (d := d + 4) (S := S) (J := up2 G 427 5 (2 + 1)) (p := 3) (L := n) (c := 115) hM (up2_hit rfl rfl) (by rw [up2_miss (by decide)]; exact g6) (by decide) (by omega) n1 (by decide) (by decide) (by rw [up2_oth (by decide), jt]; exact ht)
        rw [up2_oth (by decide), jt, up5] at sg
        rw [E207_50 hM, w_small (z := rkq (J 429 2)) (by omega) (by omega), if_neg (by omega), sg] at e0
        by_cases q3 : 3 < n
        · by_cases q4 : J 429 3 = 115
          · rw [if_neg (fun x => x.2 q4)]
            rw [if_pos ⟨q3, q4⟩] at e0
            simp only [Option.bind_some, psh_i] at e0
            obtain ⟨a1, a2, a3⟩ := at' (3 + 1)
            by_cases q5 : 4 < n
            · rw [if_pos q5]
              rw [E207_68 hM, up2_hit rfl rfl, up2_miss (by decide), g6, show w (3 + 1) = 4 by decide, w_small (z := n) (by omega) (by omega), if_pos q5] at e0
              exact ⟨_, a1, a2, a3, fun _ => by rw [e0]; rfl, fun x => absurd x (by decide)⟩
            · rw [if_neg q5]
              refine ⟨_, a1, a2, a3, fun x => absurd x (by decide), fun _ => ⟨?_, ?_, ?_⟩⟩
              · rw [e0, if_pos q3]
              · rw [up2_hit rfl rfl]; omega
              · rw [up2_miss (by decide)]; exact g6
          · rw [if_pos ⟨q3, q4⟩]
            rw [if_neg (fun x => q4 x.2)] at e0
            simp only [Option.bind_some, psh_i] at e0
            obtain ⟨a1, a2, a3⟩ := at' (2 + 1)
            rw [E207_68 hM, up2_hit rfl rfl, up2_miss (by decide), g6, show w (2 + 1) = 3 by decide, w_small (z := n) (by omega) (by omega), if_pos q3] at e0
            exact ⟨_, a1, a2, a3, fun _ => by rw [e0]; rfl, fun x => absurd x (by decide)⟩
        · rw [if_neg (show ¬ (3 < n ∧ J 429 3 ≠ 115) from fun x => q3 x.1), if_neg (show ¬ 4 < n by omega)]
          rw [if_neg (fun x => q3 x.1)] at e0
          simp only [Option.bind_some, psh_i] at e0
          obtain ⟨a1, a2, a3⟩ := at' (2 + 1)
          refine ⟨_, a1, a2, a3, fun x => absurd x (by decide), fun _ => ⟨?_, ?_, ?_⟩⟩
          · rw [e0, if_neg q3]
          · rw [up2_hit rfl rfl]; omega
          · rw [up2_miss (by decide)]; exact g6
      · rw [if_pos q2]
        rw [if_neg q2] at e0
        simp only [Option.bind_some, psh_i] at e0
        obtain ⟨a1, a2, a3⟩ := at' (1 + 1)
        rw [E207_50 hM, if_pos (by decide), up2_hit rfl rfl] at e0
        exact ⟨_, a1, a2, a3, fun _ => by rw [e0]; rfl, fun x => absurd x (by decide)⟩
    · rw [if_pos q1]
      rw [if_neg (show ¬ (1 < n ∧ 2 ≤ J 429 1 - 48 ∧ J 429 1 - 48 ≤ 8) by omega)] at e0
      simp only [Option.bind_some, psh_i] at e0
      obtain ⟨a1, a2, a3⟩ := at' 1
      rw [E207_35 hM, if_pos (by decide), E207_50 hM, if_pos (by decide), up2_hit rfl rfl] at e0
      exact ⟨_, a1, a2, a3, fun _ => by rw [e0], fun x => absurd x (by decide)⟩
  · rw [if_pos q0]
    rw [if_neg (show ¬ (0 < n ∧ 2 ≤ J 429 0 - 48 ∧ J 429 0 - 48 ≤ 8) by omega)] at e0
    simp only [Option.bind_some, psh_i] at e0
    obtain ⟨a1, a2, a3⟩ := at' 0
    rw [E207_19 hM, if_pos (by decide), E207_35 hM, if_pos (by decide), E207_50 hM, if_pos (by decide), up2_hit rfl rfl] at e0
    exact ⟨_, a1, a2, a3, fun _ => by rw [e0], fun x => absurd x (by decide)⟩
end rb10
