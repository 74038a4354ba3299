/-! days: the reference reads an act -/
def AMk (J G : II) (k p n : Int) : Prop := G 427 5 = p ∧ G 427 32 = k + 1 ∧ G 427 6 = n ∧ G 429 = J 429 ∧ (∀ x, x ≠ 427 → ¬ (441 ≤ x ∧ x ≤ 445) → G x = J x) ∧ (∀ i, i ≠ 5 → i ≠ 32 → G 427 i = J 427 i) ∧ ∀ x, 441 ≤ x → x ≤ 445 → ∀ j, j ≠ k → G x j = J x j
section ra14
variable {d : Nat} {S : SS} {I J K G I2 : II} {t u : Int → Int} {L p q r b s c ok v n a k N lo hi m x : Int}
theorem AM_5 (h : AMk J G k p n) : AMk J (up2 G 427 5 v) k v n := by
  obtain ⟨h1, h2, h3, h4, h5, h6, h7⟩ := h
  exact ⟨up2_hit rfl rfl, by rw [up2_miss (by decide)]; exact h2, by rw [up2_miss (by decide)]; exact h3, by rw [up2_oth (by decide)]; exact h4, fun x x0 x1 => by rw [up2_oth x0]; exact h5 x x0 x1, fun i i0 i1 => by rw [up2_miss (by omega)]; exact h6 i i0 i1, fun x x0 x1 j j0 => by rw [up2_oth (by omega)]; exact h7 x x0 x1 j j0⟩
theorem AM_a (h : AMk J G k p n) (h0 : 441 ≤ x) (h1 : x ≤ 445) : AMk J (up2 G x k v) k p n := by
  obtain ⟨g1, g2, g3, g4, g5, g6, g7⟩ := h
  exact ⟨by rw [up2_oth (by omega)]; exact g1, by rw [up2_oth (by omega)]; exact g2, by rw [up2_oth (by omega)]; exact g3, by rw [up2_oth (by omega)]; exact g4, fun y y0 y1 => by rw [up2_oth (by omega)]; exact g5 y y0 y1, fun i i0 i1 => by rw [up2_oth (by omega)]; exact g6 i i0 i1, fun y y0 y1 j j0 => by
    by_cases e : y = x
    · subst e; rw [up2_miss (by omega)]; exact g7 y y0 y1 j j0
    · rw [up2_oth e]; exact g7 y y0 y1 j j0⟩
theorem up2_2 {k v v' : Int} : up2 (up2 J a k v) a k v' = up2 J a k v' := by
  funext x y
  unfold up2
  split <;> rfl
theorem m_two (hM : MA S 427) (e5 : J 427 5 = p) (e6 : J 427 6 = L) (p0 : 0 ≤ p) (pL : p ≤ L) (L1 : L ≤ 80) (ht : ∀ j, 0 ≤ j → j < L → 0 ≤ J 429 j ∧ J 429 j < 256) : ev (d + 3) 269 0 [(2, 427), uU, uU] [] S J = if p < L ∧ 48 ≤ J 429 p ∧ J 429 p ≤ 57 then (if p + 1 < L ∧ 48 ≤ J 429 (p + 1) ∧ J 429 (p + 1) ≤ 57 then some ((0, 10 * (J 429 p - 48) + (J 429 (p + 1) - 48)), S, up2 J 427 5 (p + 1 + 1)) else some ((0, -1), S, up2 J 427 5 (p + 1))) else some ((0, -1), S, J) := by
  rw [E269_0 hM, m_num1 hM e5 e6 p0 pL L1 ht]
  by_cases g : p < L ∧ 48 ≤ J 429 p ∧ J 429 p ≤ 57
  · have n2 := m_num1 (d := d) (S := S) (J := up2 J 427 5 (p + 1)) (p := p + 1) (L := L) hM (up2_hit rfl rfl) (by rw [up2_miss (by decide)]; exact e6) (by omega) (by omega) L1 (by rw [up2_oth (by decide)]; exact ht)
    rw [up2_oth (by decide), up2_2] at n2
    rw [if_pos g, if_pos g]
    simp only [Option.bind_some, psh_i]
    rw [E269_5 hM, w_small (z := J 429 p - 48) (by omega) (by omega), if_neg (by omega), n2]
    by_cases g2 : p + 1 < L ∧ 48 ≤ J 429 (p + 1) ∧ J 429 (p + 1) ≤ 57
    · rw [if_pos g2, if_pos g2]
      simp only [Option.bind_some, psh_i]
      rw [E269_19, w_small (z := J 429 (p + 1) - 48) (by omega) (by omega), if_neg (by omega), E269_34]
    · rw [if_neg g2, if_neg g2]
      simp only [Option.bind_some, psh_i]
      rw [E269_19, if_pos (by decide), E269_34]
  · rw [if_neg g, if_neg g]
    simp only [Option.bind_some, psh_i]
    rw [E269_5 hM, if_pos (by decide), E269_19, if_pos (by decide), E269_34]
theorem e82 (hM : MA S 427) (k0 : 0 ≤ k) (k1 : k < 80) (hv : isI (J 442 k)) : ev d 268 82 [(2, 427), (0, k)] [] S J = some ((0, if J 442 k < 0 then 0 else 1), S, J) := by
  rw [E268_82 hM, w_small (z := k) (by omega) (by omega), gdR_pos (by omega), w_small hv.1 hv.2, E268_96 (Or.inl rfl), E268_96 (Or.inr rfl)]
  split <;> rfl
theorem e145 (hM : MA S 427) (k0 : 0 ≤ k) (k1 : k < 80) (hv : isI (J 443 k)) : ev d 268 145 [(2, 427), (0, k)] [] S J = some ((0, if J 443 k < 0 then 0 else 1), S, J) := by
  rw [E268_145 hM, w_small (z := k) (by omega) (by omega), gdR_pos (by omega), w_small hv.1 hv.2, E268_159 (Or.inl rfl), E268_159 (Or.inr rfl)]
  split <;> rfl
theorem m_act1 (hM : MA S 427) (e5 : J 427 5 = p) (e6 : J 427 6 = n) (e32 : J 427 32 = k) (k0 : 0 ≤ k) (k1 : k < 80) (p0 : 0 ≤ p) (pn : p < n) (n1 : n ≤ 80) (et : J 429 = t) (ht : ∀ j, 0 ≤ j → j < n → 0 ≤ t j ∧ t j < 256) :
    ∃ K p', ev (d + 8) 268 0 [(2, 427), uU] [] S J = some ((0, if actF n t p < 0 then 1 else 0), S, K) ∧ p' = (if actF n t p < 0 then p + aLn (t p) else actF n t p) ∧ AMk J K k p' n ∧ (actF n t p < 0 → REC K t k p) := by
  obtain ⟨t0, t1⟩ := ht p p0 pn
  have ht' : ∀ j, 0 ≤ j → j < n → 0 ≤ J 429 j ∧ J 429 j < 256 := by rw [et]; exact ht
  have wk : w k = k := w_small (by omega) (by omega)
  have fo := m_of' (d := d + 3) (S := S) (J := J) (a := -21) (l := txt 11) hM e5 e6 p0 (by omega) n1 ht' (by decide) rfl (by decide) (by decide)
  rw [et, show ix (txt 11) (t p) (txt 11).length 0 = aSg (t p) from rfl] at fo
  have sgb : -1 ≤ aSg (t p) ∧ aSg (t p) ≤ 5 := by
    rcases aSg_c (t p) with ⟨_, e1, _⟩ | ⟨_, e1, _⟩ | ⟨_, e1, _⟩ | ⟨_, e1, _⟩ | ⟨_, e1, _⟩ | ⟨_, e1, _⟩ | ⟨_, _, _, _, _, _, e1⟩ <;> omega
  rw [E268_0 hM, e32, fo]
  by_cases gs : aSg (t p) < 0
  · have ef : actF n t p = p := actF_0 (by omega)
    rw [if_neg (fun x => by omega)]
    simp only [Option.bind_some, psh_i]
    rw [E268_17s hM, wk, gdR_pos (by omega), gdR_pos (by omega), e32]
    generalize hG : up2 (up2 J 441 k (-1)) 427 32 (k + 1) = G
    have g41 : G 441 k = -1 := by rw [← hG, up2_oth (by decide)]; exact up2_hit rfl rfl
    rw [g41, if_neg (by decide), gdR_pos (by omega), if_neg (by decide), E268_51 (Or.inl rfl), ef, if_neg (by omega), if_neg (by omega)]
    refine ⟨G, _, rfl, rfl, ?_, fun x => by omega⟩
    rw [← hG]
    exact ⟨by rw [up2_miss (by decide), up2_oth (by decide)]; exact e5, up2_hit rfl rfl, by rw [up2_miss (by decide), up2_oth (by decide)]; exact e6, by rw [up2_oth (by decide), up2_oth (by decide)], fun x x0 x1 => by rw [up2_oth x0, up2_oth (by omega)], fun i i0 i1 => by rw [up2_miss (by omega), up2_oth (by decide)], fun x x0 x1 j j0 => by rw [up2_oth (by omega), up2_miss (by omega)]⟩
  rw [if_pos ⟨pn, by omega⟩]
  simp only [Option.bind_some, psh_i]
  rw [E268_17s hM, wk, gdR_pos (by omega), gdR_pos (by omega), up2_miss (I := J) (by decide), e32]
  generalize hG : up2 (up2 (up2 J 427 5 (p + 1)) 441 k (aSg (t p))) 427 32 (k + 1) = G
  have gA : AMk J G k (p + 1) n := by
    rw [← hG]
    exact ⟨by rw [up2_miss (by decide), up2_oth (by decide)]; exact up2_hit rfl rfl, up2_hit rfl rfl, by rw [up2_miss (by decide), up2_oth (by decide), up2_miss (by decide)]; exact e6, by rw [up2_oth (by decide), up2_oth (by decide), up2_oth (by decide)], fun x x0 x1 => by rw [up2_oth x0, up2_oth (by omega), up2_oth x0], fun i i0 i1 => by rw [up2_miss (by omega), up2_oth (by decide), up2_miss (by omega)], fun x x0 x1 j j0 => by rw [up2_oth (by omega), up2_miss (by omega), up2_oth (by omega)]⟩
  have g41 : G 441 k = aSg (t p) := by rw [← hG, up2_oth (by decide)]; exact up2_hit rfl rfl
  have gt : G 429 = t := by rw [gA.2.2.2.1]; exact et
  rw [g41, w_small (z := aSg (t p)) (by omega) (by omega)]
  by_cases g0 : aSg (t p) = 0
  · have e120 : t p = 120 ∧ aLn (t p) = 1 := by
      rcases aSg_c (t p) with ⟨x, e1, e2⟩ | ⟨_, e1, _⟩ | ⟨_, e1, _⟩ | ⟨_, e1, _⟩ | ⟨_, e1, _⟩ | ⟨_, e1, _⟩ | ⟨_, _, _, _, _, _, e1⟩
      · exact ⟨x, e2⟩
      all_goals omega
    have ef : actF n t p = -1 := actF_x e120.1
    rw [g0, if_neg (by decide), gdR_pos (by omega), if_pos rfl, E268_51 (Or.inr rfl), ef, if_pos (by decide), if_pos (by decide), e120.2]
    exact ⟨G, _, rfl, rfl, gA, fun _ => ⟨g41, fun x => by omega, fun x => by omega, fun x => by omega⟩⟩
  have n120 : t p ≠ 120 := by
    intro e
    rw [e] at g0
    exact g0 (by decide)
  rw [if_pos (by omega)]
  have num := m_num1 (d := d + 5) (S := S) (J := G) (p := p + 1) (L := n) hM gA.1 gA.2.2.1 (by omega) (by omega) n1 (by rw [gt]; exact ht)
  rw [gt] at num
  rw [num]
  by_cases g1x : ¬ (p + 1 < n ∧ 48 ≤ t (p + 1) ∧ t (p + 1) ≤ 57)
  · have g1 := g1x
    -- no digit
    have ef : actF n t p = p + 1 := by
      rcases aSg_c (t p) with ⟨x, e1, e2⟩ | ⟨x, e1, _⟩ | ⟨x, e1, _⟩ | ⟨x, e1, _⟩ | ⟨x, e1, _⟩ | ⟨x, e1, _⟩ | ⟨_, _, _, _, _, _, e1⟩
      · omega
      · rw [actF_1 n120 (by omega) (by omega), if_pos g1]
      · rw [actF_1 n120 (by omega) (by omega), if_pos g1]
      · rw [actF_1 n120 (by omega) (by omega), if_pos g1]
      · rw [actF_c x, if_pos g1]
      · rw [actF_p x, if_pos g1]
      · omega
    rw [if_neg g1]
    simp only [Option.bind_some, psh_i]
    rw [E268_62s hM, wk, gdR_pos (by omega), gdR_pos (by omega), up2_hit rfl rfl, if_pos (by decide), e82 hM k0 k1 (by rw [up2_hit rfl rfl]; exact ⟨by decide, by decide⟩), up2_hit rfl rfl, if_pos (by decide), ef, if_neg (by omega), if_neg (by omega)]
    exact ⟨_, _, rfl, rfl, AM_a gA (by decide) (by decide), fun x => by omega⟩
  have g1 := Classical.not_not.mp g1x
  rw [if_pos g1]
  simp only [Option.bind_some, psh_i]
  have o1 : isI (t (p + 1) - 48) := ⟨by omega, by omega⟩
  generalize hH : up2 (up2 G 427 5 (p + 1 + 1)) 442 k (t (p + 1) - 48) = H
  have hA : AMk J H k (p + 1 + 1) n := by rw [← hH]; exact AM_a (AM_5 gA) (by decide) (by decide)
  have h42 : H 442 k = t (p + 1) - 48 := by rw [← hH]; exact up2_hit rfl rfl
  have h41 : H 441 k = aSg (t p) := by rw [← hH, up2_oth (by decide), up2_oth (by decide)]; exact g41
  have htt : H 429 = t := by rw [hA.2.2.2.1]; exact et
  have g541 : up2 G 427 5 (p + 1 + 1) 441 k = aSg (t p) := by rw [up2_oth (by decide)]; exact g41
  rw [E268_62s hM, wk, gdR_pos (by omega), gdR_pos (by omega), hH, h42, w_small o1.1 o1.2, if_neg (by omega), gdR_pos (by omega), g541, w_small (z := aSg (t p)) (by omega) (by omega), e82 hM k0 k1 (by rw [h42]; exact o1), h42, if_neg (show ¬ t (p + 1) - 48 < 0 by omega)]
  by_cases g4 : aSg (t p) < 4
  · have el : aLn (t p) = 2 := by
      rcases aSg_c (t p) with ⟨x, e1, e2⟩ | ⟨x, e1, e2⟩ | ⟨x, e1, e2⟩ | ⟨x, e1, e2⟩ | ⟨x, e1, _⟩ | ⟨x, e1, _⟩ | ⟨_, _, _, _, _, _, e1⟩
      · omega
      · exact e2
      · exact e2
      · exact e2
      all_goals omega
    have ef : actF n t p = -1 := by rw [actF_1 n120 (by omega) g4, if_neg (fun x => x g1)]
    rw [if_pos g4, ef, if_pos (by decide), if_pos (by decide), el]
    exact ⟨H, _, rfl, rfl, by rw [show p + 2 = p + 1 + 1 by omega]; exact hA, fun _ => ⟨h41, fun _ => h42, fun x => by omega, fun x => by omega⟩⟩
  rw [if_neg g4, gdR_pos (by omega)]
  by_cases g5 : aSg (t p) = 4
  · have el : t p = 99 ∧ aLn (t p) = 4 := by
      rcases aSg_c (t p) with ⟨x, e1, e2⟩ | ⟨x, e1, e2⟩ | ⟨x, e1, e2⟩ | ⟨x, e1, e2⟩ | ⟨x, e1, e2⟩ | ⟨x, e1, _⟩ | ⟨_, _, _, _, _, _, e1⟩
      · omega
      · omega
      · omega
      · omega
      · exact ⟨x, e2⟩
      all_goals omega
    have ef := actF_c (n := n) el.1
    rw [if_neg (fun x => x g1)] at ef
    have tw := m_two (d := d + 4) (S := S) (J := H) (p := p + 1 + 1) (L := n) hM hA.1 hA.2.2.1 (by omega) (by omega) n1 (by rw [htt]; exact ht)
    rw [htt] at tw
    rw [if_pos g5, tw, show p + 1 + 1 = p + 2 by omega, show p + 2 + 1 = p + 3 by omega]
    by_cases g6 : p + 2 < n ∧ 48 ≤ t (p + 2) ∧ t (p + 2) ≤ 57
    · rw [if_neg (fun x => x g6)] at ef
      rw [if_pos g6]
      by_cases g7 : p + 3 < n ∧ 48 ≤ t (p + 3) ∧ t (p + 3) ≤ 57
      · rw [if_neg (fun x => x g7)] at ef
        rw [if_pos g7]
        simp only [Option.bind_some, psh_i]
        rw [E268_116, E268_125s hM, wk, gdR_pos (by omega), gdR_pos (by omega)]
        generalize hZ : up2 (up2 H 427 5 (p + 3 + 1)) 443 k (10 * (t (p + 2) - 48) + (t (p + 3) - 48)) = Z
        have zA : AMk J Z k (p + 3 + 1) n := by rw [← hZ]; exact AM_a (AM_5 hA) (by decide) (by decide)
        have z43 : Z 443 k = 10 * (t (p + 2) - 48) + (t (p + 3) - 48) := by rw [← hZ]; exact up2_hit rfl rfl
        have z42 : Z 442 k = t (p + 1) - 48 := by rw [← hZ, up2_oth (by decide), up2_oth (by decide)]; exact h42
        have z41 : Z 441 k = aSg (t p) := by rw [← hZ, up2_oth (by decide), up2_oth (by decide)]; exact h41
        have h541 : up2 H 427 5 (p + 3 + 1) 441 k = aSg (t p) := by rw [up2_oth (by decide)]; exact h41
        rw [z43, w_small (z := 10 * (t (p + 2) - 48) + (t (p + 3) - 48)) (by omega) (by omega), if_neg (by omega), gdR_pos (by omega), h541, w_small (z := aSg (t p)) (by omega) (by omega), if_pos g5, e145 hM k0 k1 (by rw [z43]; exact ⟨by omega, by omega⟩), z43, if_neg (by omega), ef, if_pos (by decide), if_pos (by decide), el.2]
        exact ⟨Z, _, rfl, rfl, by rw [show p + 4 = p + 3 + 1 by omega]; exact zA, fun _ => ⟨z41, fun _ => z42, fun _ => z43, fun x => by omega⟩⟩
      · rw [if_pos g7] at ef
        rw [if_neg g7]
        simp only [Option.bind_some, psh_i]
        rw [E268_116, E268_125s hM, wk, gdR_pos (by omega), gdR_pos (by omega), up2_hit rfl rfl, if_pos (by decide), e145 hM k0 k1 (by rw [up2_hit rfl rfl]; exact ⟨by decide, by decide⟩), up2_hit rfl rfl, if_pos (by decide), ef, if_neg (by omega), if_neg (by omega)]
        exact ⟨_, _, rfl, rfl, AM_a (AM_5 hA) (by decide) (by decide), fun x => by omega⟩
    · rw [if_pos g6] at ef
      rw [if_neg g6]
      simp only [Option.bind_some, psh_i]
      rw [E268_116, E268_125s hM, wk, gdR_pos (by omega), gdR_pos (by omega), up2_hit rfl rfl, if_pos (by decide), e145 hM k0 k1 (by rw [up2_hit rfl rfl]; exact ⟨by decide, by decide⟩), up2_hit rfl rfl, if_pos (by decide), ef, if_neg (by omega), if_neg (by omega)]
      exact ⟨_, _, rfl, rfl, by rw [show p + 2 = p + 1 + 1 by omega]; exact AM_a hA (by decide) (by decide), fun x => by omega⟩
  -- p
  have el : t p = 112 ∧ aLn (t p) = 6 ∧ aSg (t p) = 5 := by
    rcases aSg_c (t p) with ⟨x, e1, e2⟩ | ⟨x, e1, e2⟩ | ⟨x, e1, e2⟩ | ⟨x, e1, e2⟩ | ⟨x, e1, e2⟩ | ⟨x, e1, e2⟩ | ⟨_, _, _, _, _, _, e1⟩
    · omega
    · omega
    · omega
    · omega
    · omega
    · exact ⟨x, e2, e1⟩
    · omega
  have ef := actF_p (n := n) el.1
  rw [if_neg (fun x => x g1)] at ef
  have dn := m_din (d := d + 6) (S := S) (J := H) (p := p + 1 + 1) (L := n) (lo := 0) (hi := 4) hM hA.1 hA.2.2.1 (by omega) (by omega) n1 (by decide) (by decide) (by decide) (by decide) (by rw [htt]; exact ht)
  rw [htt] at dn
  rw [if_neg g5, dn, show p + 1 + 1 = p + 2 by omega, show p + 2 + 1 = p + 3 by omega]
  by_cases g6x : ¬ (p + 2 < n ∧ 48 ≤ t (p + 2) ∧ t (p + 2) ≤ 52)
  · have g6 := g6x
    rw [if_pos g6] at ef
    rw [if_neg (show ¬ (p + 2 < n ∧ 0 ≤ t (p + 2) - 48 ∧ t (p + 2) - 48 ≤ 4) by omega)]
    simp only [Option.bind_some, psh_i]
    rw [E268_125s hM, wk, gdR_pos (by omega), gdR_pos (by omega), up2_hit rfl rfl, if_pos (by decide), e145 hM k0 k1 (by rw [up2_hit rfl rfl]; exact ⟨by decide, by decide⟩), up2_hit rfl rfl, if_pos (by decide), ef, if_neg (by omega), if_neg (by omega)]
    exact ⟨_, _, rfl, rfl, by rw [show p + 2 = p + 1 + 1 by omega]; exact AM_a hA (by decide) (by decide), fun x => by omega⟩
  have g6 := Classical.not_not.mp g6x
  rw [if_neg (fun x => x g6)] at ef
  rw [if_pos (show p + 2 < n ∧ 0 ≤ t (p + 2) - 48 ∧ t (p + 2) - 48 ≤ 4 by omega)]
  simp only [Option.bind_some, psh_i]
  rw [E268_125s hM, wk, gdR_pos (by omega), gdR_pos (by omega)]
  generalize hZ : up2 (up2 H 427 5 (p + 3)) 443 k (t (p + 2) - 48) = Z
  have zA : AMk J Z k (p + 3) n := by rw [← hZ]; exact AM_a (AM_5 hA) (by decide) (by decide)
  have z43 : Z 443 k = t (p + 2) - 48 := by rw [← hZ]; exact up2_hit rfl rfl
  have z42 : Z 442 k = t (p + 1) - 48 := by rw [← hZ, up2_oth (by decide), up2_oth (by decide)]; exact h42
  have z41 : Z 441 k = aSg (t p) := by rw [← hZ, up2_oth (by decide), up2_oth (by decide)]; exact h41
  have h541 : up2 H 427 5 (p + 3) 441 k = aSg (t p) := by rw [up2_oth (by decide)]; exact h41
  have zt : Z 429 = t := by rw [zA.2.2.2.1]; exact et
  have n3 := m_num1 (d := d + 5) (S := S) (J := Z) (p := p + 3) (L := n) hM zA.1 zA.2.2.1 (by omega) (by omega) n1 (by rw [zt]; exact ht)
  rw [zt] at n3
  rw [z43, w_small (z := t (p + 2) - 48) (by omega) (by omega), if_neg (by omega), gdR_pos (by omega), h541, w_small (z := aSg (t p)) (by omega) (by omega), if_neg g5, n3]
  by_cases g7x : ¬ (p + 3 < n ∧ 48 ≤ t (p + 3) ∧ t (p + 3) ≤ 57)
  · have g7 := g7x
    rw [if_pos g7] at ef
    rw [if_neg g7]
    simp only [Option.bind_some, psh_i]
    rw [E268_170s hM, wk, gdR_pos (by omega), gdR_pos (by omega), up2_hit rfl rfl, if_pos (by decide), E268_193s hM, wk, gdR_pos (by omega), gdR_pos (by omega), up2_hit rfl rfl, if_pos (by decide), E268_208 (Or.inl rfl), ef, if_neg (by omega), if_neg (by omega)]
    exact ⟨_, _, rfl, rfl, AM_a (AM_a zA (by decide) (by decide)) (by decide) (by decide), fun x => by omega⟩
  have g7 := Classical.not_not.mp g7x
  rw [if_neg (fun x => x g7)] at ef
  rw [if_pos g7]
  simp only [Option.bind_some, psh_i]
  rw [E268_170s hM, wk, gdR_pos (by omega), gdR_pos (by omega), show p + 3 + 1 = p + 4 by omega]
  generalize hY : up2 (up2 Z 427 5 (p + 4)) 444 k (t (p + 3) - 48) = Y
  have yA : AMk J Y k (p + 4) n := by rw [← hY]; exact AM_a (AM_5 zA) (by decide) (by decide)
  have y44 : Y 444 k = t (p + 3) - 48 := by rw [← hY]; exact up2_hit rfl rfl
  have y43 : Y 443 k = t (p + 2) - 48 := by rw [← hY, up2_oth (by decide), up2_oth (by decide)]; exact z43
  have y42 : Y 442 k = t (p + 1) - 48 := by rw [← hY, up2_oth (by decide), up2_oth (by decide)]; exact z42
  have y41 : Y 441 k = aSg (t p) := by rw [← hY, up2_oth (by decide), up2_oth (by decide)]; exact z41
  have yt : Y 429 = t := by rw [yA.2.2.2.1]; exact et
  have tw := m_two (d := d + 4) (S := S) (J := Y) (p := p + 4) (L := n) hM yA.1 yA.2.2.1 (by omega) (by omega) n1 (by rw [yt]; exact ht)
  rw [yt] at tw
  rw [y44, w_small (z := t (p + 3) - 48) (by omega) (by omega), if_neg (by omega), tw, show p + 4 + 1 = p + 5 by omega]
  by_cases g8x : ¬ (p + 4 < n ∧ 48 ≤ t (p + 4) ∧ t (p + 4) ≤ 57)
  · have g8 := g8x
    rw [if_pos g8] at ef
    rw [if_neg g8]
    simp only [Option.bind_some, psh_i]
    rw [E268_193s hM, wk, gdR_pos (by omega), gdR_pos (by omega), up2_hit rfl rfl, if_pos (by decide), E268_208 (Or.inl rfl), ef, if_neg (by omega), if_neg (by omega)]
    exact ⟨_, _, rfl, rfl, AM_a yA (by decide) (by decide), fun x => by omega⟩
  have g8 := Classical.not_not.mp g8x
  rw [if_neg (fun x => x g8)] at ef
  rw [if_pos g8]
  by_cases g9x : ¬ (p + 5 < n ∧ 48 ≤ t (p + 5) ∧ t (p + 5) ≤ 57)
  · have g9 := g9x
    rw [if_pos g9] at ef
    rw [if_neg g9]
    simp only [Option.bind_some, psh_i]
    rw [E268_193s hM, wk, gdR_pos (by omega), gdR_pos (by omega), up2_hit rfl rfl, if_pos (by decide), E268_208 (Or.inl rfl), ef, if_neg (by omega), if_neg (by omega)]
    exact ⟨_, _, rfl, rfl, AM_a (AM_5 yA) (by decide) (by decide), fun x => by omega⟩
  have g9 := Classical.not_not.mp g9x
  rw [if_neg (fun x => x g9)] at ef
  rw [if_pos g9]
  simp only [Option.bind_some, psh_i]
  rw [E268_193s hM, wk, gdR_pos (by omega), gdR_pos (by omega), up2_hit rfl rfl, w_small (z := 10 * (t (p + 4) - 48) + (t (p + 5) - 48)) (by omega) (by omega), if_neg (by omega), E268_208 (Or.inr rfl), ef, if_pos (by decide), if_pos (by decide), el.2.1]
  refine ⟨_, _, rfl, rfl, by rw [show p + 6 = p + 5 + 1 by omega]; exact AM_a (AM_5 yA) (by decide) (by decide), fun _ => ⟨?_, fun _ => ?_, fun x => by omega, fun _ => ⟨?_, ?_, up2_hit rfl rfl⟩⟩⟩
  · rw [up2_oth (by decide), up2_oth (by decide)]; exact y41
  · rw [up2_oth (by decide), up2_oth (by decide)]; exact y42
  · rw [up2_oth (by decide), up2_oth (by decide)]; exact y43
  · rw [up2_oth (by decide), up2_oth (by decide)]; exact y44
end ra14
