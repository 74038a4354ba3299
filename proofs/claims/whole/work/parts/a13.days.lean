/-! days: the class looks for a fault -/
section ra13
variable {d : Nat} {S : SS} {I J K G I2 : II} {t u : Int → Int} {L p q r b s c ok v n a k N lo hi m : Int}
theorem actF_0 (e : aSg (t p) = -1) : actF n t p = p := by unfold actF; rw [e, if_pos (by decide)]
theorem actF_x (e : t p = 120) : actF n t p = -1 := by
  unfold actF
  rw [e, show aSg 120 = 0 by decide, if_neg (by decide), if_pos rfl]
theorem actF_1 (e : t p ≠ 120) (h0 : 0 ≤ aSg (t p)) (h1 : aSg (t p) < 4) : actF n t p = if ¬ (p + 1 < n ∧ 48 ≤ t (p + 1) ∧ t (p + 1) ≤ 57) then p + 1 else -1 := by
  unfold actF
  rw [if_neg (by omega), if_neg e, if_pos h1]
theorem actF_c (e : t p = 99) : actF n t p = if ¬ (p + 1 < n ∧ 48 ≤ t (p + 1) ∧ t (p + 1) ≤ 57) then p + 1 else if ¬ (p + 2 < n ∧ 48 ≤ t (p + 2) ∧ t (p + 2) ≤ 57) then p + 2 else if ¬ (p + 3 < n ∧ 48 ≤ t (p + 3) ∧ t (p + 3) ≤ 57) then p + 3 else -1 := by
  unfold actF
  rw [e, show aSg 99 = 4 by decide, if_neg (by decide), if_neg (by decide), if_neg (show ¬ (4 : Int) < 4 by decide), if_pos rfl]
theorem actF_p (e : t p = 112) : actF n t p = if ¬ (p + 1 < n ∧ 48 ≤ t (p + 1) ∧ t (p + 1) ≤ 57) then p + 1 else if ¬ (p + 2 < n ∧ 48 ≤ t (p + 2) ∧ t (p + 2) ≤ 52) then p + 2 else if ¬ (p + 3 < n ∧ 48 ≤ t (p + 3) ∧ t (p + 3) ≤ 57) then p + 3 else if ¬ (p + 4 < n ∧ 48 ≤ t (p + 4) ∧ t (p + 4) ≤ 57) then p + 4 else if ¬ (p + 5 < n ∧ 48 ≤ t (p + 5) ∧ t (p + 5) ≤ 57) then p + 5 else -1 := by
  unfold actF
  rw [e, show aSg 112 = 5 by decide, if_neg (by decide), if_neg (by decide), if_neg (show ¬ (5 : Int) < 4 by decide), if_neg (show ¬ (112 : Int) = 99 by decide)]
theorem c_fd {lm : Nat} (hQ : QA S 0) (h0 : 0 ≤ I 1 1) (h1 : I 1 1 ≤ 80) (ht : ∀ j, 0 ≤ j → j < I 1 1 → 0 ≤ I 2 j ∧ I 2 j < 256) (hT : isT (-10 - a)) (p0 : 0 ≤ p) (p1 : p ≤ 100) (k0 : 0 ≤ k) (k1 : k < ((txt (-10 - a)).length : Int)) (h100 : ((txt (-10 - a)).length : Int) < 100) (hlm : (txt (-10 - a)).getD k.toNat 0 = lm) (hl : lm < 128) :
    ev (d + 4) 156 36 [(2, 0), (0, p), (2, a), (0, k)] [] S I = if p < I 1 1 ∧ 48 ≤ I 2 p ∧ I 2 p ≤ (lm : Int) then ev (d + 4) 156 36 [(2, 0), (0, p + 1), (2, a), (0, k + 1)] [] S I else some ((0, p), S, I) := by
  have ab := att_b (p := p) ht
  rw [E156_36 hT, t_len (d := d + 2) hT h100]
  simp only [Option.bind_some, psh_i]
  rw [E156_41 hQ, w_small (z := k) (by omega) (by omega), w_small (z := ((txt (-10 - a)).length : Int)) (by omega) (by omega), if_pos k1, c_att (TA1 hQ) ⟨by omega, by omega⟩ h0 h1]
  simp only [Option.bind_some, psh_i]
  rw [E156_52 hQ, w_small (z := att (I 1 1) (I 2) p) (by omega) (by omega), c_att (TA1 hQ) ⟨by omega, by omega⟩ h0 h1, E156_73]
  simp only [Option.bind_some, psh_i]
  rw [E156_65 hT, t_at (d := d) hT k0 k1 h100 (by rw [hlm]; exact hl), hlm]
  simp only [Option.bind_some, psh_i]
  rw [E156_70, w_small (z := (lm : Int)) (by omega) (by omega), w_small (z := att (I 1 1) (I 2) p) (by omega) (by omega), E156_73]
  by_cases g : p < I 1 1
  · have e : att (I 1 1) (I 2) p = I 2 p := by unfold att; rw [if_pos ⟨p0, g⟩]
    rw [e]
    by_cases g2 : I 2 p < 48
    · rw [if_pos g2, if_neg (by omega)]
    · rw [if_neg g2]
      by_cases g3 : (lm : Int) < I 2 p
      · rw [if_pos g3, if_neg (by omega)]
      · rw [if_neg g3, if_pos (by omega)]
  · have e : att (I 1 1) (I 2) p = -1 := by unfold att; rw [if_neg (by omega)]
    rw [e, if_pos (by decide), if_neg (by omega)]
theorem c_fe (hQ : QA S 0) (hT : isT (-10 - a)) (hk : k = ((txt (-10 - a)).length : Int)) (h100 : ((txt (-10 - a)).length : Int) < 100) : ev (d + 4) 156 36 [(2, 0), (0, p), (2, a), (0, k)] [] S I = ev (d + 4) 156 2 [(2, 0), (0, p), (2, a), (0, k)] [] S I := by
  rw [E156_36 hT, t_len (d := d + 2) hT h100]
  simp only [Option.bind_some, psh_i]
  rw [E156_41 hQ, hk, if_neg (Int.lt_irrefl _)]
theorem c_act1 {a2 a3 : AV} (hQ : QA S 0) (h0 : 0 ≤ I 1 1) (h1 : I 1 1 ≤ 80) (ht : ∀ j, 0 ≤ j → j < I 1 1 → 0 ≤ I 2 j ∧ I 2 j < 256) (p0 : 0 ≤ p) (p1 : p < I 1 1) :
    ∃ b2 b3, ev (d + 4) 156 2 [(2, 0), (0, p), a2, a3] [] S I = if 0 ≤ actF (I 1 1) (I 2) p then some ((0, actF (I 1 1) (I 2) p), S, I) else ev (d + 4) 156 2 [(2, 0), (0, p + aLn (I 2 p)), b2, b3] [] S I := by
  obtain ⟨t0, t1⟩ := ht p p0 p1
  have st : ev (d + 4) 156 2 [(2, 0), (0, p), a2, a3] [] S I = (ev (d + 3) 157 0 [(0, I 2 p)] [] S I).bind (fun q => ev (d + 4) 156 24 [(2, 0), (0, p), a2, a3] (psh q.1 []) q.2.1 q.2.2) := by
    rw [E156_2 hQ, w_small (z := p) (by omega) (by omega), w_small (z := I 1 1) (by omega) (by omega), if_pos p1, c_at (TA1 hQ) p0 p1 h1]
    simp only [Option.bind_some, psh_i]
    rw [E156_21]
  rw [st, E157_0, w_small (z := I 2 p) (by omega) (by omega)]
  have fd : ∀ (a k p : Int) (lm : Nat), isT (-10 - a) → 0 ≤ p → p ≤ 100 → 0 ≤ k → k < ((txt (-10 - a)).length : Int) → ((txt (-10 - a)).length : Int) < 100 → (txt (-10 - a)).getD k.toNat 0 = lm → lm < 128 → ev (d + 4) 156 36 [(2, 0), (0, p), (2, a), (0, k)] [] S I = if p < I 1 1 ∧ 48 ≤ I 2 p ∧ I 2 p ≤ (lm : Int) then ev (d + 4) 156 36 [(2, 0), (0, p + 1), (2, a), (0, k + 1)] [] S I else some ((0, p), S, I) := fun a k p lm hT x0 x1 x2 x3 x4 x5 x6 => c_fd hQ h0 h1 ht hT x0 x1 x2 x3 x4 x5 x6
  have one : I 2 p ≠ 120 → 0 ≤ aSg (I 2 p) → aSg (I 2 p) < 4 → aLn (I 2 p) = 2 → ev (d + 4) 156 24 [(2, 0), (0, p), a2, a3] [(2, -12)] S I = if 0 ≤ actF (I 1 1) (I 2) p then some ((0, actF (I 1 1) (I 2) p), S, I) else ev (d + 4) 156 2 [(2, 0), (0, p + aLn (I 2 p)), (2, -12), (0, 0 + 1)] [] S I := by
    intro y1 y2 y3 y4
    rw [E156_24 (Or.inr (by decide)), if_neg (by decide), fd (-12) 0 (p + 1) 57 (by decide) (by omega) (by omega) (by decide) (by decide) (by decide) (by decide) (by decide), actF_1 y1 y2 y3, y4]
    by_cases g : p + 1 < I 1 1 ∧ 48 ≤ I 2 (p + 1) ∧ I 2 (p + 1) ≤ 57
    · rw [if_pos (show p + 1 < I 1 1 ∧ 48 ≤ I 2 (p + 1) ∧ I 2 (p + 1) ≤ ((57 : Nat) : Int) from g), if_neg (show ¬ ¬ _ from fun x => x g), if_neg (by decide), c_fe hQ (by decide) (by decide) (by decide), show p + 1 + 1 = p + 2 by omega]
    · rw [if_neg (show ¬ (p + 1 < I 1 1 ∧ 48 ≤ I 2 (p + 1) ∧ I 2 (p + 1) ≤ ((57 : Nat) : Int)) from g), if_pos g, if_pos (by omega)]
  rcases aSg_c (I 2 p) with ⟨e, e1, e2⟩ | ⟨e, e1, e2⟩ | ⟨e, e1, e2⟩ | ⟨e, e1, e2⟩ | ⟨e, e1, e2⟩ | ⟨e, e1, e2⟩ | ⟨g1, g2, g3, g4, g5, g6, e1⟩
  · refine ⟨(2, -14), (0, 0), ?_⟩
    rw [actF_x e, e2, e, if_neg (by decide), if_neg (by decide), if_neg (by decide), if_neg (by decide), if_neg (by decide), if_pos rfl, if_neg (by decide)]
    simp only [Option.bind_some, psh_r]
    rw [E156_24 (Or.inr (by decide)), if_neg (by decide), c_fe hQ (by decide) (by decide) (by decide)]
  · refine ⟨(2, -12), (0, 0 + 1), ?_⟩
    have o := one (by omega) (by omega) (by omega) e2
    rw [e] at o ⊢
    rw [if_neg (by decide), if_neg (by decide), if_neg (by decide), if_pos rfl]
    simp only [Option.bind_some, psh_r]
    exact o
  · refine ⟨(2, -12), (0, 0 + 1), ?_⟩
    have o := one (by omega) (by omega) (by omega) e2
    rw [e] at o ⊢
    rw [if_neg (by decide), if_neg (by decide), if_neg (by decide), if_neg (by decide), if_pos rfl]
    simp only [Option.bind_some, psh_r]
    exact o
  · refine ⟨(2, -12), (0, 0 + 1), ?_⟩
    have o := one (by omega) (by omega) (by omega) e2
    rw [e] at o ⊢
    rw [if_neg (by decide), if_pos rfl]
    simp only [Option.bind_some, psh_r]
    exact o
  · refine ⟨(2, -13), (0, 0 + 1 + 1 + 1), ?_⟩
    rw [actF_c e, e2, e, if_pos rfl]
    simp only [Option.bind_some, psh_r]
    rw [E156_24 (Or.inr (by decide)), if_neg (by decide), fd (-13) 0 (p + 1) 57 (by decide) (by omega) (by omega) (by decide) (by decide) (by decide) (by decide) (by decide)]
    by_cases g : p + 1 < I 1 1 ∧ 48 ≤ I 2 (p + 1) ∧ I 2 (p + 1) ≤ 57
    · rw [if_pos (show p + 1 < I 1 1 ∧ 48 ≤ I 2 (p + 1) ∧ I 2 (p + 1) ≤ ((57 : Nat) : Int) from g), if_neg (show ¬ ¬ (p + 1 < I 1 1 ∧ 48 ≤ I 2 (p + 1) ∧ I 2 (p + 1) ≤ 57) from fun x => x g), fd (-13) (0 + 1) (p + 1 + 1) 57 (by decide) (by omega) (by omega) (by decide) (by decide) (by decide) (by decide) (by decide), show p + 1 + 1 = p + 2 by omega]
      by_cases g2 : p + 2 < I 1 1 ∧ 48 ≤ I 2 (p + 2) ∧ I 2 (p + 2) ≤ 57
      · rw [if_pos (show p + 2 < I 1 1 ∧ 48 ≤ I 2 (p + 2) ∧ I 2 (p + 2) ≤ ((57 : Nat) : Int) from g2), if_neg (show ¬ ¬ (p + 2 < I 1 1 ∧ 48 ≤ I 2 (p + 2) ∧ I 2 (p + 2) ≤ 57) from fun x => x g2), fd (-13) (0 + 1 + 1) (p + 2 + 1) 57 (by decide) (by omega) (by omega) (by decide) (by decide) (by decide) (by decide) (by decide), show p + 2 + 1 = p + 3 by omega]
        by_cases g3 : p + 3 < I 1 1 ∧ 48 ≤ I 2 (p + 3) ∧ I 2 (p + 3) ≤ 57
        · rw [if_pos (show p + 3 < I 1 1 ∧ 48 ≤ I 2 (p + 3) ∧ I 2 (p + 3) ≤ ((57 : Nat) : Int) from g3), if_neg (show ¬ ¬ (p + 3 < I 1 1 ∧ 48 ≤ I 2 (p + 3) ∧ I 2 (p + 3) ≤ 57) from fun x => x g3), if_neg (by decide), c_fe hQ (by decide) (by decide) (by decide), show p + 3 + 1 = p + 4 by omega]
        · rw [if_neg (show ¬ (p + 3 < I 1 1 ∧ 48 ≤ I 2 (p + 3) ∧ I 2 (p + 3) ≤ ((57 : Nat) : Int)) from g3), if_pos g3, if_pos (by omega)]
      · rw [if_neg (show ¬ (p + 2 < I 1 1 ∧ 48 ≤ I 2 (p + 2) ∧ I 2 (p + 2) ≤ ((57 : Nat) : Int)) from g2), if_pos g2, if_pos (by omega)]
    · rw [if_neg (show ¬ (p + 1 < I 1 1 ∧ 48 ≤ I 2 (p + 1) ∧ I 2 (p + 1) ≤ ((57 : Nat) : Int)) from g), if_pos g, if_pos (by omega)]
  · refine ⟨(2, -11), (0, 0 + 1 + 1 + 1 + 1 + 1), ?_⟩
    rw [actF_p e, e2, e, if_neg (by decide), if_neg (by decide), if_pos rfl]
    simp only [Option.bind_some, psh_r]
    rw [E156_24 (Or.inr (by decide)), if_neg (by decide), fd (-11) 0 (p + 1) 57 (by decide) (by omega) (by omega) (by decide) (by decide) (by decide) (by decide) (by decide)]
    by_cases g : p + 1 < I 1 1 ∧ 48 ≤ I 2 (p + 1) ∧ I 2 (p + 1) ≤ 57
    · rw [if_pos (show p + 1 < I 1 1 ∧ 48 ≤ I 2 (p + 1) ∧ I 2 (p + 1) ≤ ((57 : Nat) : Int) from g), if_neg (show ¬ ¬ (p + 1 < I 1 1 ∧ 48 ≤ I 2 (p + 1) ∧ I 2 (p + 1) ≤ 57) from fun x => x g), fd (-11) (0 + 1) (p + 1 + 1) 52 (by decide) (by omega) (by omega) (by decide) (by decide) (by decide) (by decide) (by decide), show p + 1 + 1 = p + 2 by omega]
      by_cases g2 : p + 2 < I 1 1 ∧ 48 ≤ I 2 (p + 2) ∧ I 2 (p + 2) ≤ 52
      · rw [if_pos (show p + 2 < I 1 1 ∧ 48 ≤ I 2 (p + 2) ∧ I 2 (p + 2) ≤ ((52 : Nat) : Int) from g2), if_neg (show ¬ ¬ (p + 2 < I 1 1 ∧ 48 ≤ I 2 (p + 2) ∧ I 2 (p + 2) ≤ 52) from fun x => x g2), fd (-11) (0 + 1 + 1) (p + 2 + 1) 57 (by decide) (by omega) (by omega) (by decide) (by decide) (by decide) (by decide) (by decide), show p + 2 + 1 = p + 3 by omega]
        by_cases g3 : p + 3 < I 1 1 ∧ 48 ≤ I 2 (p + 3) ∧ I 2 (p + 3) ≤ 57
        · rw [if_pos (show p + 3 < I 1 1 ∧ 48 ≤ I 2 (p + 3) ∧ I 2 (p + 3) ≤ ((57 : Nat) : Int) from g3), if_neg (show ¬ ¬ (p + 3 < I 1 1 ∧ 48 ≤ I 2 (p + 3) ∧ I 2 (p + 3) ≤ 57) from fun x => x g3), fd (-11) (0 + 1 + 1 + 1) (p + 3 + 1) 57 (by decide) (by omega) (by omega) (by decide) (by decide) (by decide) (by decide) (by decide), show p + 3 + 1 = p + 4 by omega]
          by_cases g4 : p + 4 < I 1 1 ∧ 48 ≤ I 2 (p + 4) ∧ I 2 (p + 4) ≤ 57
          · rw [if_pos (show p + 4 < I 1 1 ∧ 48 ≤ I 2 (p + 4) ∧ I 2 (p + 4) ≤ ((57 : Nat) : Int) from g4), if_neg (show ¬ ¬ (p + 4 < I 1 1 ∧ 48 ≤ I 2 (p + 4) ∧ I 2 (p + 4) ≤ 57) from fun x => x g4), fd (-11) (0 + 1 + 1 + 1 + 1) (p + 4 + 1) 57 (by decide) (by omega) (by omega) (by decide) (by decide) (by decide) (by decide) (by decide), show p + 4 + 1 = p + 5 by omega]
            by_cases g5 : p + 5 < I 1 1 ∧ 48 ≤ I 2 (p + 5) ∧ I 2 (p + 5) ≤ 57
            · rw [if_pos (show p + 5 < I 1 1 ∧ 48 ≤ I 2 (p + 5) ∧ I 2 (p + 5) ≤ ((57 : Nat) : Int) from g5), if_neg (show ¬ ¬ (p + 5 < I 1 1 ∧ 48 ≤ I 2 (p + 5) ∧ I 2 (p + 5) ≤ 57) from fun x => x g5), if_neg (by decide), c_fe hQ (by decide) (by decide) (by decide), show p + 5 + 1 = p + 6 by omega]
            · rw [if_neg (show ¬ (p + 5 < I 1 1 ∧ 48 ≤ I 2 (p + 5) ∧ I 2 (p + 5) ≤ ((57 : Nat) : Int)) from g5), if_pos g5, if_pos (by omega)]
          · rw [if_neg (show ¬ (p + 4 < I 1 1 ∧ 48 ≤ I 2 (p + 4) ∧ I 2 (p + 4) ≤ ((57 : Nat) : Int)) from g4), if_pos g4, if_pos (by omega)]
        · rw [if_neg (show ¬ (p + 3 < I 1 1 ∧ 48 ≤ I 2 (p + 3) ∧ I 2 (p + 3) ≤ ((57 : Nat) : Int)) from g3), if_pos g3, if_pos (by omega)]
      · rw [if_neg (show ¬ (p + 2 < I 1 1 ∧ 48 ≤ I 2 (p + 2) ∧ I 2 (p + 2) ≤ ((52 : Nat) : Int)) from g2), if_pos g2, if_pos (by omega)]
    · rw [if_neg (show ¬ (p + 1 < I 1 1 ∧ 48 ≤ I 2 (p + 1) ∧ I 2 (p + 1) ≤ ((57 : Nat) : Int)) from g), if_pos g, if_pos (by omega)]
  · refine ⟨a2, a3, ?_⟩
    rw [actF_0 e1, if_neg g5, if_neg g4, if_neg g6, if_neg g2, if_neg g3, if_neg g1, if_pos p0]
    simp only [Option.bind_some, psh_r]
    rw [E156_24 (Or.inl rfl), if_pos rfl]
end ra13
