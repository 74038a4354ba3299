/-! the class reads a rule: its steps */ -/
section ra04
variable {d : Nat} {S : SS} {I J G : II} {t : Int → Int} {L p p' q r b s c ok u v n a k : Int} {σ σ' σ'' : PSt} {cs o h : List Int}
theorem c_emit (hU : UA S u) (h0 : 0 ≤ I u 1) (h1 : I u 1 < 40) : ev d 119 0 [(2, u), (0, v)] [] S I = some (uU, S, up2 (up2 I (u + 1) (I u 1) v) u 1 (I u 1 + 1)) := by
  rw [E119_0 hU, w_small (z := I u 1) (by omega) (by omega), if_neg (by omega), if_pos h1, gdR_pos (by omega), E119_36]
theorem c_hldU (hU : UA S u) (h0 : 0 ≤ I u 3) (h1 : I u 3 < 40) : ev d 121 0 [(2, u), (0, v)] [] S I = some (uU, S, up2 (up2 I (u + 2) (I u 3) v) u 3 (I u 3 + 1)) := by
  rw [E121_0 hU, w_small (z := I u 3) (by omega) (by omega), if_neg (by omega), if_pos h1, gdR_pos (by omega), E121_36]
theorem c_stg (c0 : 0 ≤ c) (c1 : c ≤ 256) : ev d 124 0 [(0, c)] [] S I = some ((0, stg c), S, I) := by
  rw [E124_0, w_small (z := c) (by omega) (by omega)]
  unfold stg
  by_cases g1 : c = 42
  · rw [if_pos g1, if_pos g1]
  by_cases g2 : c = 43
  · rw [if_neg g1, if_neg g1, if_pos g2, if_pos g2]
  by_cases g3 : c = 45
  · rw [if_neg g1, if_neg g1, if_neg g2, if_neg g2, if_pos g3, if_pos g3]
  by_cases g4 : c = 47
  · rw [if_neg g1, if_neg g1, if_neg g2, if_neg g2, if_neg g3, if_neg g3, if_pos g4, if_pos g4]
  by_cases g5 : c = 60
  · rw [if_neg g1, if_neg g1, if_neg g2, if_neg g2, if_neg g3, if_neg g3, if_neg g4, if_neg g4, if_pos g5, if_pos g5]
  by_cases g6 : c = 61
  · rw [if_neg g1, if_neg g1, if_neg g2, if_neg g2, if_neg g3, if_neg g3, if_neg g4, if_neg g4, if_neg g5, if_neg g5, if_pos g6, if_pos g6]
  by_cases g7 : c = 62
  · rw [if_neg g1, if_neg g1, if_neg g2, if_neg g2, if_neg g3, if_neg g3, if_neg g4, if_neg g4, if_neg g5, if_neg g5, if_neg g6, if_neg g6, if_pos g7, if_pos g7]
  rw [if_neg g1, if_neg g1, if_neg g2, if_neg g2, if_neg g3, if_neg g3, if_neg g4, if_neg g4, if_neg g5, if_neg g5, if_neg g6, if_neg g6, if_neg g7, if_neg g7]
  by_cases g8 : c = 256
  · rw [if_pos g8, if_pos g8]
  · rw [if_neg g8, if_neg g8]
theorem c_rel (hu : 0 ≤ u) (hU : UA S u) (s0 : 0 ≤ s) (s1 : s ≤ 4) : ∀ (h o : List Int) (I : II), I u 1 = (o.length : Int) → SK (I (u + 1)) o → I u 3 = (h.length : Int) → SK (I (u + 2)) h → (o.length : Int) + (h.length : Int) ≤ 40 → (∀ c ∈ h, 0 ≤ c ∧ c ≤ 256) →
    ∃ J, ev (d + 2) 126 0 [(2, u), (0, s)] [] S I = some (uU, S, J) ∧ J u 1 = ((rls s o h).1.length : Int) ∧ SK (J (u + 1)) (rls s o h).1 ∧ J u 3 = ((rls s o h).2.length : Int) ∧ SK (J (u + 2)) (rls s o h).2 ∧ (∀ k, k ≠ 1 → k ≠ 3 → J u k = I u k) ∧ ∀ x, x ≠ u → x ≠ u + 1 → J x = I x := by
  intro h
  induction h with
  | nil =>
    intro o I e1 e2 e3 e4 hl hc
    refine ⟨I, ?_, e1, e2, e3, e4, fun _ _ _ => rfl, fun _ _ _ => rfl⟩
    rw [E126_0 hU, e3, if_neg (by decide), E126_64]
  | cons c h ih =>
    intro o I e1 e2 e3 e4 hl hc
    obtain ⟨c0, c1⟩ := hc c List.mem_cons_self
    rw [List.length_cons, Int.natCast_add, Int.natCast_one] at e3 hl
    have ec : I (u + 2) (h.length : Int) = c := e4.1
    have sb := stg_b c
    rw [E126_0 hU, e3, w_small (z := (h.length : Int) + 1) (by omega) (by omega), if_pos (by omega), if_neg (by omega), w_small (z := (h.length : Int) + 1 - 1) (by omega) (by omega), gdR_pos (by omega), show (h.length : Int) + 1 - 1 = (h.length : Int) by omega, ec, c_stg c0 c1]
    simp only [Option.bind_some, psh_i]
    rw [E126_30 hU, w_small (z := stg c) (by omega) (by omega), w_small (z := s) (by omega) (by omega), e3, w_small (z := (h.length : Int) + 1 - 1) (by omega) (by omega), show (h.length : Int) + 1 - 1 = (h.length : Int) by omega, ec]
    unfold rls
    by_cases g : s ≤ stg c
    · rw [if_neg (by omega), gdR_pos (by omega), if_pos g]
      have m1 : up2 I u 3 (h.length : Int) u 1 = (o.length : Int) := by rw [up2_miss (by omega)]; exact e1
      rw [c_emit hU (by rw [m1]; omega) (by rw [m1]; omega), m1]
      simp only [Option.bind_some, psh_u]
      rw [E126_61]
      generalize hG : up2 (up2 (up2 I u 3 (h.length : Int)) (u + 1) (o.length : Int) (2000 + c)) u 1 ((o.length : Int) + 1) = G
      obtain ⟨J, j1, j2, j3, j4, j5, j6, j7⟩ := ih ((2000 + c) :: o) G (by rw [← hG, up2_hit rfl rfl, List.length_cons]; omega) (by
        rw [← hG, up2_oth (by omega), up2_row, up2_oth (by omega)]
        exact ⟨updR_hit rfl, SK_upd (Int.le_refl _) e2⟩) (by rw [← hG]; simp (disch := omega) only [up2_miss, up2_hit]) (by
        rw [← hG, up2_oth (by omega), up2_oth (by omega), up2_oth (by omega)]; exact e4.2) (by rw [List.length_cons]; omega) (fun x hx => hc x (List.mem_cons_of_mem _ hx))
      exact ⟨J, j1, j2, j3, j4, j5, fun k k1 k3 => by rw [j6 k k1 k3, ← hG]; simp (disch := omega) only [up2_miss], fun x x0 x1 => by rw [j7 x x0 x1, ← hG, up2_oth x0, up2_oth x1, up2_oth x0]⟩
    · rw [if_pos (by omega), if_neg g, E126_64]
      exact ⟨I, rfl, e1, e2, by rw [e3, List.length_cons]; omega, e4, fun _ _ _ => rfl, fun _ _ _ => rfl⟩
theorem URu_mk {O H : List Int} {B D A : Int} {C : Int → Int} (h1 : I u 1 = (O.length : Int)) (h2 : SK (I (u + 1)) O) (h3 : I u 3 = (H.length : Int)) (h4 : SK (I (u + 2)) H) (h5 : I u 5 = B) (h6 : I u 6 = D) (h7 : ∀ j, 0 ≤ j → j ≤ 4 → I (u + 3) j = C j) (h8 : I u 7 = A) : URu I u (O, H, B, D, C, A) := ⟨h1, h2, h3, h4, h5, h6, h7, h8⟩
/-- one sign -/
theorem c_takes (hu : 0 ≤ u) (hU : UA S u) (hR : URu I u σ) (hi : INV p σ) (hp : p < 40) (c0 : 0 ≤ c) (c1 : c < 256) : ∃ J, ev (d + 7) 117 0 [(2, u), (0, c)] [] S I = some ((0, if (spt σ c).isSome = true then 1 else 0), S, J) ∧ (∀ σ', spt σ c = some σ' → URu J u σ') ∧ ∀ x, (x < u ∨ u + 5 < x) → J x = I x := by
  obtain ⟨u1, u2, u3, u4, u5, u6, u7, u8⟩ := hR
  obtain ⟨i1, i2, i3, i4, i5, i6, i7, i8, i9, i10⟩ := hi
  have sb := stg_b c
  have wA : w (zA σ) = zA σ := w_small (by omega) (by omega)
  have wB : w (zB σ) = zB σ := w_small (by omega) (by omega)
  have wD : w (zD σ) = zD σ := w_small (by omega) (by omega)
  have wc : w c = c := w_small (by omega) (by omega)
  have wO : w ((zO σ).length : Int) = ((zO σ).length : Int) := w_small (by omega) (by omega)
  have bad : ∀ (J : II) (X : Option (AV × SS × II)), spt σ c = none → X = some ((0, 0), S, J) → (∀ x, (x < u ∨ u + 5 < x) → J x = I x) → ∃ J, X = some ((0, if (spt σ c).isSome = true then 1 else 0), S, J) ∧ (∀ σ', spt σ c = some σ' → URu J u σ') ∧ ∀ x, (x < u ∨ u + 5 < x) → J x = I x := by
    intro J X e1 e2 e3
    rw [e1]
    exact ⟨J, e2, (fun σ' h => by cases h), e3⟩
  have good : ∀ (J : II) (X : Option (AV × SS × II)) (σ1 : PSt), spt σ c = some σ1 → X = some ((0, 1), S, J) → URu J u σ1 → (∀ x, (x < u ∨ u + 5 < x) → J x = I x) → ∃ J, X = some ((0, if (spt σ c).isSome = true then 1 else 0), S, J) ∧ (∀ σ', spt σ c = some σ' → URu J u σ') ∧ ∀ x, (x < u ∨ u + 5 < x) → J x = I x := by
    intro J X σ1 e1 e2 e3 e4
    rw [e1]
    exact ⟨J, e2, (fun σ' h => by cases h; exact e3), e4⟩
  by_cases dg : 48 ≤ c ∧ c ≤ 57
  · rw [E117_0 hU, wc, if_neg (by omega), if_neg (by omega), E118_0 hU, u8, wA]
    by_cases ga : zA σ = 1
    · have e := spt_dig (c := c) ga dg
      rw [if_neg (by omega), c_emit hU (by omega) (by omega), u1]
      simp only [Option.bind_some, psh_u]
      rw [E118_12 hU]
      simp only [Option.bind_some, psh_i]
      rw [E117_20 (Or.inr rfl)]
      generalize hG : up2 (up2 (up2 (up2 I (u + 1) ((zO σ).length : Int) (c - 48)) u 1 (((zO σ).length : Int) + 1)) u 6 1) u 7 0 = G
      refine good G _ _ e rfl (URu_mk ?_ ?_ ?_ ?_ ?_ ?_ ?_ ?_) (fun x hx => by rw [← hG, up2_oth (by omega), up2_oth (by omega), up2_oth (by omega), up2_oth (by omega)])
      · rw [← hG, List.length_cons]; simp (disch := omega) only [up2_miss, up2_hit]; omega
      · rw [← hG, up2_oth (by omega), up2_oth (by omega), up2_oth (by omega), up2_row]; exact ⟨updR_hit rfl, SK_upd (Int.le_refl _) u2⟩
      · rw [← hG]; simp (disch := omega) only [up2_miss]; exact u3
      · rw [← hG, up2_oth (by omega), up2_oth (by omega), up2_oth (by omega), up2_oth (by omega)]; exact u4
      · rw [← hG]; simp (disch := omega) only [up2_miss]; exact u5
      · rw [← hG]; simp (disch := omega) only [up2_miss, up2_hit]
      · intro j j0 j1; rw [← hG]; simp (disch := omega) only [up2_miss]; exact u7 j j0 j1
      · rw [← hG]; exact up2_hit rfl rfl
    · have gz : zA σ = 0 := by omega
      rw [if_pos gz, u6, wD, E118_57]
      by_cases gd : zD σ < 1 ∨ 2 < zD σ
      · have e : spt σ c = none := by unfold spt; rw [if_pos dg, if_neg ga, if_pos gd]
        refine bad I _ e ?_ (fun _ _ => rfl)
        rcases gd with gd | gd
        · rw [if_pos gd]; simp only [Option.bind_some, psh_i]; rw [E117_20 (Or.inl rfl)]
        · rw [if_neg (by omega), if_pos gd]; simp only [Option.bind_some, psh_i]; rw [E117_20 (Or.inl rfl)]
      · obtain ⟨x, o, ho⟩ : ∃ x o, zO σ = x :: o := by
          cases hz : zO σ with
          | nil => exact absurd hz (i6 (by omega))
          | cons x o => exact ⟨x, o, rfl⟩
        have e := spt_more (c := c) gz dg (by omega) (by omega) ho
        have lo : ((zO σ).length : Int) = (o.length : Int) + 1 := by rw [ho, List.length_cons]; omega
        rw [ho] at u2
        have ex : I (u + 1) (o.length : Int) = x := u2.1
        rw [if_neg (by omega), if_neg (by omega), u1, wO, if_neg (by omega), if_neg (by omega), lo, w_small (z := (o.length : Int) + 1 - 1) (by omega) (by omega), gdR_pos (by omega), gdR_pos (by omega), show (o.length : Int) + 1 - 1 = (o.length : Int) by omega, ex]
        simp only [Option.bind_some, psh_i]
        rw [E117_20 (Or.inr rfl)]
        generalize hG : up2 (up2 I (u + 1) (o.length : Int) (10 * x + (c - 48))) u 6 (zD σ + 1) = G
        refine good G _ _ e rfl (URu_mk ?_ ?_ ?_ ?_ ?_ ?_ ?_ ?_) (fun x hx => by rw [← hG, up2_oth (by omega), up2_oth (by omega)])
        · rw [← hG, List.length_cons]; simp (disch := omega) only [up2_miss]; rw [u1, lo]; omega
        · rw [← hG, up2_oth (by omega), up2_row]; exact ⟨updR_hit rfl, SK_upd (Int.le_refl _) u2.2⟩
        · rw [← hG]; simp (disch := omega) only [up2_miss]; exact u3
        · rw [← hG, up2_oth (by omega), up2_oth (by omega)]; exact u4
        · rw [← hG]; simp (disch := omega) only [up2_miss]; exact u5
        · rw [← hG]; exact up2_hit rfl rfl
        · intro j j0 j1; rw [← hG]; simp (disch := omega) only [up2_miss]; exact u7 j j0 j1
        · rw [← hG]; simp (disch := omega) only [up2_miss]; rw [u8]; exact gz
  have e117 : ev (d + 7) 117 0 [(2, u), (0, c)] [] S I = ev (d + 7) 117 21 [(2, u), (0, c)] [] S I := by
    rw [E117_0 hU, wc]
    by_cases g : c < 48
    · rw [if_pos g]
    · rw [if_neg g, if_pos (by omega)]
  rw [e117, E117_21 hU, u8, wA]
  have f0 : ∀ k, k ≠ 6 → up2 I u 6 0 u k = I u k := fun k hk => up2_miss (by omega)
  by_cases ga : zA σ = 1
  · have e := spt_aw (c := c) ga dg
    rw [if_neg (by omega), E120_0 hU, wc]
    by_cases g45 : c = 45
    · rw [if_pos g45] at e
      rw [if_pos g45, c_hldU hU (by rw [f0 3 (by decide), u3]; omega) (by rw [f0 3 (by decide), u3]; omega), f0 3 (by decide), u3]
      simp only [Option.bind_some, psh_u]
      rw [E120_18]
      simp only [Option.bind_some, psh_i]
      rw [E117_33, E117_41 (Or.inr rfl)]
      generalize hG : up2 (up2 (up2 I u 6 0) (u + 2) ((zH σ).length : Int) 256) u 3 (((zH σ).length : Int) + 1) = G
      refine good G _ _ e rfl (URu_mk ?_ ?_ ?_ ?_ ?_ ?_ ?_ ?_) (fun x hx => by rw [← hG, up2_oth (by omega), up2_oth (by omega), up2_oth (by omega)])
      · rw [← hG]; simp (disch := omega) only [up2_miss]; exact u1
      · rw [← hG, up2_oth (by omega), up2_oth (by omega), up2_oth (by omega)]; exact u2
      · rw [← hG, List.length_cons, up2_hit rfl rfl]; omega
      · rw [← hG, up2_oth (by omega), up2_row, up2_oth (by omega)]; exact ⟨updR_hit rfl, SK_upd (Int.le_refl _) u4⟩
      · rw [← hG]; simp (disch := omega) only [up2_miss]; exact u5
      · rw [← hG]; simp (disch := omega) only [up2_miss, up2_hit]
      · intro j j0 j1; rw [← hG]; simp (disch := omega) only [up2_miss]; exact u7 j j0 j1
      · rw [← hG]; simp (disch := omega) only [up2_miss]; rw [u8]; exact ga
    rw [if_neg g45] at e ⊢
    by_cases g40 : c = 40
    · rw [if_pos g40] at e
      rw [if_pos g40, E122_0 hU, f0 5 (by decide), u5, wB]
      by_cases gb : zB σ < 4
      · rw [if_pos gb] at e
        rw [if_pos gb, w_small (z := zB σ + 1) (by omega) (by omega), gdR_pos (by omega)]
        have f1 : ∀ k, k ≠ 6 → k ≠ 5 → up2 (up2 (up2 I u 6 0) u 5 (zB σ + 1)) (u + 3) (zB σ + 1) 0 u k = I u k := fun k k6 k5 => by simp (disch := omega) only [up2_miss]
        rw [c_hldU hU (by rw [f1 3 (by decide) (by decide), u3]; omega) (by rw [f1 3 (by decide) (by decide), u3]; omega), f1 3 (by decide) (by decide), u3]
        simp only [Option.bind_some, psh_u]
        rw [E122_36]
        simp only [Option.bind_some, psh_i]
        rw [E120_30 (Or.inr rfl)]
        simp only [Option.bind_some, psh_i]
        rw [E117_33, E117_41 (Or.inr rfl)]
        generalize hG : up2 (up2 (up2 (up2 (up2 I u 6 0) u 5 (zB σ + 1)) (u + 3) (zB σ + 1) 0) (u + 2) ((zH σ).length : Int) 40) u 3 (((zH σ).length : Int) + 1) = G
        refine good G _ _ e rfl (URu_mk ?_ ?_ ?_ ?_ ?_ ?_ ?_ ?_) (fun x hx => by rw [← hG, up2_oth (by omega), up2_oth (by omega), up2_oth (by omega), up2_oth (by omega), up2_oth (by omega)])
        · rw [← hG]; simp (disch := omega) only [up2_miss]; exact u1
        · rw [← hG, up2_oth (by omega), up2_oth (by omega), up2_oth (by omega), up2_oth (by omega), up2_oth (by omega)]; exact u2
        · rw [← hG, List.length_cons, up2_hit rfl rfl]; omega
        · rw [← hG, up2_oth (by omega), up2_row, up2_oth (by omega), up2_oth (by omega), up2_oth (by omega)]; exact ⟨updR_hit rfl, SK_upd (Int.le_refl _) u4⟩
        · rw [← hG]; simp (disch := omega) only [up2_miss, up2_hit]
        · rw [← hG]; simp (disch := omega) only [up2_miss, up2_hit]
        · intro j j0 j1
          rw [← hG, up2_oth (by omega), up2_oth (by omega), up2_row, up2_oth (by omega), up2_oth (by omega)]
          by_cases ej : j = zB σ + 1
          · rw [updR_hit ej, updR_hit ej]
          · rw [updR_miss ej, updR_miss ej]; exact u7 j j0 j1
        · rw [← hG]; simp (disch := omega) only [up2_miss]; rw [u8]; exact ga
      · rw [if_neg gb] at e
        rw [if_neg gb]
        simp only [Option.bind_some, psh_i]
        rw [E120_30 (Or.inl rfl)]
        simp only [Option.bind_some, psh_i]
        rw [E117_33, E117_41 (Or.inl rfl)]
        exact bad _ _ e rfl (fun x hx => up2_oth (by omega))
    rw [if_neg g40] at e ⊢
    have lb := ltr_b c
    have hix : ev (d + 5) 312 0 [(2, -10), (0, c)] [] S (up2 I u 6 0) = some ((0, ltr c), S, up2 I u 6 0) := t_ix (d := d + 1) (a := -10) (l := txt 0) (by decide) rfl c0 c1 (by decide) (by decide) (by decide)
    rw [if_neg (by omega), iC_small c0 (by omega), hix]
    simp only [Option.bind_some, psh_i]
    rw [E120_46 hU, w_small (z := ltr c) (by omega) (by omega)]
    by_cases gl : ltr c < 0
    · rw [if_pos gl] at e
      rw [if_pos gl]
      simp only [Option.bind_some, psh_i]
      rw [E117_33, E117_41 (Or.inl rfl)]
      exact bad _ _ e rfl (fun x hx => up2_oth (by omega))
    · rw [if_neg gl] at e
      rw [if_neg gl, c_emit hU (by rw [f0 1 (by decide), u1]; omega) (by rw [f0 1 (by decide), u1]; omega), f0 1 (by decide), u1]
      simp only [Option.bind_some, psh_u]
      rw [E120_62 hU]
      simp only [Option.bind_some, psh_i]
      rw [E117_33, E117_41 (Or.inr rfl)]
      generalize hG : up2 (up2 (up2 (up2 I u 6 0) (u + 1) ((zO σ).length : Int) (1000 + ltr c)) u 1 (((zO σ).length : Int) + 1)) u 7 0 = G
      refine good G _ _ e rfl (URu_mk ?_ ?_ ?_ ?_ ?_ ?_ ?_ ?_) (fun x hx => by rw [← hG, up2_oth (by omega), up2_oth (by omega), up2_oth (by omega), up2_oth (by omega)])
      · rw [← hG, List.length_cons]; simp (disch := omega) only [up2_miss, up2_hit]; omega
      · rw [← hG, up2_oth (by omega), up2_oth (by omega), up2_row, up2_oth (by omega)]; exact ⟨updR_hit rfl, SK_upd (Int.le_refl _) u2⟩
      · rw [← hG]; simp (disch := omega) only [up2_miss]; exact u3
      · rw [← hG, up2_oth (by omega), up2_oth (by omega), up2_oth (by omega), up2_oth (by omega)]; exact u4
      · rw [← hG]; simp (disch := omega) only [up2_miss]; exact u5
      · rw [← hG]; simp (disch := omega) only [up2_miss, up2_hit]
      · intro j j0 j1; rw [← hG]; simp (disch := omega) only [up2_miss]; exact u7 j j0 j1
      · rw [← hG]; exact up2_hit rfl rfl
  · have gz : zA σ = 0 := by omega
    rw [if_pos gz, E123_0 hU, c_stg c0 (by omega)]
    simp only [Option.bind_some, psh_i]
    rw [E123_9 hU, wc, w_small (z := stg c) (by omega) (by omega), E123_41, f0 5 (by decide), u5, wB]
    have hm : ∀ x ∈ zH σ, 0 ≤ x ∧ x ≤ 256 := fun x hx => ⟨(i9 x hx).1, (i9 x hx).2.1⟩
    have rel : ∀ (G : II) (s : Int), 0 ≤ s → s ≤ 4 → (∀ k, k ≠ 6 → G u k = I u k) → G (u + 1) = I (u + 1) → G (u + 2) = I (u + 2) → ∃ J, ev (d + 5) 126 0 [(2, u), (0, s)] [] S G = some (uU, S, J) ∧ J u 1 = ((rls s (zO σ) (zH σ)).1.length : Int) ∧ SK (J (u + 1)) (rls s (zO σ) (zH σ)).1 ∧ J u 3 = ((rls s (zO σ) (zH σ)).2.length : Int) ∧ SK (J (u + 2)) (rls s (zO σ) (zH σ)).2 ∧ (∀ k, k ≠ 1 → k ≠ 3 → J u k = G u k) ∧ ∀ x, x ≠ u → x ≠ u + 1 → J x = G x := by
      intro G s s0 s1 g0 g1 g2
      exact c_rel (d := d + 3) hu hU s0 s1 (zH σ) (zO σ) G (by rw [g0 1 (by decide)]; exact u1) (by rw [g1]; exact u2) (by rw [g0 3 (by decide)]; exact u3) (by rw [g2]; exact u4) (by omega) hm
    by_cases g41 : c = 41
    · rw [if_pos g41, E125_0 hU, f0 5 (by decide), u5, wB]
      by_cases gb : zB σ < 1
      · have e : spt σ c = none := by unfold spt; rw [if_neg dg, if_neg ga, if_pos g41, if_pos gb]
        rw [if_pos gb]
        simp only [Option.bind_some, psh_i]
        rw [E123_20 (Or.inl rfl)]
        simp only [Option.bind_some, psh_i]
        rw [E117_41 (Or.inl rfl)]
        exact bad _ _ e rfl (fun x hx => up2_oth (by omega))
      · have e : spt σ c = some ((rls 1 (zO σ) (zH σ)).1, (rls 1 (zO σ) (zH σ)).2.tail, zB σ - 1, 0, zC σ, 0) := by unfold spt; rw [if_neg dg, if_neg ga, if_pos g41, if_neg gb]
        obtain ⟨r1, r2, r3, r4⟩ := rls_p (s := 1) (zH σ) (zO σ)
        have r3' := r3 (by decide)
        obtain ⟨J, j1, j2, j3, j4, j5, j6, j7⟩ := c_rel (d := d + 2) hu hU (by decide : (0 : Int) ≤ 1) (by decide) (zH σ) (zO σ) (up2 I u 6 0) (by rw [f0 1 (by decide)]; exact u1) (by rw [up2_oth (by omega)]; exact u2) (by rw [f0 3 (by decide)]; exact u3) (by rw [up2_oth (by omega)]; exact u4) (by omega) hm
        rw [if_neg gb, j1]
        simp only [Option.bind_some, psh_u]
        rw [E125_15 hU]
        simp only [Option.bind_some, psh_i]
        rw [E123_20 (Or.inr rfl)]
        simp only [Option.bind_some, psh_i]
        rw [E117_41 (Or.inr rfl)]
        have jB : J u 5 = zB σ := by rw [j6 5 (by decide) (by decide), f0 5 (by decide)]; exact u5
        have jD : J u 6 = 0 := by rw [j6 6 (by decide) (by decide)]; exact up2_hit rfl rfl
        have jA : J u 7 = 0 := by rw [j6 7 (by decide) (by decide), f0 7 (by decide), u8]; exact gz
        generalize hG : up2 (up2 J u 3 (J u 3 - 1)) u 5 (J u 5 - 1) = G
        refine good G _ _ e rfl ?_ (fun x hx => by rw [← hG, up2_oth (by omega), up2_oth (by omega), j7 x (by omega) (by omega), up2_oth (by omega)])
        generalize (rls 1 (zO σ) (zH σ)).1 = o at *
        generalize (rls 1 (zO σ) (zH σ)).2 = hh at *
        match hh, r3', j4, j5 with
        | [], r3', j4, j5 =>
          have : (0 : Int) = cb (zH σ) := r3'
          omega
        | y :: hh, r3', j4, j5 =>
          rw [List.length_cons] at j4
          refine URu_mk ?_ ?_ ?_ ?_ ?_ ?_ ?_ ?_
          · rw [← hG]; simp (disch := omega) only [up2_miss]; exact j2
          · rw [← hG, up2_oth (by omega), up2_oth (by omega)]; exact j3
          · rw [← hG]; simp (disch := omega) only [up2_miss, up2_hit]; show J u 3 - 1 = (hh.length : Int); omega
          · rw [← hG, up2_oth (by omega), up2_oth (by omega)]; exact j5.2
          · rw [← hG, up2_hit rfl rfl, jB]
          · rw [← hG]; simp (disch := omega) only [up2_miss]; exact jD
          · intro j j0 j1'; rw [← hG, up2_oth (by omega), up2_oth (by omega), j7 (u + 3) (by omega) (by omega), up2_oth (by omega)]; exact u7 j j0 j1'
          · rw [← hG]; simp (disch := omega) only [up2_miss]; exact jA
    rw [if_neg g41]
    by_cases gs : stg c < 1
    · have e : spt σ c = none := by unfold spt; rw [if_neg dg, if_neg ga, if_neg g41, if_pos gs]
      rw [if_pos gs]
      simp only [Option.bind_some, psh_i]
      rw [E117_41 (Or.inl rfl)]
      exact bad _ _ e rfl (fun x hx => up2_oth (by omega))
    rw [if_neg gs, if_neg (by omega), if_neg (by omega)]
    have fin : ∀ (G : II) (C' : Int → Int), (∀ k, k ≠ 6 → G u k = I u k) → G u 6 = 0 → G (u + 1) = I (u + 1) → G (u + 2) = I (u + 2) → (∀ j, 0 ≤ j → j ≤ 4 → G (u + 3) j = C' j) → (∀ x, (x < u ∨ u + 5 < x) → G x = I x) → ∃ J, ev (d + 6) 123 72 [(2, u), (0, c), (0, stg c)] [] S G = some ((0, 1), S, J) ∧ URu J u ((rls (stg c) (zO σ) (zH σ)).1, c :: (rls (stg c) (zO σ) (zH σ)).2, zB σ, 0, C', 1) ∧ ∀ x, (x < u ∨ u + 5 < x) → J x = I x := by
      intro G C' g0 g6 g1 g2 g3 g4
      obtain ⟨J, j1, j2, j3, j4, j5, j6, j7⟩ := rel G (stg c) (by omega) (by omega) g0 g1 g2
      obtain ⟨r1, r2, r3, r4⟩ := rls_p (s := stg c) (zH σ) (zO σ)
      rw [E123_72 hU, j1]
      simp only [Option.bind_some, psh_u]
      rw [E123_77 hU, c_hldU hU (by omega) (by rw [j4]; omega), j4]
      simp only [Option.bind_some, psh_u]
      rw [E123_82 hU]
      generalize hZ : up2 (up2 (up2 J (u + 2) ((rls (stg c) (zO σ) (zH σ)).2.length : Int) c) u 3 (((rls (stg c) (zO σ) (zH σ)).2.length : Int) + 1)) u 7 1 = Z
      refine ⟨Z, rfl, URu_mk ?_ ?_ ?_ ?_ ?_ ?_ ?_ ?_, fun x hx => by rw [← hZ, up2_oth (by omega), up2_oth (by omega), up2_oth (by omega), j7 x (by omega) (by omega), g4 x hx]⟩
      · rw [← hZ]; simp (disch := omega) only [up2_miss]; exact j2
      · rw [← hZ, up2_oth (by omega), up2_oth (by omega), up2_oth (by omega)]; exact j3
      · rw [← hZ, List.length_cons]; simp (disch := omega) only [up2_miss, up2_hit]; omega
      · rw [← hZ, up2_oth (by omega), up2_oth (by omega), up2_row]; exact ⟨updR_hit rfl, SK_upd (Int.le_refl _) j5⟩
      · rw [← hZ]; simp (disch := omega) only [up2_miss]; rw [j6 5 (by decide) (by decide), g0 5 (by decide)]; exact u5
      · rw [← hZ]; simp (disch := omega) only [up2_miss]; rw [j6 6 (by decide) (by decide)]; exact g6
      · intro j j0 j1'; rw [← hZ, up2_oth (by omega), up2_oth (by omega), up2_oth (by omega), j7 (u + 3) (by omega) (by omega)]; exact g3 j j0 j1'
      · rw [← hZ]; exact up2_hit rfl rfl
    by_cases g1 : stg c = 1
    · have bC := i7 (zB σ) i2 (Int.le_refl _)
      have fC : up2 I u 6 0 (u + 3) (zB σ) = zC σ (zB σ) := by rw [up2_oth (by omega)]; exact u7 _ i2 (by omega)
      rw [if_pos g1, gdR_pos (by omega), fC, w_small (z := zC σ (zB σ)) (by omega) (by omega)]
      by_cases gc : zC σ (zB σ) = 0
      · have e : spt σ c = some ((rls 1 (zO σ) (zH σ)).1, c :: (rls 1 (zO σ) (zH σ)).2, zB σ, 0, updR (zC σ) (zB σ) 1, 1) := by unfold spt; rw [if_neg dg, if_neg ga, if_neg g41, if_neg gs, if_pos g1, if_pos gc]
        obtain ⟨J, j1, j2, j3⟩ := fin (up2 (up2 I u 6 0) (u + 3) (zB σ) 1) (updR (zC σ) (zB σ) 1) (fun k hk => by simp (disch := omega) only [up2_miss]) (by simp (disch := omega) only [up2_miss, up2_hit]) (by rw [up2_oth (by omega), up2_oth (by omega)]) (by rw [up2_oth (by omega), up2_oth (by omega)]) (fun j j0 j1 => by
          rw [up2_row, up2_oth (by omega)]
          by_cases ej : j = zB σ
          · rw [updR_hit ej, updR_hit ej]
          · rw [updR_miss ej, updR_miss ej]; exact u7 j j0 j1) (fun x hx => by rw [up2_oth (by omega), up2_oth (by omega)])
        rw [if_pos gc, gdR_pos (by omega), j1]
        simp only [Option.bind_some, psh_i]
        rw [E117_41 (Or.inr rfl)]
        rw [g1] at j2
        exact good J _ _ e rfl j2 j3
      · have e : spt σ c = none := by unfold spt; rw [if_neg dg, if_neg ga, if_neg g41, if_neg gs, if_pos g1, if_neg gc]
        rw [if_neg gc]
        simp only [Option.bind_some, psh_i]
        rw [E117_41 (Or.inl rfl)]
        exact bad _ _ e rfl (fun x hx => up2_oth (by omega))
    · have e : spt σ c = some ((rls (stg c) (zO σ) (zH σ)).1, c :: (rls (stg c) (zO σ) (zH σ)).2, zB σ, 0, zC σ, 1) := by unfold spt; rw [if_neg dg, if_neg ga, if_neg g41, if_neg gs, if_neg g1]
      obtain ⟨J, j1, j2, j3⟩ := fin (up2 I u 6 0) (zC σ) (fun k hk => f0 k hk) (up2_hit rfl rfl) (up2_oth (by omega)) (up2_oth (by omega)) (fun j j0 j1 => by rw [up2_oth (by omega)]; exact u7 j j0 j1) (fun x hx => up2_oth (by omega))
      rw [if_neg g1, j1]
      simp only [Option.bind_some, psh_i]
      rw [E117_41 (Or.inr rfl)]
      exact good J _ _ e rfl j2 j3
end ra04
