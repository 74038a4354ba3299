/-! deals told -/
section r85
variable {d : Nat} {S T U : SS} {I J G I2 : II} {C : CF} {ρ σ f f' g g' : RW} {a b q k v N : Int}
theorem dlS_1 : ∀ (n : Nat) (ρ f g f' g' : RW), (dlS C n ρ f g).1 = (dlS C n ρ f' g').1 := by
  intro n
  induction n with
  | zero => intro ρ f g f' g'; rfl
  | succ n ih => intro ρ f g f' g'; unfold dlS; exact ih _ _ _ _ _
theorem dlS_f {M : Int} : ∀ (n : Nat) (ρ f g f' g' : RW), (∀ j, 0 ≤ j → j < M → f j = f' j) → ∀ j, 0 ≤ j → j < M → (dlS C n ρ f g).2.1 j = (dlS C n ρ f' g').2.1 j := by
  intro n
  induction n with
  | zero => intro ρ f g f' g' h; exact h
  | succ n ih =>
    intro ρ f g f' g' h
    unfold dlS
    refine ih _ _ _ _ _ (fun j j0 j1 => ?_)
    by_cases e : j = C.2.2.2.1 (chosenS C ρ).1
    · subst e; rw [updR_hit rfl, updR_hit rfl, h _ j0 j1]
    · rw [updR_miss e, updR_miss e, h j j0 j1]
theorem dlS_g {M : Int} : ∀ (n : Nat) (ρ f g f' g' : RW), (∀ j, 0 ≤ j → j < M → g j = g' j) → ∀ j, 0 ≤ j → j < M → (dlS C n ρ f g).2.2 j = (dlS C n ρ f' g').2.2 j := by
  intro n
  induction n with
  | zero => intro ρ f g f' g' h; exact h
  | succ n ih =>
    intro ρ f g f' g' h
    unfold dlS
    refine ih _ _ _ _ _ (fun j j0 j1 => ?_)
    by_cases e : j = (chosenS C ρ).1
    · subst e; rw [updR_hit rfl, updR_hit rfl, h _ j0 j1]
    · rw [updR_miss e, updR_miss e, h j j0 j1]
theorem c_dtell {x0 x1 : Int} {gg : RW} (hQ : QA S 0) (h0 : KA S x0 20 5) (h1 : KA S x1 20 4) (g0 : 455 ≤ x0) (g1 : 455 ≤ x1) : ∀ (n : Nat) (k : Int) (J : II) (a6 a7 : AV), TD J (3 + k) gg → (∀ j, 0 ≤ j → j < 5 → gg (3 + j) = w (J x0 j)) → 0 ≤ k → k ≤ 5 → n = (5 - k).toNat →
    ∃ K, ev (d + 1) 54 108 [(2, 36), (0, v), (2, 3), (2, x0), (2, x1), (0, k), a6, a7] [] S J = some ((0, J x1 0), S, K) ∧ TD K 8 gg ∧ TF J K := by
  intro n
  induction n with
  | zero =>
    intro k J a6 a7 hT hg k0 k1 hn
    have : k = 5 := by omega
    subst this
    exact ⟨J, by rw [E54_108 h0 (RA3 hQ) h1, if_neg (by decide), gdR_pos (by decide), show w 0 = 0 by decide], hT, TF_refl⟩
  | succ n ih =>
    intro k J a6 a7 hT hg k0 k1 hn
    obtain ⟨A, u1, u2, u3⟩ := c_tnext (d := d) (S := S) (x := w (J x0 k)) (RA3 hQ) hT (by omega) (by omega) (by rw [hg k k0 (by omega)])
    rw [E54_108 h0 (RA3 hQ) h1, w_small (z := k) (by omega) (by omega), if_pos (by omega), gdR_pos (by omega), u1]
    simp only [Option.bind_some, psh_u]
    rw [E54_123]
    obtain ⟨K, z1, z2, z3⟩ := ih (k + 1) A a6 a7 (by rw [show 3 + (k + 1) = 3 + k + 1 by omega]; exact u2) (fun j j0 j1 => by rw [TF_hi u3 (by omega)]; exact hg j j0 j1) (by omega) (by omega) (by omega)
    exact ⟨K, by rw [z1, TF_hi u3 (by omega)], z2, TF_trans u3 z3⟩
theorem m_dtell1 {gg : RW} {a3 : AV} (hM : MA S 427) : ∀ (n : Nat) (k : Int) (J : II), MD J (k - 1) gg → (∀ j, 1 ≤ j → j < 4 → gg (j - 1) = w (J 446 j)) → 1 ≤ k → k ≤ 4 → n = (4 - k).toNat →
    ∃ K, ev (d + 1) 281 131 [(2, 427), (0, v), (0, k), a3] [] S J = ev (d + 1) 281 155 [(2, 427), (0, v), (0, 0), a3] [] S K ∧ MD K 3 gg ∧ MF J K := by
  intro n
  induction n with
  | zero =>
    intro k J hT hg k0 k1 hn
    have : k = 4 := by omega
    subst this
    exact ⟨J, by rw [E281_131 hM, if_neg (by decide)], hT, MF_refl⟩
  | succ n ih =>
    intro k J hT hg k0 k1 hn
    obtain ⟨A, u1, u2, u3⟩ := m_next (d := d) (S := S) (x := w (J 446 k)) hM hT (by omega) (by omega) (by rw [hg k k0 (by omega)])
    rw [E281_131 hM, w_small (z := k) (by omega) (by omega), if_pos (by omega), gdR_pos (by omega), u1]
    simp only [Option.bind_some, psh_u]
    rw [E281_147]
    obtain ⟨K, z1, z2, z3⟩ := ih (k + 1) A (by rw [show k + 1 - 1 = k - 1 + 1 by omega]; exact u2) (fun j j0 j1 => by rw [u3.2 446 (by decide) (by decide)]; exact hg j j0 j1) (by omega) (by omega) (by omega)
    exact ⟨K, z1, z2, MF_trans u3 z3⟩
theorem m_dtell2 {gg : RW} {a3 : AV} (hM : MA S 427) : ∀ (n : Nat) (k : Int) (J : II), MD J (3 + k) gg → (∀ j, 0 ≤ j → j < 5 → gg (3 + j) = w (J 447 j)) → 0 ≤ k → k ≤ 5 → n = (5 - k).toNat →
    ∃ K, ev (d + 1) 281 155 [(2, 427), (0, v), (0, k), a3] [] S J = some ((0, J 446 0), S, K) ∧ MD K 8 gg ∧ MF J K := by
  intro n
  induction n with
  | zero =>
    intro k J hT hg k0 k1 hn
    have : k = 5 := by omega
    subst this
    exact ⟨J, by rw [E281_155 hM, if_neg (by decide)], hT, MF_refl⟩
  | succ n ih =>
    intro k J hT hg k0 k1 hn
    obtain ⟨A, u1, u2, u3⟩ := m_next (d := d) (S := S) (x := w (J 447 k)) hM hT (by omega) (by omega) (by rw [hg k k0 (by omega)])
    rw [E281_155 hM, w_small (z := k) (by omega) (by omega), if_pos (by omega), gdR_pos (by omega), u1]
    simp only [Option.bind_some, psh_u]
    rw [E281_171]
    obtain ⟨K, z1, z2, z3⟩ := ih (k + 1) A (by rw [show 3 + (k + 1) = 3 + k + 1 by omega]; exact u2) (fun j j0 j1 => by rw [u3.2 447 (by decide) (by decide)]; exact hg j j0 j1) (by omega) (by omega) (by omega)
    exact ⟨K, by rw [z1, u3.2 446 (by decide) (by decide)], z2, MF_trans u3 z3⟩
theorem m_clr (hM : MA S 427) : ∃ Z, ev d 281 39 [(2, 427), (0, v), (0, 0), uU] [] S I = ev d 281 79 [(2, 427), (0, v), (0, 0), uU] [] S Z ∧ (∀ j, 0 ≤ j → j < 4 → Z 446 j = 0) ∧ (∀ j, 0 ≤ j → j < 5 → Z 447 j = 0) ∧ ∀ y, y ≠ 446 → y ≠ 447 → Z y = I y := by
  refine ⟨up2 (up2 (up2 (up2 (up2 (up2 (up2 (up2 (up2 I 446 0 0) 446 1 0) 446 2 0) 446 3 0) 447 0 0) 447 1 0) 447 2 0) 447 3 0) 447 4 0, ?_, ?_, ?_, ?_⟩
  · rw [E281_39 hM, if_pos (by decide), gdR_pos (by decide), E281_39 hM, if_pos (by decide), gdR_pos (by decide), E281_39 hM, if_pos (by decide), gdR_pos (by decide), E281_39 hM, if_pos (by decide), gdR_pos (by decide), E281_39 hM, if_neg (by decide)]
    rw [E281_59 hM, if_pos (by decide), gdR_pos (by decide), E281_59 hM, if_pos (by decide), gdR_pos (by decide), E281_59 hM, if_pos (by decide), gdR_pos (by decide), E281_59 hM, if_pos (by decide), gdR_pos (by decide), E281_59 hM, if_pos (by decide), gdR_pos (by decide), E281_59 hM, if_neg (by decide)]
    rw [show w 0 = 0 by decide, show w (0 + 1) = 1 by decide, show w (0 + 1 + 1) = 2 by decide, show w (0 + 1 + 1 + 1) = 3 by decide, show w (0 + 1 + 1 + 1 + 1) = 4 by decide]
  · intro j j0 j1
    rcases (by omega : j = 0 ∨ j = 1 ∨ j = 2 ∨ j = 3) with rfl | rfl | rfl | rfl <;> simp [up2]
  · intro j j0 j1
    rcases (by omega : j = 0 ∨ j = 1 ∨ j = 2 ∨ j = 3 ∨ j = 4) with rfl | rfl | rfl | rfl | rfl <;> simp [up2]
  · intro y y0 y1
    simp only [up2_oth y0, up2_oth y1]
theorem call_deals (hS : SH S) (h : ST N I) (hN0 : 100 ≤ N) (hN : N < 70000000) (hv : isI v) : ∃ r T I1 I2, ev (d + 100) 168 0 [(2, 0), (0, v)] [] S I = some ((0, r), T, I1) ∧ ev (d + 100) 281 0 [(2, 427), (0, v), uU, uU] [] T I1 = some ((0, r), T, I2) ∧ ST (N + 100000) I2 ∧ SE S T ∧ T.1 ≤ S.1 + 2 ∧ T.2.1 ≤ S.2.1 + 9 := by
  have hS0 := hS
  have s455 := SH_454 hS
  obtain ⟨hQ, hM⟩ := hS
  have hk := h.2.2.2.1.1
  have hn5 := hk.2.1
  have hD := h.2.2.2.1.2
  have hB := h.2.2.2.2.2.2.2.1
  have tB := tau_B h
  obtain ⟨tW, tL⟩ := tau_GD h
  have x0c : ∀ Z : II, OT I Z → cfM (up2 Z 427 0 0) = cfM I := fun Z hZ => (cfM_mem (up2_miss (by decide)) (up2_oth (by decide)) (up2_oth (by decide)) (up2_oth (by decide)) (up2_oth (by decide))).trans (OT_cfM hZ)
  have rf : ∀ (T : SS) (Z : II), ev (d + 100) 281 0 [(2, 427), (0, v), uU, uU] [] T Z = ev (d + 100) 281 0 [(2, 427), (0, v), uU, uU] [] T Z := fun _ _ => rfl
  have r14 : ∀ (T : SS) (Z : II), SH T → ev (d + 100) 281 0 [(2, 427), (0, v), uU, uU] [] T Z = ev (d + 100) 281 14 [(2, 427), (0, v), uU, uU] [(0, if 1 ≤ v ∧ v ≤ 60 then 1 else 0)] T (up2 Z 427 0 0) := by
    intro T Z hT
    rw [E281_0 hT.2, w_small hv.1 hv.2, m_in (by have := hv.1; omega) (by have := hv.2; omega) (by decide) (by decide) (by decide) (by decide)]
    simp only [Option.bind_some, psh_i]
  have any1 := c_any (d := d + 98) (S := S) (DA5 hQ) hD.1.1 hD.1.2.2.2.2.1 hk (BdN_Bd hB (by omega))
  by_cases gv : 1 ≤ v ∧ v ≤ 60
  · have e1 := E168_0 (d := d + 99) (I := I) (a1 := v) hQ
    rw [w_small hv.1 hv.2, if_neg (by omega), if_neg (by omega), any1] at e1
    simp only [Option.bind_some, psh_i] at e1
    rw [E168_20 hQ] at e1
    have r27 : ∀ (T : SS) (Z : II), SH T → OT I Z → ev (d + 100) 281 0 [(2, 427), (0, v), uU, uU] [] T Z = ev (d + 100) 281 27 [(2, 427), (0, v), uU, uU] [(0, if anyS (cfM I) (I 438) = true then 1 else 0)] T (up2 Z 427 0 0) := by
      intro T Z hT hZ
      have x38 : up2 Z 427 0 0 438 = I 438 := by rw [up2_oth (by decide)]; exact OT_up hZ (by decide) (by decide)
      have any := m_any (d := d + 97) (S := T) (I := up2 Z 427 0 0) (r := 438) hT.2 (Or.inl rfl) (by rw [x0c Z hZ]; exact hk) (by rw [x38]; exact BdN_Bd hB (by omega))
      rw [x0c Z hZ, x38] at any
      rw [r14 T Z hT, if_pos gv, E281_14 hT.2, if_neg (by decide), any]
      simp only [Option.bind_some, psh_i]
    by_cases ga : anyS (cfM I) (I 438) = true
    · have gt : anyS (cfM I) (tau I) = true := by rw [any_tau hk]; exact ga
      obtain ⟨J, j1, j2, j3⟩ := tri_beg (d := d + 98) (S := S) hQ h
      rw [if_pos ga, if_neg (by decide), j1] at e1
      simp only [Option.bind_some, psh_u] at e1
      rw [E168_37 hQ, E54_0, E54_3, E54_7] at e1
      generalize hT : newS (newS S 20 5) 20 4 = T at e1
      have se : SE S T := by rw [← hT]; exact SE_trans SE_new SE_new
      have hT' : SH T := SH_ext se hS0
      have k0 : KA T (S.1 : Int) 20 5 := by
        rw [← hT]
        refine KA_ext SE_new ⟨by omega, ?_, ?_, ?_⟩
        · show (S.1 : Int) < ((S.1 + 1 : Nat) : Int); omega
        · show (if (S.1 : Int) = (S.1 : Int) then ((20 : Int), ((5 : Nat) : Int)) else sH S (S.1 : Int)).1 = 20; rw [if_pos rfl]
        · show (if (S.1 : Int) = (S.1 : Int) then ((20 : Int), ((5 : Nat) : Int)) else sH S (S.1 : Int)).2 = 5; rw [if_pos rfl]; rfl
      have n1 : ((newS S 20 5).1 : Int) = (S.1 : Int) + 1 := by show ((S.1 + 1 : Nat) : Int) = _; omega
      have k1 : KA T ((newS S 20 5).1 : Int) 20 4 := by
        rw [← hT]
        refine ⟨by omega, ?_, ?_, ?_⟩
        · show ((newS S 20 5).1 : Int) < (((newS S 20 5).1 + 1 : Nat) : Int); omega
        · show (if ((newS S 20 5).1 : Int) = ((newS S 20 5).1 : Int) then ((20 : Int), ((4 : Nat) : Int)) else sH (newS S 20 5) ((newS S 20 5).1 : Int)).1 = 20; rw [if_pos rfl]
        · show (if ((newS S 20 5).1 : Int) = ((newS S 20 5).1 : Int) then ((20 : Int), ((4 : Nat) : Int)) else sH (newS S 20 5) ((newS S 20 5).1 : Int)).2 = 4; rw [if_pos rfl]; rfl
      generalize hx1 : ((newS S 20 5).1 : Int) = x1 at *
      generalize hJ2 : newI (newS S 20 5) (newI S J) = J2 at e1
      have jo : ∀ y, y < 455 → J2 y = J y := fun y hy => by rw [← hJ2, newI_oth (by omega), newI_oth (by omega)]
      have jz0 : J2 (S.1 : Int) = fun _ => 0 := by rw [← hJ2, newI_oth (by omega), newI_own]
      have jz1 : J2 x1 = fun _ => 0 := by rw [← hJ2, ← hx1, newI_own]
      obtain ⟨K, b6, b7, u1, u2, u3, u4, u5⟩ := c_deal (d := d + 94) (S := T) (v := v) hT'.1 hk k0 k1 (by omega) (by omega) (by omega) (by omega) (by omega : (4 : Int) ≤ N) (by omega) (v - 0).toNat 0 (tau I) J2 uU uU (RelD_mem j2 tW.1 (fun y y0 y1 => jo y (by omega))) tW.1 tB gt (by decide) (by omega) rfl
      rw [jz0, jz1] at u2 u3 u5
      generalize hf : (dlS (cfM I) (v - 0).toNat (tau I) (fun _ => 0) (fun _ => 0)).2.1 = f at *
      generalize hg : (dlS (cfM I) (v - 0).toNat (tau I) (fun _ => 0) (fun _ => 0)).2.2 = g at *
      generalize hh : (fun j : Int => if j < 3 then w (f (j + 1)) else w (g (j - 3))) = gg
      have gl : ∀ j, j < 3 → gg j = w (f (j + 1)) := fun j hj => by rw [← hh]; simp only [if_pos hj]
      have gh : ∀ j, 0 ≤ j → gg (3 + j) = w (g j) := fun j hj => by
        rw [← hh]
        show (if 3 + j < 3 then w (f (3 + j + 1)) else w (g (3 + j - 3))) = w (g j)
        rw [if_neg (by omega), show 3 + j - 3 = j by omega]
      obtain ⟨A, a1, a2, a3⟩ := c_tell3 (d := d + 95) (S := T) (I := K) (x := w (f 1)) (y := w (f 2)) (z := w (f 3)) (RA3 hT'.1)
      obtain ⟨B, b1, b2, b3⟩ := c_dtell (d := d + 98) (S := T) (v := v) (gg := gg) hT'.1 k0 k1 (by omega) (by omega) 5 0 A b6 b7 (by
        rw [Int.add_zero]
        refine TD_ext a2 (fun j j0 j1 => ?_)
        rw [gl j j1]
        rcases (by omega : j = 0 ∨ j = 1 ∨ j = 2) with rfl | rfl | rfl
        · rfl
        · rfl
        · rfl) (fun j j0 j1 => by rw [gh j j0, TF_hi a3 (by omega), u3]) (by decide) (by decide) (by decide)
      rw [u1, E54_12 (DA36 hT'.1) k1 (RA3 hT'.1), if_neg (by omega), gdR_pos (by decide), gdR_pos (by decide), gdR_pos (by decide), show w 1 = 1 by decide, show w 2 = 2 by decide, show w 3 = 3 by decide, u2, a1] at e1
      simp only [Option.bind_some, psh_u] at e1
      rw [E54_105, b1] at e1
      simp only [Option.bind_some, psh_i] at e1
      rw [E168_49, TF_hi a3 (by omega), u2] at e1
      have tf := TF_trans a3 b3
      have ot : OT I B := fun y hy y0 y1 y2 y3 y4 y5 => by rw [tf y y0 y1, u4 y y2 (by omega) (by omega), jo y hy, j3 y (by omega)]
      have r3 := r27 T B hT' ot
      rw [if_pos ga, E281_27 hT'.2, if_neg (by decide), m_cop hT'.2 ot (fun y hy => up2_oth hy)] at r3
      simp only [Option.bind_some, psh_u] at r3
      obtain ⟨Z, c1, c2, c3, c4⟩ := m_clr (d := d + 100) (S := T) (v := v) (I := setR (up2 B 427 0 0) 439 (tau I)) hT'.2
      rw [E281_37, c1] at r3
      have z9 : Z 439 = tau I := by rw [c4 439 (by decide) (by decide), setR_same]
      have zo : ∀ y, y ≠ 439 → y ≠ 446 → y ≠ 447 → Z y = up2 B 427 0 0 y := fun y y0 y1 y2 => by rw [c4 y y1 y2, setR_oth y0]
      have zC : cfM Z = cfM I := (cfM_mem (by rw [zo 427 (by decide) (by decide) (by decide)]) (zo 434 (by decide) (by decide) (by decide)) (zo 435 (by decide) (by decide) (by decide)) (zo 436 (by decide) (by decide) (by decide)) (zo 437 (by decide) (by decide) (by decide))).trans (x0c B ot)
      obtain ⟨Y, b3', y1, y2, y3, y5, y4⟩ := m_deal (d := d + 94) (S := T) (v := v) (N := N) hT'.2 hk (by omega) (by omega) (by omega) (v - 0).toNat 0 (tau I) Z uU zC z9 tW.1 tB gt (by decide) (by omega) rfl
      rw [y1, E281_79 hT'.2, if_neg (by omega)] at r3
      have ef : ∀ j, 0 ≤ j → j < 4 → Y 446 j = f j := fun j j0 j1 => by rw [y2, ← hf]; exact dlS_f (M := 4) _ _ _ _ _ _ (fun i i0 i1 => c2 i i0 i1) j j0 j1
      have eg : ∀ j, 0 ≤ j → j < 5 → Y 447 j = g j := fun j j0 j1 => by rw [y3, ← hg]; exact dlS_g (M := 5) _ _ _ _ _ _ (fun i i0 i1 => c3 i i0 i1) j j0 j1
      have e9 : BdN N (Y 439) := by rw [y5, dlS_1 _ _ _ _ (fun _ => 0) (fun _ => 0)]; exact u5
      generalize hY : up2 Y 427 1 0 = Y2 at r3
      have w46 : Y2 446 = Y 446 := by rw [← hY, up2_oth (by decide)]
      have w47 : Y2 447 = Y 447 := by rw [← hY, up2_oth (by decide)]
      obtain ⟨X, p1, p2, p3⟩ := m_dtell1 (d := d + 99) (S := T) (v := v) (gg := gg) (a3 := b3') hT'.2 3 1 Y2 (by rw [← hY]; exact MD_0) (fun j j0 j1 => by rw [gl _ (by omega), w46, ef j (by omega) j1, show j - 1 + 1 = j by omega]) (by decide) (by decide) (by decide)
      obtain ⟨X2, q1, q2, q3⟩ := m_dtell2 (d := d + 99) (S := T) (v := v) (gg := gg) (a3 := b3') hT'.2 5 0 X (by rw [Int.add_zero]; exact p2) (fun j j0 j1 => by rw [gh j j0, p3.2 447 (by decide) (by decide), w47, eg j j0 j1]) (by decide) (by decide) (by decide)
      rw [p1, q1, p3.2 446 (by decide) (by decide), w46, ef 0 (by decide) (by decide)] at r3
      have yo : ∀ y, y ≠ 427 → y ≠ 428 → y ≠ 439 → y ≠ 446 → y ≠ 447 → X2 y = B y := fun y g0 g1 g2 g3 g4 => by rw [q3.2 y g0 g1, p3.2 y g0 g1, ← hY, up2_oth g0, y4 y g2 g3 g4, zo y g2 g3 g4, up2_oth g0]
      refine ⟨f 0, T, B, X2, e1, r3, tri_ST h ot (fun y g0 g1 g2 _ g3 g4 _ _ => yo y g0 g1 g2 g3 g4) (fun k hk => by rw [q3.1 k (by omega), p3.1 k (by omega), ← hY, up2_miss (by omega), y4 427 (by decide) (by decide) (by decide), zo 427 (by decide) (by decide) (by decide), up2_miss (by omega)]) (cR_of (TD_congr b2 (yo 3 (by decide) (by decide) (by decide) (by decide) (by decide)) (yo 4 (by decide) (by decide) (by decide) (by decide) (by decide))) q2 (by decide) (by decide)) ?_, se, ?_, ?_⟩
      · rw [q3.2 439 (by decide) (by decide), p3.2 439 (by decide) (by decide), ← hY, up2_oth (by decide)]; exact BdN_le e9 (by omega)
      · rw [← hT]; exact Nat.le_refl _
      · rw [← hT]; exact Nat.le_refl _
    · rw [if_neg ga, if_pos (by decide)] at e1
      refine ⟨-2, S, I, _, e1, ?_, ST_le (ST_0 (v := 0) h) (by omega), SE_refl, by omega, by omega⟩
      rw [r27 S I hS0 OT_refl, if_neg ga, E281_27 hM, if_pos (by decide)]
  · refine ⟨-1, S, I, _, ?_, ?_, ST_le (ST_0 (v := 0) h) (by omega), SE_refl, by omega, by omega⟩
    · rw [E168_0 hQ, w_small hv.1 hv.2, E168_11]
      by_cases g2 : v < 1
      · rw [if_pos g2]
      · rw [if_neg g2, if_pos (by omega)]
    · rw [r14 S I hS0, if_neg gv, E281_14 hM, if_pos (by decide)]
end r85
