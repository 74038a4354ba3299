/-! the class reads a rule: all of it */ -/
section ra05
variable {d : Nat} {S : SS} {I J G : II} {t : Int → Int} {L p p' q r b s c ok u v n a k : Int} {σ σ' σ'' : PSt} {cs o h : List Int}
theorem c_at (hT : TA S 1) (h0 : 0 ≤ p) (h1 : p < I 1 1) (h2 : I 1 1 ≤ 80) : ev d 135 0 [(2, 1), (0, p)] [] S I = some ((0, I 2 p), S, I) := by
  rw [E135_0 hT, w_small (z := p) (by omega) (by omega), if_neg (by omega), w_small (z := I 1 1) (by omega) (by omega), if_pos h1, gdR_pos (by omega), E135_22]
theorem c_at_out (hT : TA S 1) (hp : isI p) (h1 : ¬ (0 ≤ p ∧ p < I 1 1)) (h0 : 0 ≤ I 1 1) (h2 : I 1 1 ≤ 80) : ev d 135 0 [(2, 1), (0, p)] [] S I = some ((0, -1), S, I) := by
  rw [E135_0 hT, w_small hp.1 hp.2, w_small (z := I 1 1) (by omega) (by omega)]
  by_cases g : p < 0
  · rw [if_pos g, E135_21, E135_22]
  · rw [if_neg g, if_neg (by omega), E135_21, E135_22]
theorem c_run (hT : TA S 1) (hu : 2 < u) (hU : UA S u) (hn : L ≤ n) (hn2 : n ≤ 80) (hL : L ≤ 40) (ht : ∀ j, 0 ≤ j → j < n → 0 ≤ t j ∧ t j < 256) : ∀ (m : Nat) (p : Int) (σ : PSt) (I : II), I 1 1 = n → (∀ j, 0 ≤ j → j < n → I 2 j = t j) → rn t m p σ = some σ' → URu I u σ → INV p σ → 0 ≤ p → p + m ≤ L →
    ∃ J, ev (d + 8) 116 44 [(2, u), (2, 1), (0, L), (0, p)] [] S I = ev (d + 8) 116 44 [(2, u), (2, 1), (0, L), (0, p + m)] [] S J ∧ URu J u σ' ∧ INV (p + m) σ' ∧ ∀ x, (x < u ∨ u + 5 < x) → J x = I x := by
  intro m
  induction m with
  | zero =>
    intro p σ I i1 i2 hr hR hi p0 hp
    have : σ = σ' := Option.some.inj hr
    subst this
    rw [show p + ((0 : Nat) : Int) = p by omega]
    exact ⟨I, rfl, hR, hi, fun _ _ => rfl⟩
  | succ m ih =>
    intro p σ I i1 i2 hr hR hi p0 hp
    have hr' : (spt σ (t p)).bind (rn t m (p + 1)) = some σ' := hr
    obtain ⟨σ1, s1, s2⟩ := Option.bind_eq_some_iff.mp hr'
    obtain ⟨t0, t1⟩ := ht p p0 (by omega)
    obtain ⟨K, k1, k2, k3⟩ := c_takes (d := d) (S := S) (I := I) (by omega) hU hR hi (by omega) t0 t1
    have kr := k2 σ1 s1
    rw [s1] at k1
    have k1' : ev (d + 7) 117 0 [(2, u), (0, t p)] [] S I = some ((0, 1), S, K) := k1
    obtain ⟨J, j1, j2, j3, j4⟩ := ih (p + 1) σ1 K (by rw [k3 1 (by omega)]; exact i1) (fun j j0 j1 => by rw [k3 2 (by omega)]; exact i2 j j0 j1) s2 kr (INV_spt hi t0 t1 s1) (by omega) (by omega)
    refine ⟨J, ?_, j2, ?_, fun x hx => by rw [j4 x hx, k3 x hx]⟩
    · rw [E116_44 hT hU, w_small (z := p) (by omega) (by omega), w_small (z := L) (by omega) (by omega), if_pos (by omega), c_at hT p0 (by omega) (by omega), i2 p p0 (by omega)]
      simp only [Option.bind_some, psh_i]
      rw [E116_55 hU, k1']
      simp only [Option.bind_some, psh_i]
      rw [E116_58, if_neg (by decide), j1, show p + 1 + (m : Int) = p + ((m + 1 : Nat) : Int) by omega]
    · rw [show p + ((m + 1 : Nat) : Int) = p + 1 + (m : Int) by omega]; exact j3
/-- where one sign is refused -/
theorem c_refuse (hT : TA S 1) (hu : 2 < u) (hU : UA S u) (hn : L ≤ n) (hn2 : n ≤ 80) (hL : L ≤ 40) (ht : ∀ j, 0 ≤ j → j < n → 0 ≤ t j ∧ t j < 256) (i1 : I 1 1 = n) (i2 : ∀ j, 0 ≤ j → j < n → I 2 j = t j) (hR : URu I u σ) (hi : INV p σ) (p0 : 0 ≤ p) (hp : p < L) (hs : spt σ (t p) = none) :
    ∃ J, ev (d + 8) 116 44 [(2, u), (2, 1), (0, L), (0, p)] [] S I = some ((0, -1 - p), S, J) ∧ ∀ x, (x < u ∨ u + 5 < x) → J x = I x := by
  obtain ⟨t0, t1⟩ := ht p p0 (by omega)
  obtain ⟨K, k1, k2, k3⟩ := c_takes (d := d) (S := S) (I := I) (by omega) hU hR hi (by omega) t0 t1
  rw [hs] at k1
  have k1' : ev (d + 7) 117 0 [(2, u), (0, t p)] [] S I = some ((0, 0), S, K) := k1
  refine ⟨K, ?_, k3⟩
  rw [E116_44 hT hU, w_small (z := p) (by omega) (by omega), w_small (z := L) (by omega) (by omega), if_pos (by omega), c_at hT p0 (by omega) (by omega), i2 p p0 (by omega)]
  simp only [Option.bind_some, psh_i]
  rw [E116_55 hU, k1']
  simp only [Option.bind_some, psh_i]
  rw [E116_58, if_pos (by decide)]
theorem c_read (hT : TA S 1) (hU : UA S 418) (i1 : I 1 1 = n) (i2 : ∀ j, 0 ≤ j → j < n → I 2 j = t j) (n0 : 0 ≤ n) (hn2 : n ≤ 80) (ht : ∀ j, 0 ≤ j → j < n → 0 ≤ t j ∧ t j < 256) (hL : L = if 40 < n then 40 else n) (hp0 : 0 ≤ p') (hp1 : p' ≤ L) (hok : ok = 0 ∨ ok = 1) (hcl : L ≠ 0 → CLm t L 0 p' 0 0 ok cs) (hz : L = 0 → ok = 1 ∧ cs = []) :
    ∃ J, ev (d + 9) 116 0 [(2, 418), (2, 1), uU, uU] [] S I = some ((0, fau n L ok p'), S, J) ∧ (fau n L ok p' = 0 → J 418 1 = (cs.length : Int) ∧ SK (J 419) (cs.map tk)) ∧ ∀ x, (x < 418 ∨ 423 < x) → J x = I x := by
  have L40 : L ≤ 40 := by rw [hL]; split <;> omega
  have Ln : L ≤ n := by rw [hL]; split <;> omega
  have L0 : 0 ≤ L := by rw [hL]; split <;> omega
  have Lc : 40 < n ∧ L = 40 ∨ n ≤ 40 ∧ L = n := by rw [hL]; split <;> omega
  have eL : (if 40 < w (I 1 1) then (40 : Int) else w (I 1 1)) = L := by rw [i1, w_small (z := n) (by omega) (by omega), hL]
  have e0 := E116_0 (d := d + 9) (S := S) (I := I) hU (by decide) (by decide) hT
  rw [gdR_pos (by decide), eL, show w 0 = 0 by decide, show (418 : Int) + 3 = 421 by decide] at e0
  generalize hG : up2 (up2 (up2 (up2 (up2 (up2 I 418 1 0) 418 3 0) 418 5 0) 418 6 0) 421 0 0) 418 7 1 = G at e0
  have go : ∀ x, (x < 418 ∨ 423 < x) → G x = I x := fun x hx => by rw [← hG, up2_oth (by omega), up2_oth (by omega), up2_oth (by omega), up2_oth (by omega), up2_oth (by omega), up2_oth (by omega)]
  have gR : URu G 418 ([], [], 0, 0, G 421, 1) := by
    refine URu_mk ?_ trivial ?_ trivial ?_ ?_ (fun j _ _ => rfl) ?_
    · rw [← hG]; simp (disch := omega) only [up2_miss, up2_hit]; rfl
    · rw [← hG]; simp (disch := omega) only [up2_miss, up2_hit]; rfl
    · rw [← hG]; simp (disch := omega) only [up2_miss, up2_hit]
    · rw [← hG]; simp (disch := omega) only [up2_miss, up2_hit]
    · rw [← hG]; simp (disch := omega) only [up2_miss, up2_hit]
  have g0 : G 421 0 = 0 := by rw [← hG]; simp (disch := omega) only [up2_miss, up2_hit]
  have gI : INV 0 ([], [], 0, 0, G 421, 1) := ⟨Int.le_refl _, by show (0 : Int) ≤ 0; decide, by show (0 : Int) ≤ 4; decide, by show (0 : Int) ≤ 0; decide, by show (0 : Int) ≤ 3; decide, fun x => absurd x (by show ¬ (1 : Int) ≤ 0; decide), fun j j0 j1 => by
    have : j = 0 := by have : j ≤ 0 := j1; omega
    subst this; exact Or.inl g0, Or.inr rfl, fun c hc => absurd hc List.not_mem_nil, rfl⟩
  by_cases gz : L = 0
  · obtain ⟨z1, z2⟩ := hz gz
    have zp : p' = 0 := by omega
    have zn : n = 0 := by omega
    have ef : fau n L ok p' = 0 := by unfold fau; rw [if_neg (by omega), if_pos ⟨z1, by omega⟩]
    refine ⟨G, ?_, fun _ => by rw [z2]; exact ⟨gR.1, trivial⟩, go⟩
    rw [e0, E116_44 hT hU, gz, if_neg (by decide), go 1 (by omega), i1, zn, if_neg (by decide), if_neg (by decide), E116_105 hU, E126_0 hU, show G 418 3 = 0 from gR.2.2.1, if_neg (by decide), E126_64]
    simp only [Option.bind_some, psh_u]
    rw [E116_110]
    rw [gz] at ef
    rw [zn] at ef
    rw [ef]
  · obtain ⟨σ', r1, r2, r3⟩ := hcl gz ([], [], 0, 0, G 421, 1) rfl rfl (fun _ => trivial) (fun _ => g0)
    obtain ⟨r0, r1⟩ := r1
    rw [Int.sub_zero] at r1
    obtain ⟨J, j1, j2, j3, j4⟩ := c_run (d := d + 1) (n := n) hT (by decide) hU Ln hn2 L40 ht p'.toNat 0 _ G (by rw [go 1 (by omega)]; exact i1) (fun j j0 j1 => by rw [go 2 (by omega)]; exact i2 j j0 j1) r1 gR gI (by decide) (by omega)
    rw [show (0 : Int) + (p'.toNat : Int) = p' by omega] at j1 j3
    have jo : ∀ x, (x < 418 ∨ 423 < x) → J x = I x := fun x hx => by rw [j4 x (by omega), go x hx]
    by_cases gp : p' < L
    · have hs : spt σ' (t p') = none := by
        rcases hok with ho | ho
        · exact (r3 ho).1 gp
        · obtain ⟨pend, p1, p2, p3, p4, p5, p6, p7⟩ := r2 ho
          exact spt_stop (ht p' hp0 (by omega)).2 p4 p7 gp (Or.inr (by omega))
      obtain ⟨K, k1, k2⟩ := c_refuse (d := d + 1) (n := n) hT (by decide) hU Ln hn2 L40 ht (by rw [jo 1 (by omega)]; exact i1) (fun j j0 j1 => by rw [jo 2 (by omega)]; exact i2 j j0 j1) j2 j3 hp0 gp hs
      have ef : fau n L ok p' = -1 - p' := by unfold fau; rw [if_neg (by omega), if_neg (by omega)]
      refine ⟨K, by rw [e0, j1, k1, ef], fun x => by omega, fun x hx => by rw [k2 x (by omega), jo x hx]⟩
    · have ep : p' = L := by omega
      obtain ⟨u1, u2, u3, u4, u5, u6, u7, u8⟩ := j2
      obtain ⟨i1', i2', i3', i4', i5', i6', i7', i8', i9', i10'⟩ := j3
      have e1 := E116_44 (d := d + 8) (a2 := L) (a3 := p') hT (I := J) hU
      rw [w_small (z := p') (by omega) (by omega), w_small (z := L) (by omega) (by omega), if_neg gp, jo 1 (by omega), i1, w_small (z := n) (by omega) (by omega)] at e1
      by_cases g40 : 40 < n
      · have ef : fau n L ok p' = -41 := by unfold fau; rw [if_pos ⟨g40, Or.inr (by omega)⟩]
        rw [if_pos g40] at e1
        exact ⟨J, by rw [e0, j1, e1, ef], fun x => by omega, jo⟩
      · rw [if_neg g40, if_pos (by omega), u8, w_small (z := zA σ') (by omega) (by omega), u5, w_small (z := zB σ') (by omega) (by omega), E116_101] at e1
        rcases hok with ho | ho
        · have ef : fau n L ok p' = -1 - p' := by unfold fau; rw [if_neg (by omega), if_neg (by omega)]
          have eb := (r3 ho).2 gp
          refine ⟨J, ?_, fun x => by omega, jo⟩
          rw [e0, j1, e1, ef, ep]
          by_cases ga : zA σ' = 0
          · rw [if_pos ga, if_pos (by omega)]
          · rw [if_neg ga]
        · have ef : fau n L ok p' = 0 := by unfold fau; rw [if_neg (by omega), if_pos ⟨ho, ep⟩]
          obtain ⟨pend, p1, p2, p3, p4, p5, p6, p7⟩ := r2 ho
          have rr := rls_fl (s := 1) pend [] (zO σ') p2 trivial
          have p1' : zH σ' = pend ++ [] := p1
          rw [← p1'] at rr
          obtain ⟨K, k1, k2, k3, k4, k5, k6, k7⟩ := c_rel (d := d + 6) (u := 418) (by decide) hU (by decide : (0 : Int) ≤ 1) (by decide) (zH σ') (zO σ') J u1 u2 u3 u4 (by omega) (fun c hc => ⟨(i9' c hc).1, (i9' c hc).2.1⟩)
          rw [rr] at k2 k3
          have p3' : fl (zO σ') pend = cs.map tk := by rw [p3]; exact List.append_nil _
          refine ⟨K, ?_, fun _ => ⟨by rw [k2]; show ((fl (zO σ') pend).length : Int) = _; rw [p3', List.length_map], by rw [← p3']; exact k3⟩, fun x hx => by rw [k7 x (by omega) (by omega), jo x hx]⟩
          rw [e0, j1, e1, if_pos p4, if_neg (by omega), E116_105 hU, k1]
          simp only [Option.bind_some, psh_u]
          rw [E116_110, ef]
end ra05
