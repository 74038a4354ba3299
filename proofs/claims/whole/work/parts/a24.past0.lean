/-! the maker of the past -/
section r124
variable {d : Nat} {S T U : SS} {I J : II} {a b f k x g q : Int} {n : Nat}
theorem p1a (hO : KO S 67 4) (hK : KA S 68 24 9) (hg : sG S 67 0 = 68) (q0 : 0 ≤ q) (q1 : q < 9) (hn : (S.1 : Int) = 71 + 31 * q) : ∃ T J, ev (d + 2) 101 30 [(2, 67), (0, q)] [] S I = ev (d + 2) 101 30 [(2, 67), (0, q + 1)] [] T J ∧ SP (fun x => x ≠ 68) S T ∧ (T.1 : Int) = 71 + 31 * (q + 1) ∧ T.2.1 = S.2.1 + 345 ∧ sG T 68 q = 71 + 31 * q ∧ (∀ j, j ≠ q → sG T 68 j = sG S 68 j) ∧ DA T (71 + 31 * q) ∧ ∀ x, x < 71 + 31 * q → J x = I x := by
  have wq : w q = q := w_small (by omega) (by omega)
  have hO1 : KO (newS S 1 17) (71 + 31 * q) 1 := by rw [← hn]; exact KO_mk
  have hn1 : ((newS S 1 17).1 : Int) = 71 + 31 * q + 1 := by show ((S.1 + 1 : Nat) : Int) = _; omega
  obtain ⟨T, J, e1, p1, p2, p3, p4, p5, -⟩ := d14 (d := d) (I := newI S I) hO1 hn1
  have p3' : T.2.1 = S.2.1 + 17 + 328 := p3
  have hp0 : SP (fun x => x ≠ 71 + 31 * q) S T := SP_trans SP_new p1
  have hp : SP (fun x => x ≠ 68) T (T.1, T.2.1, T.2.2.1, up2 (sG T) 68 q (71 + 31 * q)) := SP_set fun _ h => h
  have hS1 : (68 : Int) < (S.1 : Int) := by omega
  have e2 : ev (d + 2) 101 30 [(2, 67), (0, q)] [] S I = ev (d + 2) 101 30 [(2, 67), (0, q + 1)] [] (T.1, T.2.1, T.2.2.1, up2 (sG T) 68 q (71 + 31 * q)) J := by
    rw [E101_30 hO, wq, if_neg (by omega), hn, hg, E101_44 (d := d + 1) (by omega), e1, Option.bind_some]
    show ev (d + 2) 101 48 [(2, 67), (0, q)] [(2, 71 + 31 * q), (0, q), (2, 68)] T J = _
    rw [E101_48 (ln0 := 9) (KA_p hp0 hK) p4.1 (by rw [wq]; exact ⟨q0, q1⟩), wq, E101_49]
  refine ⟨_, J, e2, SP_sub (SP_trans (SP_sub (P' := fun x => x ≠ 68 ∧ x ≠ 71 + 31 * q) hp0 fun x _ h => h.2) (SP_sub hp fun x _ h => h.1)) (fun x hx h => ⟨h, by omega⟩), by show (T.1 : Int) = _; omega, by show T.2.1 = _; omega, up2_hit rfl rfl, fun j hj => ?_, DA_p hp (fun x x0 x1 => by omega) p4, fun x hx => ?_⟩
  · show up2 (sG T) 68 q (71 + 31 * q) 68 j = _
    rw [up2_miss (fun h => hj h.2), hp0.2.2 68 hS1 (by omega)]
  · rw [p5 x (by omega)]
    funext k
    rw [nwI_at, if_neg (by omega)]
theorem p1as (hO : KO S 67 4) (hK : KA S 68 24 9) (hg : sG S 67 0 = 68) (hn : (S.1 : Int) = 71) : ∃ T J, ev (d + 2) 101 30 [(2, 67), (0, 0)] [] S I = ev (d + 2) 101 30 [(2, 67), (0, 9)] [] T J ∧ SP (fun x => x ≠ 68) S T ∧ (T.1 : Int) = 350 ∧ T.2.1 = S.2.1 + 3105 ∧ (∀ q : Int, 0 ≤ q → q < 9 → sG T 68 q = 71 + 31 * q ∧ DA T (71 + 31 * q)) ∧ ∀ x, x < 71 → J x = I x := by
  have G : ∀ m : Nat, m ≤ 9 → ∃ T J, ev (d + 2) 101 30 [(2, 67), (0, 0)] [] S I = ev (d + 2) 101 30 [(2, 67), (0, (m : Int))] [] T J ∧ SP (fun x => x ≠ 68) S T ∧ (T.1 : Int) = 71 + 31 * m ∧ T.2.1 = S.2.1 + 345 * m ∧ (∀ q : Int, 0 ≤ q → q < m → sG T 68 q = 71 + 31 * q ∧ DA T (71 + 31 * q)) ∧ ∀ x, x < 71 → J x = I x := by
    intro m
    induction m with
    | zero => intro _; exact ⟨S, I, rfl, SP_refl, by omega, by omega, fun q q0 q1 => by omega, fun _ _ => rfl⟩
    | succ m ih =>
      intro hm
      obtain ⟨T, J, e1, p1, p2, p3, p4, p5⟩ := ih (by omega)
      obtain ⟨T', J', e2, r1, r2, r3, r4, r5, r6, r7⟩ := p1a (d := d) (I := J) (q := (m : Int)) (KO_p p1 hO) (KA_p p1 hK) ((congrFun (p1.2.2 67 (by omega) (by omega)) 0).trans hg) (by omega) (by omega) p2
      refine ⟨T', J', ?_, SP_trans p1 r1, by omega, r3.trans (by rw [p3, Nat.mul_add_one, Nat.add_assoc]), fun q q0 q1 => ?_, fun x hx => ?_⟩
      · rw [e1, e2, show ((m + 1 : Nat) : Int) = (m : Int) + 1 by omega]
      · by_cases c : q = (m : Int)
        · rw [c]; exact ⟨r4, r6⟩
        · obtain ⟨z1, z2⟩ := p4 q q0 (by omega)
          exact ⟨(r5 q c).trans z1, DA_p r1 (fun x x0 x1 => by omega) z2⟩
      · rw [r7 x (by omega), p5 x hx]
  obtain ⟨T, J, e1, p1, p2, p3, p4, p5⟩ := G 9 (by decide)
  exact ⟨T, J, e1, p1, by omega, by omega, fun q q0 q1 => p4 q q0 (by omega), p5⟩
theorem p1b (hO : KO S 67 4) (hK : KA S 69 24 2) (hg : sG S 67 3 = 69) (q0 : 0 ≤ q) (q1 : q < 2) (hn : (S.1 : Int) = 350 + 31 * q) : ∃ T J, ev (d + 2) 101 57 [(2, 67), (0, q)] [] S I = ev (d + 2) 101 57 [(2, 67), (0, q + 1)] [] T J ∧ SP (fun x => x ≠ 69) S T ∧ (T.1 : Int) = 350 + 31 * (q + 1) ∧ T.2.1 = S.2.1 + 345 ∧ sG T 69 q = 350 + 31 * q ∧ (∀ j, j ≠ q → sG T 69 j = sG S 69 j) ∧ DA T (350 + 31 * q) ∧ ∀ x, x < 350 + 31 * q → J x = I x := by
  have wq : w q = q := w_small (by omega) (by omega)
  have hO1 : KO (newS S 1 17) (350 + 31 * q) 1 := by rw [← hn]; exact KO_mk
  have hn1 : ((newS S 1 17).1 : Int) = 350 + 31 * q + 1 := by show ((S.1 + 1 : Nat) : Int) = _; omega
  obtain ⟨T, J, e1, p1, p2, p3, p4, p5, -⟩ := d14 (d := d) (I := newI S I) hO1 hn1
  have p3' : T.2.1 = S.2.1 + 17 + 328 := p3
  have hp0 : SP (fun x => x ≠ 350 + 31 * q) S T := SP_trans SP_new p1
  have hp : SP (fun x => x ≠ 69) T (T.1, T.2.1, T.2.2.1, up2 (sG T) 69 q (350 + 31 * q)) := SP_set fun _ h => h
  have hS1 : (69 : Int) < (S.1 : Int) := by omega
  have e2 : ev (d + 2) 101 57 [(2, 67), (0, q)] [] S I = ev (d + 2) 101 57 [(2, 67), (0, q + 1)] [] (T.1, T.2.1, T.2.2.1, up2 (sG T) 69 q (350 + 31 * q)) J := by
    rw [E101_57 hO, wq, if_pos q1, hn, hg, E101_70 (d := d + 1) (by omega), e1, Option.bind_some]
    show ev (d + 2) 101 74 [(2, 67), (0, q)] [(2, 350 + 31 * q), (0, q), (2, 69)] T J = _
    rw [E101_74 (ln0 := 2) (KA_p hp0 hK) p4.1 (by rw [wq]; exact ⟨q0, q1⟩), wq, E101_75]
  refine ⟨_, J, e2, SP_sub (SP_trans (SP_sub (P' := fun x => x ≠ 69 ∧ x ≠ 350 + 31 * q) hp0 fun x _ h => h.2) (SP_sub hp fun x _ h => h.1)) (fun x hx h => ⟨h, by omega⟩), by show (T.1 : Int) = _; omega, by show T.2.1 = _; omega, up2_hit rfl rfl, fun j hj => ?_, DA_p hp (fun x x0 x1 => by omega) p4, fun x hx => ?_⟩
  · show up2 (sG T) 69 q (350 + 31 * q) 69 j = _
    rw [up2_miss (fun h => hj h.2), hp0.2.2 69 hS1 (by omega)]
  · rw [p5 x (by omega)]
    funext k
    rw [nwI_at, if_neg (by omega)]
theorem p1bs (hO : KO S 67 4) (hK : KA S 69 24 2) (hg : sG S 67 3 = 69) (hn : (S.1 : Int) = 350) : ∃ T J, ev (d + 2) 101 57 [(2, 67), (0, 0)] [] S I = ev (d + 2) 101 57 [(2, 67), (0, 2)] [] T J ∧ SP (fun x => x ≠ 69) S T ∧ (T.1 : Int) = 412 ∧ T.2.1 = S.2.1 + 690 ∧ (∀ q : Int, 0 ≤ q → q < 2 → sG T 69 q = 350 + 31 * q ∧ DA T (350 + 31 * q)) ∧ ∀ x, x < 350 → J x = I x := by
  have G : ∀ m : Nat, m ≤ 2 → ∃ T J, ev (d + 2) 101 57 [(2, 67), (0, 0)] [] S I = ev (d + 2) 101 57 [(2, 67), (0, (m : Int))] [] T J ∧ SP (fun x => x ≠ 69) S T ∧ (T.1 : Int) = 350 + 31 * m ∧ T.2.1 = S.2.1 + 345 * m ∧ (∀ q : Int, 0 ≤ q → q < m → sG T 69 q = 350 + 31 * q ∧ DA T (350 + 31 * q)) ∧ ∀ x, x < 350 → J x = I x := by
    intro m
    induction m with
    | zero => intro _; exact ⟨S, I, rfl, SP_refl, by omega, by omega, fun q q0 q1 => by omega, fun _ _ => rfl⟩
    | succ m ih =>
      intro hm
      obtain ⟨T, J, e1, p1, p2, p3, p4, p5⟩ := ih (by omega)
      obtain ⟨T', J', e2, r1, r2, r3, r4, r5, r6, r7⟩ := p1b (d := d) (I := J) (q := (m : Int)) (KO_p p1 hO) (KA_p p1 hK) ((congrFun (p1.2.2 67 (by omega) (by omega)) 3).trans hg) (by omega) (by omega) p2
      refine ⟨T', J', ?_, SP_trans p1 r1, by omega, r3.trans (by rw [p3, Nat.mul_add_one, Nat.add_assoc]), fun q q0 q1 => ?_, fun x hx => ?_⟩
      · rw [e1, e2, show ((m + 1 : Nat) : Int) = (m : Int) + 1 by omega]
      · by_cases c : q = (m : Int)
        · rw [c]; exact ⟨r4, r6⟩
        · obtain ⟨z1, z2⟩ := p4 q q0 (by omega)
          exact ⟨(r5 q c).trans z1, DA_p r1 (fun x x0 x1 => by omega) z2⟩
      · rw [r7 x (by omega), p5 x hx]
  obtain ⟨T, J, e1, p1, p2, p3, p4, p5⟩ := G 2 (by decide)
  exact ⟨T, J, e1, p1, by omega, by omega, fun q q0 q1 => p4 q q0 (by omega), p5⟩
theorem p101 (hO : KO S 67 4) (hn : (S.1 : Int) = 68) : ∃ T J, ev (d + 2) 101 0 [(2, 67), uU] [] S I = some (uU, T, J) ∧ SP (fun x => x ≠ 67) S T ∧ (T.1 : Int) = 412 ∧ T.2.1 = S.2.1 + 3808 ∧ PA T 67 ∧ (∀ x, x < 68 → J x = I x) ∧ ∀ k, J 70 k = 0 := by
  have hN := nfl_ok F101 S hO.1 hO.2.1 (by decide)
  have hI := nfm_ok (a := 67) F101 S I
  have e0 := K101 (d := d + 2) (I := I) hO
  have hp : SP (fun x => x ≠ 67) S (nfl 67 F101 S) := SP_NFL hN fun _ h => h
  generalize nfl 67 F101 S = T0 at *
  generalize nfm 67 F101 S I = J0 at *
  have el : F101.length = 3 := rfl
  rw [el] at hI
  have hN1 : T0.1 = S.1 + 3 := hN.1
  have hN2 : T0.2.1 = S.2.1 + 13 := hN.2.1
  have hO1 := KO_p hp hO
  have g0 := NFL_at (y := (0, 24, 9)) (c := 67 + 1) hN 0 rfl (by omega)
  have g1 := NFL_at (y := (3, 24, 2)) (c := 67 + 2) hN 1 rfl (by omega)
  have g2 := NFL_at (y := (4, 23, 2)) (c := 67 + 3) hN 2 rfl (by omega)
  obtain ⟨T1, J1, e1, p1, p2, p3, p4, p5⟩ := p1as (d := d) (I := J0) hO1 g0.2 g0.1 (by omega)
  have hO2 := KO_p p1 hO1
  have hT0 : (67 : Int) < (T0.1 : Int) := by omega
  have g0' := PEp p1 (by decide) hT0 g0
  have g1' := PEp p1 (by decide) hT0 g1
  have g2' := PEp p1 (by decide) hT0 g2
  have x1 : ev (d + 2) 101 30 [(2, 67), (0, 9)] [] T1 J1 = ev (d + 2) 101 57 [(2, 67), (0, 0)] [] T1 J1 := by
    rw [E101_30 hO2, w_small (z := 9) (by decide) (by decide), if_pos (by decide)]
  obtain ⟨T2, J2, e2, r1, r2, r3, r4, r5⟩ := p1bs (d := d) (I := J1) hO2 g1'.2 g1'.1 (by omega)
  have hO3 := KO_p r1 hO2
  have hT1 : (67 : Int) < (T1.1 : Int) := by omega
  have x2 : ev (d + 2) 101 57 [(2, 67), (0, 2)] [] T2 J2 = some (uU, T2, J2) := by
    rw [E101_57 hO3, w_small (z := 2) (by decide) (by decide), if_neg (by decide)]
  refine ⟨T2, J2, e0.trans (E101_28.trans (e1.trans (x1.trans (e2.trans x2)))), ?_, r2, by omega, ⟨hO3, PEp r1 (by decide) hT1 g0', fun q q0 q1 => ?_, PEp r1 (by decide) hT1 g1', r4, PEp r1 (by decide) hT1 g2'⟩, fun x hx => ?_, fun k => ?_⟩
  · refine SP_sub (P := fun x => x < 68 ∧ x ≠ 67) (SP_trans (SP_sub hp fun x _ h => h.2) (SP_trans (SP_sub p1 fun x _ h => by have := h.1; omega) (SP_sub r1 fun x _ h => by have := h.1; omega))) (fun x hx h => ⟨by omega, h⟩)
  · obtain ⟨z1, z2⟩ := p4 q q0 q1
    exact ⟨(congrFun (r1.2.2 68 (by omega) (by decide)) q).trans z1, DA_p r1 (fun x x0 x1 => by omega) z2⟩
  · rw [r5 x (by omega), p5 x (by omega)]
    funext k
    rw [hI, if_neg (by omega)]
  · rw [r5 70 (by decide), p5 70 (by decide), hI, if_pos (by omega)]
end r124
