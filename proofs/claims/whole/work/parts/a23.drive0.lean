/-! the makers of a lane and of a drive -/
def DRV (B J : II) (a : Int) : Prop := (∀ k, J a k = if k = 6 then 2 else B a k) ∧ (∀ c, 1 ≤ c → c < 4 → J (a + 3) c = 4 - c ∧ J (a + 4) c = 4 - c) ∧ (∀ c, 0 ≤ c → c < 4 → J (a + 5) c = 4) ∧ ∀ z, a < z → z < a + 31 → z ≠ a + 3 → z ≠ a + 4 → z ≠ a + 5 → ∀ k, J z k = 0
section r123
variable {d : Nat} {S T U : SS} {I J : II} {P P' : Int → Prop} {a b f k x g q : Int} {n : Nat}
theorem nwI_at : newI S I x k = if x = (S.1 : Int) then 0 else I x k := rfl
theorem KO_mk : KO (newS S k n) (S.1 : Int) k := by
  refine ⟨Int.natCast_nonneg _, ?_, ?_⟩
  · show (S.1 : Int) < ((S.1 + 1 : Nat) : Int)
    omega
  · show (if (S.1 : Int) = (S.1 : Int) then (k, (n : Int)) else sH S (S.1 : Int)).1 = k
    rw [if_pos rfl]
/-- a lane -/
theorem d74 (hO : KO S a 3) (hn : (S.1 : Int) = a + 1) : ∃ T J, ev d 74 0 [(2, a)] [] S I = some (uU, T, J) ∧ SP (fun x => x ≠ a) S T ∧ (T.1 : Int) = a + 4 ∧ T.2.1 = S.2.1 + 24 ∧ LA T a ∧ (∀ x, x < a + 1 → J x = I x) ∧ ∀ x, a + 1 ≤ x → x < a + 4 → ∀ k, J x k = 0 := by
  have hN := nfl_ok F74 S hO.1 hO.2.1 (by decide)
  have hN1 : (nfl a F74 S).1 = S.1 + 3 := hN.1
  have hN2 : (nfl a F74 S).2.1 = S.2.1 + 24 := hN.2.1
  have hI := nfm_ok (a := a) F74 S I
  have el : F74.length = 3 := rfl
  have hp : SP (fun x => x ≠ a) S (nfl a F74 S) := SP_NFL hN fun _ h => h
  refine ⟨_, _, K74 hO, hp, by omega, hN2, ⟨KO_p hp hO, NFL_at (y := (14, 20, 8)) hN 0 rfl (by omega), NFL_at (y := (15, 20, 8)) hN 1 rfl (by omega), NFL_at (y := (16, 20, 8)) hN 2 rfl (by omega)⟩, fun x hx => ?_, fun x x0 x1 k => ?_⟩
  · funext k
    rw [hI, el, if_neg (by omega)]
  · rw [hI, el, if_pos (by omega)]
/-- one lane of a drive's -/
theorem l14 (hO : KO S a 1) (hK : KA S (a + 1) 25 5) (hg : sG S a 1 = a + 1) (q0 : 0 ≤ q) (q1 : q < 5) (hn : (S.1 : Int) = a + 11 + 4 * q) : ∃ T J, ev (d + 1) 14 79 [(2, a), (0, q)] [] S I = ev (d + 1) 14 79 [(2, a), (0, q + 1)] [] T J ∧ SP (fun x => x ≠ a + 1) S T ∧ (T.1 : Int) = a + 11 + 4 * (q + 1) ∧ T.2.1 = S.2.1 + 41 ∧ sG T (a + 1) q = a + 11 + 4 * q ∧ (∀ j, j ≠ q → sG T (a + 1) j = sG S (a + 1) j) ∧ LA T (a + 11 + 4 * q) ∧ (∀ x, x < a + 11 + 4 * q → J x = I x) ∧ ∀ x, a + 11 + 4 * q ≤ x → x < a + 11 + 4 * (q + 1) → ∀ k, J x k = 0 := by
  have ha := hO.1
  have wq : w q = q := w_small (by omega) (by omega)
  have hO1 : KO (newS S 3 17) (a + 11 + 4 * q) 3 := by rw [← hn]; exact KO_mk
  have hn1 : ((newS S 3 17).1 : Int) = a + 11 + 4 * q + 1 := by show ((S.1 + 1 : Nat) : Int) = _; omega
  obtain ⟨T, J, e1, p1, p2, p3, p4, p5, p6⟩ := d74 (d := d) (I := newI S I) hO1 hn1
  have p3' : T.2.1 = S.2.1 + 17 + 24 := p3
  have hp0 : SP (fun x => x ≠ a + 11 + 4 * q) S T := SP_trans SP_new p1
  have hp : SP (fun x => x ≠ a + 1) T (T.1, T.2.1, T.2.2.1, up2 (sG T) (a + 1) q (a + 11 + 4 * q)) := SP_set fun _ h => h
  have hS1 : a + 1 < (S.1 : Int) := by omega
  have e2 : ev (d + 1) 14 79 [(2, a), (0, q)] [] S I = ev (d + 1) 14 79 [(2, a), (0, q + 1)] [] (T.1, T.2.1, T.2.2.1, up2 (sG T) (a + 1) q (a + 11 + 4 * q)) J := by
    rw [E14_79 hO, wq, if_pos q1, hn, hg, E14_92 (by omega), e1, Option.bind_some]
    show ev (d + 1) 14 96 [(2, a), (0, q)] [(2, a + 11 + 4 * q), (0, q), (2, a + 1)] T J = _
    rw [E14_96 (ln0 := 5) (KA_p hp0 hK) p4.1 (by rw [wq]; exact ⟨q0, q1⟩), wq, E14_97]
  refine ⟨_, J, e2, SP_sub (SP_trans (SP_sub (P' := fun x => x ≠ a + 1 ∧ x ≠ a + 11 + 4 * q) hp0 fun x _ h => h.2) (SP_sub hp fun x _ h => h.1)) (fun x hx h => ⟨h, by omega⟩), by show (T.1 : Int) = _; omega, by show T.2.1 = _; omega, up2_hit rfl rfl, fun j hj => ?_, LA_p hp (by omega) p4, fun x hx => ?_, fun x x0 x1 k => ?_⟩
  · show up2 (sG T) (a + 1) q (a + 11 + 4 * q) (a + 1) j = _
    rw [up2_miss (fun h => hj h.2), hp0.2.2 (a + 1) hS1 (by omega)]
  · rw [p5 x (by omega)]
    funext k
    rw [nwI_at, if_neg (by omega)]
  · by_cases c : x = a + 11 + 4 * q
    · rw [p5 x (by omega), nwI_at, if_pos (by omega)]
    · exact p6 x (by omega) (by omega) k
/-- all five -/
theorem l14s (hO : KO S a 1) (hK : KA S (a + 1) 25 5) (hg : sG S a 1 = a + 1) (hn : (S.1 : Int) = a + 11) : ∃ T J, ev (d + 1) 14 79 [(2, a), (0, 0)] [] S I = ev (d + 1) 14 110 [(2, a), (0, 1)] [] T (up2 J a 6 2) ∧ SP (fun x => x ≠ a + 1) S T ∧ (T.1 : Int) = a + 31 ∧ T.2.1 = S.2.1 + 205 ∧ (∀ q : Int, 0 ≤ q → q < 5 → sG T (a + 1) q = a + 11 + 4 * q ∧ LA T (a + 11 + 4 * q)) ∧ (∀ x, x < a + 11 → J x = I x) ∧ ∀ x, a + 11 ≤ x → x < a + 31 → ∀ k, J x k = 0 := by
  have ha := hO.1
  have hS1 : a < (S.1 : Int) := by omega
  have G : ∀ m : Nat, m ≤ 5 → ∃ T J, ev (d + 1) 14 79 [(2, a), (0, 0)] [] S I = ev (d + 1) 14 79 [(2, a), (0, (m : Int))] [] T J ∧ SP (fun x => x ≠ a + 1) S T ∧ (T.1 : Int) = a + 11 + 4 * m ∧ T.2.1 = S.2.1 + 41 * m ∧ (∀ q : Int, 0 ≤ q → q < m → sG T (a + 1) q = a + 11 + 4 * q ∧ LA T (a + 11 + 4 * q)) ∧ (∀ x, x < a + 11 → J x = I x) ∧ ∀ x, a + 11 ≤ x → x < a + 11 + 4 * m → ∀ k, J x k = 0 := by
    intro m
    induction m with
    | zero => intro _; exact ⟨S, I, rfl, SP_refl, by omega, by omega, fun q q0 q1 => by omega, fun _ _ => rfl, fun x x0 x1 => by omega⟩
    | succ m ih =>
      intro hm
      obtain ⟨T, J, e1, p1, p2, p3, p4, p5, p6⟩ := ih (by omega)
      obtain ⟨T', J', e2, r1, r2, r3, r4, r5, r6, r7, r8⟩ := l14 (d := d) (I := J) (q := (m : Int)) (KO_p p1 hO) (KA_p p1 hK) ((congrFun (p1.2.2 a hS1 (by omega)) 1).trans hg) (by omega) (by omega) p2
      refine ⟨T', J', ?_, SP_trans p1 r1, by omega, by omega, fun q q0 q1 => ?_, fun x hx => ?_, fun x x0 x1 k => ?_⟩
      · rw [e1, e2, show ((m + 1 : Nat) : Int) = (m : Int) + 1 by omega]
      · by_cases c : q = (m : Int)
        · rw [c]; exact ⟨r4, r6⟩
        · obtain ⟨z1, z2⟩ := p4 q q0 (by omega)
          exact ⟨(r5 q c).trans z1, LA_p r1 (by omega) z2⟩
      · rw [r7 x (by omega), p5 x hx]
      · by_cases c : x < a + 11 + 4 * m
        · rw [r7 x c]; exact p6 x x0 c k
        · exact r8 x (by omega) (by omega) k
  obtain ⟨T, J, e1, p1, p2, p3, p4, p5, p6⟩ := G 5 (by decide)
  refine ⟨T, J, ?_, p1, by omega, by omega, fun q q0 q1 => p4 q q0 (by omega), p5, fun x x0 x1 => p6 x x0 (by omega)⟩
  rw [e1, E14_79 (KO_p p1 hO), w_small (by decide) (by decide), if_neg (by decide)]
theorem d14 (hO : KO S a 1) (hn : (S.1 : Int) = a + 1) : ∃ T J, ev (d + 1) 14 0 [(2, a), uU] [] S I = some (uU, T, J) ∧ SP (fun x => x ≠ a) S T ∧ (T.1 : Int) = a + 31 ∧ T.2.1 = S.2.1 + 328 ∧ DA T a ∧ (∀ x, x < a → J x = I x) ∧ DRV I J a := by
  have ha := hO.1
  have hS1 : a < (S.1 : Int) := by omega
  have hz1 : ∀ z : Int, a < z → z ≠ a := fun z h => by omega
  have hz2 : ∀ z : Int, a < z → z < a + 11 → (S.1 : Int) ≤ z ∧ z < (S.1 : Int) + ((10 : Nat) : Int) := fun z h1 h2 => by omega
  have hz3 : ∀ z : Int, ¬ z < a + 11 → a + 11 ≤ z := fun z h => by omega
  have hN := nfl_ok F14 S hO.1 hO.2.1 (by decide)
  have hI := nfm_ok (a := a) F14 S I
  have e0 := K14 (d := d + 1) (I := I) hO
  have hp : SP (fun x => x ≠ a) S (nfl a F14 S) := SP_NFL hN fun _ h => h
  generalize nfl a F14 S = T0 at *
  generalize nfm a F14 S I = J0 at *
  have el : F14.length = 10 := rfl
  rw [el] at hI
  have hN1 : T0.1 = S.1 + 10 := hN.1
  have hN2 : T0.2.1 = S.2.1 + 123 := hN.2.1
  have hO1 := KO_p hp hO
  have g0 := NFL_at (y := (1, 25, 5)) (c := a + 1) hN 0 rfl (by omega)
  have g1 := NFL_at (y := (2, 20, 10)) (c := a + 2) hN 1 rfl (by omega)
  have g2 := NFL_at (y := (3, 20, 4)) (c := a + 3) hN 2 rfl (by omega)
  have g3 := NFL_at (y := (4, 20, 4)) (c := a + 4) hN 3 rfl (by omega)
  have g4 := NFL_at (y := (5, 20, 4)) (c := a + 5) hN 4 rfl (by omega)
  have g5 := NFL_at (y := (11, 20, 4)) (c := a + 6) hN 5 rfl (by omega)
  have g6 := NFL_at (y := (12, 20, 4)) (c := a + 7) hN 6 rfl (by omega)
  have g7 := NFL_at (y := (13, 20, 4)) (c := a + 8) hN 7 rfl (by omega)
  have g8 := NFL_at (y := (14, 20, 4)) (c := a + 9) hN 8 rfl (by omega)
  have g9 := NFL_at (y := (16, 20, 80)) (c := a + 10) hN 9 rfl (by omega)
  obtain ⟨T, J, e1, p1, p2, p3, p4, p5, p6⟩ := l14s (d := d) (I := J0) hO1 g0.2 g0.1 (by omega)
  have hT1 : a < (T0.1 : Int) := by omega
  have ne : a ≠ a + 1 := by omega
  have hA : DA T a := ⟨KO_p p1 hO1, PEp p1 ne hT1 g0, p4, PEp p1 ne hT1 g1, PEp p1 ne hT1 g2, PEp p1 ne hT1 g3, PEp p1 ne hT1 g4, PEp p1 ne hT1 g5, PEp p1 ne hT1 g6, PEp p1 ne hT1 g7, PEp p1 ne hT1 g8, PEp p1 ne hT1 g9⟩
  have k3 := DA_k3 hA
  have k4 := DA_k4 hA
  have s1 : ∀ (i : Int) (M : II), 1 ≤ i → i < 4 → ev (d + 1) 14 110 [(2, a), (0, i)] [] T M = ev (d + 1) 14 110 [(2, a), (0, i + 1)] [] T (up2 (up2 M (a + 3) i (4 - i)) (a + 4) i (4 - i)) := fun i M i0 i1 => by
    rw [E14_110 (ln1 := 4) (ln2 := 4) (KO_p p1 hO1) (by rw [DA_g3 hA]; exact k3) (by rw [DA_g4 hA]; exact k4), w_small (z := i) (by omega) (by omega), if_pos i1, gdR_pos (by omega), gdR_pos (by omega), DA_g3 hA, DA_g4 hA]
  generalize hM : up2 (up2 (up2 (up2 (up2 (up2 (up2 J a 6 2) (a + 3) 1 (4 - 1)) (a + 4) 1 (4 - 1)) (a + 3) (1 + 1) (4 - (1 + 1))) (a + 4) (1 + 1) (4 - (1 + 1))) (a + 3) (1 + 1 + 1) (4 - (1 + 1 + 1))) (a + 4) (1 + 1 + 1) (4 - (1 + 1 + 1)) = M
  obtain ⟨M', f1, f2, f3⟩ := c_fill4 (d := d) (I := M) (DA_k5 hA) (v := 4)
  have e2 : ev (d + 1) 14 110 [(2, a), (0, 1)] [] T (up2 J a 6 2) = some (uU, T, M') := by
    rw [s1 1 _ (by decide) (by decide), s1 (1 + 1) _ (by decide) (by decide), s1 (1 + 1 + 1) _ (by decide) (by decide), hM, E14_110 (ln1 := 4) (ln2 := 4) (KO_p p1 hO1) (by rw [DA_g3 hA]; exact k3) (by rw [DA_g4 hA]; exact k4), w_small (z := 1 + 1 + 1 + 1) (by decide) (by decide), if_neg (by decide), DA_g5 hA, f1, Option.bind_some]
    exact E14_147
  clear s1
  refine ⟨T, M', e0.trans (E14_77.trans (e1.trans e2)), SP_sub (SP_trans (SP_sub (P' := fun x => x ≠ a ∧ x ≠ a + 1) hp fun x _ h => h.1) (SP_sub p1 fun x _ h => h.2)) (fun x hx h => ⟨h, by omega⟩), p2, by omega, hA, fun x hx => ?_, fun k => ?_, fun c c0 c1 => ⟨?_, ?_⟩, fun c c0 c1 => f2 c c0 c1, fun z z0 z1 z3 z4 z5 k => ?_⟩
  · rw [f3 x (by omega), ← hM]
    funext k
    iterate 7 rw [up2_miss (by omega)]
    rw [p5 x (by omega), hI, if_neg (by omega)]
  · rw [f3 a (by omega), ← hM]
    iterate 6 rw [up2_miss (by omega)]
    by_cases c : k = 6
    · rw [if_pos c, up2_hit rfl c]
    · rw [if_neg c, up2_miss (fun h => c h.2), p5 a (by omega), hI, if_neg (by omega)]
  · rw [f3 (a + 3) (by omega), ← hM]
    rcases (show c = 1 ∨ c = 2 ∨ c = 3 by omega) with rfl | rfl | rfl <;> simp [up2]
  · rw [f3 (a + 4) (by omega), ← hM]
    rcases (show c = 1 ∨ c = 2 ∨ c = 3 by omega) with rfl | rfl | rfl <;> simp [up2]
  · rw [f3 z z5, ← hM, up2_miss (fun h => z4 h.1), up2_miss (fun h => z3 h.1), up2_miss (fun h => z4 h.1), up2_miss (fun h => z3 h.1), up2_miss (fun h => z4 h.1), up2_miss (fun h => z3 h.1), up2_miss (fun h => hz1 z z0 h.1)]
    by_cases c : z < a + 11
    · rw [p5 z c, hI, if_pos (hz2 z z0 c)]
    · exact p6 z (hz3 z c) z1 k
end r123
