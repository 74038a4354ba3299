/-! the reference's object as it is made -/
def row0 : RW := fun j => if 815 ≤ j ∧ j < 818 then 818 - j else if 819 ≤ j ∧ j < 822 then 822 - j else if 822 ≤ j ∧ j < 826 then 4 else if j = 826 then 2 else 0
section r126
variable {d : Nat} {S T U T0 : SS} {I J : II} {a b c f k x g : Int} {n : Nat}
theorem m206 (hO : KO S 427 9) (hn : (S.1 : Int) = 428) : ∃ T J, ev d 206 0 [(2, 427), uU] [] S I = some (uU, T, J) ∧ SP (fun x => x ≠ 427) S T ∧ (T.1 : Int) = 455 ∧ T.2.1 = S.2.1 + 11901 ∧ MA T 427 ∧ (∀ x, x < 428 → J x = I x) ∧ (∀ x, 428 ≤ x → x < 455 → x ≠ 438 → ∀ k, J x k = 0) ∧ ∀ k, J 438 k = row0 k := by
  have hN := nfl_ok F206 S hO.1 hO.2.1 (by decide)
  have e0 := K206 (d := d) (I := I) hO
  have hI := nfm_ok (a := 427) F206 S I
  have hp : SP (fun x => x ≠ 427) S (nfl 427 F206 S) := SP_NFL hN fun _ h => h
  generalize nfl 427 F206 S = T at *
  generalize nfm 427 F206 S I = J0 at *
  have hN1 : T.1 = S.1 + 27 := hN.1
  have hN2 : T.2.1 = S.2.1 + 11901 := hN.2.1
  have hO1 := KO_p hp hO
  have g0 := NFL_at (y := (2, 21, 24)) (c := 428) hN 0 rfl (by omega)
  have g1 := NFL_at (y := (3, 20, 80)) (c := 429) hN 1 rfl (by omega)
  have g2 := NFL_at (y := (8, 20, 80)) (c := 430) hN 2 rfl (by omega)
  have g3 := NFL_at (y := (9, 20, 80)) (c := 431) hN 3 rfl (by omega)
  have g4 := NFL_at (y := (12, 20, 80)) (c := 432) hN 4 rfl (by omega)
  have g5 := NFL_at (y := (13, 20, 7)) (c := 433) hN 5 rfl (by omega)
  have g6 := NFL_at (y := (16, 20, 5)) (c := 434) hN 6 rfl (by omega)
  have g7 := NFL_at (y := (17, 20, 5)) (c := 435) hN 7 rfl (by omega)
  have g8 := NFL_at (y := (18, 20, 5)) (c := 436) hN 8 rfl (by omega)
  have g9 := NFL_at (y := (19, 20, 5)) (c := 437) hN 9 rfl (by omega)
  have g10 := NFL_at (y := (20, 20, 844)) (c := 438) hN 10 rfl (by omega)
  have g11 := NFL_at (y := (21, 20, 844)) (c := 439) hN 11 rfl (by omega)
  have g12 := NFL_at (y := (23, 20, 7596)) (c := 440) hN 12 rfl (by omega)
  have g13 := NFL_at (y := (27, 20, 80)) (c := 441) hN 13 rfl (by omega)
  have g14 := NFL_at (y := (28, 20, 80)) (c := 442) hN 14 rfl (by omega)
  have g15 := NFL_at (y := (29, 20, 80)) (c := 443) hN 15 rfl (by omega)
  have g16 := NFL_at (y := (30, 20, 80)) (c := 444) hN 16 rfl (by omega)
  have g17 := NFL_at (y := (31, 20, 80)) (c := 445) hN 17 rfl (by omega)
  have g18 := NFL_at (y := (33, 20, 4)) (c := 446) hN 18 rfl (by omega)
  have g19 := NFL_at (y := (34, 20, 5)) (c := 447) hN 19 rfl (by omega)
  have g20 := NFL_at (y := (37, 20, 12)) (c := 448) hN 20 rfl (by omega)
  have g21 := NFL_at (y := (38, 20, 12)) (c := 449) hN 21 rfl (by omega)
  have g22 := NFL_at (y := (39, 20, 41)) (c := 450) hN 22 rfl (by omega)
  have g23 := NFL_at (y := (40, 20, 80)) (c := 451) hN 23 rfl (by omega)
  have g24 := NFL_at (y := (42, 23, 2)) (c := 452) hN 24 rfl (by omega)
  have g25 := NFL_at (y := (43, 20, 2)) (c := 453) hN 25 rfl (by omega)
  have g26 := NFL_at (y := (44, 20, 1688)) (c := 454) hN 26 rfl (by omega)
  have gg : sG T 427 20 = 438 := g10.1
  have kk : KA T 438 20 844 := g10.2
  have kG : KA T (sG T 427 20) 20 844 := by rw [gg]; exact kk
  have s1 : ∀ (i : Int) (I : II), 1 ≤ i → i < 4 → ev d 206 218 [(2, 427), (0, i)] [] T I = ev d 206 218 [(2, 427), (0, i + 1)] [] T (up2 (up2 I 438 (814 + i) (4 - i)) 438 (818 + i) (4 - i)) := fun i I i0 i1 => by
    rw [E206_218 (ln1 := 844) hO1 kG, w_small (z := i) (by omega) (by omega), if_pos i1, w_small (z := 814 + i) (by omega) (by omega), w_small (z := 818 + i) (by omega) (by omega), gdR_pos (by omega), gdR_pos (by omega), gg]
  have s2 : ∀ (I : II), ev d 206 218 [(2, 427), (0, 4)] [] T I = ev d 206 257 [(2, 427), (0, 0)] [] T I := fun I => by
    rw [E206_218 (ln1 := 844) hO1 kG, w_small (z := 4) (by decide) (by decide), if_neg (by decide)]
  have s3 : ∀ (i : Int) (I : II), 0 ≤ i → i < 4 → ev d 206 257 [(2, 427), (0, i)] [] T I = ev d 206 257 [(2, 427), (0, i + 1)] [] T (up2 I 438 (822 + i) 4) := fun i I i0 i1 => by
    rw [E206_257 (ln1 := 844) hO1 kG, w_small (z := i) (by omega) (by omega), if_pos i1, w_small (z := 822 + i) (by omega) (by omega), gdR_pos (by omega), gg]
  have s4 : ∀ (I : II), ev d 206 257 [(2, 427), (0, 4)] [] T I = some (uU, T, up2 I 438 826 2) := fun I => by
    rw [E206_257 (ln1 := 844) hO1 kG, w_small (z := 4) (by decide) (by decide), if_neg (by decide), w_small (z := 826) (by decide) (by decide), gdR_pos (by decide), gg]
  have t1 : ∀ I : II, ev d 206 216 [(2, 427), uU] [] T I = some (uU, T, up2 (up2 (up2 (up2 (up2 (up2 (up2 (up2 (up2 (up2 (up2 I 438 (814 + 1) (4 - 1)) 438 (818 + 1) (4 - 1)) 438 (814 + 2) (4 - 2)) 438 (818 + 2) (4 - 2)) 438 (814 + 3) (4 - 3)) 438 (818 + 3) (4 - 3)) 438 (822 + 0) 4) 438 (822 + 1) 4) 438 (822 + 2) 4) 438 (822 + 3) 4) 438 826 2) := fun I =>
    E206_216.trans ((s1 1 _ (by decide) (by decide)).trans ((s1 2 _ (by decide) (by decide)).trans ((s1 3 _ (by decide) (by decide)).trans ((s2 _).trans ((s3 0 _ (by decide) (by decide)).trans ((s3 1 _ (by decide) (by decide)).trans ((s3 2 _ (by decide) (by decide)).trans ((s3 3 _ (by decide) (by decide)).trans (s4 _)))))))))
  have e1 := e0.trans (t1 J0)
  clear s1 s2 s3 s4 t1 e0
  have el : F206.length = 27 := rfl
  refine ⟨T, _, e1, hp, by omega, hN2, ⟨hO1, g0, g1, g2, g3, g4, g5, g6, g7, g8, g9, g10, g11, g12, g13, g14, g15, g16, g17, g18, g19, g20, g21, g22, g23, g24, g25, g26⟩, fun x hx => ?_, fun x x0 x1 x2 k => ?_, fun k => ?_⟩
  · funext k
    repeat rw [up2_miss (by omega)]
    rw [hI, if_neg (by rw [el]; omega)]
  · repeat rw [up2_miss (by omega)]
    rw [hI, if_pos (by rw [el]; omega)]
  · have z : J0 438 k = 0 := by rw [hI, if_pos (by rw [el]; omega)]
    unfold up2 row0
    by_cases c : 815 ≤ k ∧ k ≤ 826
    · obtain ⟨c0, c1⟩ := c
      rcases (show k = 815 ∨ k = 816 ∨ k = 817 ∨ k = 818 ∨ k = 819 ∨ k = 820 ∨ k = 821 ∨ k = 822 ∨ k = 823 ∨ k = 824 ∨ k = 825 ∨ k = 826 by omega) with rfl | rfl | rfl | rfl | rfl | rfl | rfl | rfl | rfl | rfl | rfl | rfl <;> simp [z]
    · rw [if_neg (by omega), if_neg (by omega), if_neg (by omega), if_neg (by omega), if_neg (by omega), if_neg (by omega), if_neg (by omega), if_neg (by omega), if_neg (by omega), if_neg (by omega), if_neg (by omega), z, if_neg (by omega), if_neg (by omega), if_neg (by omega), if_neg (by omega)]
end r126
