/-! the law's loop -/
theorem and63 (z : Int) : iAnd z 63 = z % 64 := by
  have h1 : iAnd z 63 = (BitVec.ofInt 32 z &&& 63#32).toInt := rfl
  have h2 : (BitVec.ofInt 32 z &&& 63#32).toNat = (BitVec.ofInt 32 z).toNat % 64 := by
    rw [BitVec.toNat_and]; exact Nat.and_two_pow_sub_one_eq_mod _ 6
  have h3 : (BitVec.ofInt 32 z).toNat = (z % 4294967296).toNat := BitVec.toNat_ofInt ..
  rw [h1, bv_int (by omega), h2, h3]; omega
section r131
variable {d : Nat} {S : SS} {I : II} {N i L : Int} {x5 x6 x7 : AV}
theorem lc_all (k : Nat) (hk : k < 42) (hS : LOK S) (h : ST N I) (hN0 : 100 ≤ N) (hN : N < 66000000) (hI : ∀ k, isI (I (-2) k)) (hs : SCR S i L) (h5 : x5.1 ≠ 1) (hN1 : (455 : Int) < (S.1 : Int)) : ∃ (o : Int) (P : Nat), (#[181, 206, 231, 244, 257, 325, 386, 447, 472, 497, 522, 559, 572, 609, 634, 647, 660, 685, 698, 711, 736, 761, 786, 799, 824, 861, 874, 899, 924, 937, 974, 987, 1024, 1037, 1050, 1063, 1112, 1125, 1162, 1187, 1212, 1237] : Array Int)[k]? = some o ∧ (39 : Int) + o = P ∧ LXE (d + 2) N S I P i x5 x6 x7 := by
  match k, hk with
  | 0, _ => exact ⟨181, 220, rfl, by decide, (lc_sign hS.1 h hN0 hN hI hs).e h5⟩
  | 1, _ => exact ⟨206, 245, rfl, by decide, (lc_end hS.1 h hN0 hN hI hs).e h5⟩
  | 2, _ => exact ⟨231, 270, rfl, by decide, (lc_queues hS.1 h hN0 hN hI hs).e h5⟩
  | 3, _ => exact ⟨244, 283, rfl, by decide, (lc_rule hS.1 h hN0 hN hI hs).e h5⟩
  | 4, _ => exact ⟨257, 296, rfl, by decide, lc_queue hS h hN0 hN hI hs h5 hN1⟩
  | 5, _ => exact ⟨325, 364, rfl, by decide, (lc_sheet hS.1 h hN0 hN hI hs).e h5⟩
  | 6, _ => exact ⟨386, 425, rfl, by decide, (lc_puts hS.1 h hN0 hN hI hs).e h5⟩
  | 7, _ => exact ⟨447, 486, rfl, by decide, (lc_ring hS.1 h hN0 hN hI hs).e h5⟩
  | 8, _ => exact ⟨472, 511, rfl, by decide, (lc_ticks hS.1 h hN0 hN hI hs).e h5⟩
  | 9, _ => exact ⟨497, 536, rfl, by decide, (lc_takes hS.1 h hN0 hN hI hs).e h5⟩
  | 10, _ => exact ⟨522, 561, rfl, by decide, (lc_calls hS.1 h hN0 hN hI hs).e h5⟩
  | 11, _ => exact ⟨559, 598, rfl, by decide, (lc_resets hS.1 h hN0 hN hI hs).e h5⟩
  | 12, _ => exact ⟨572, 611, rfl, by decide, (lc_weighs hS.1 h hN0 hN hI hs).e h5⟩
  | 13, _ => exact ⟨609, 648, rfl, by decide, (lc_depth hS.1 h hN0 hN hI hs).e h5⟩
  | 14, _ => exact ⟨634, 673, rfl, by decide, (lc_day hS.1 h hN0 hN hI hs).e h5⟩
  | 15, _ => exact ⟨647, 686, rfl, by decide, (lc_undo hS.1 h hN0 hN hI hs).e h5⟩
  | 16, _ => exact ⟨660, 699, rfl, by decide, (lc_waiting hS.1 h hN0 hN hI hs).e h5⟩
  | 17, _ => exact ⟨685, 724, rfl, by decide, (lc_running hS.1 h hN0 hN hI hs).e h5⟩
  | 18, _ => exact ⟨698, 737, rfl, by decide, (lc_outbox hS.1 h hN0 hN hI hs).e h5⟩
  | 19, _ => exact ⟨711, 750, rfl, by decide, (lc_phases hS.1 h hN0 hN hI hs).e h5⟩
  | 20, _ => exact ⟨736, 775, rfl, by decide, (lc_room hS.1 h hN0 hN hI hs).e h5⟩
  | 21, _ => exact ⟨761, 800, rfl, by decide, (lc_block hS.1 h hN0 hN hI hs).e h5⟩
  | 22, _ => exact ⟨786, 825, rfl, by decide, (lc_next hS.1 h hN0 hN hI hs).e h5⟩
  | 23, _ => exact ⟨799, 838, rfl, by decide, (lc_deals hS.1 h hN0 hN hI hs).e h5⟩
  | 24, _ => exact ⟨824, 863, rfl, by decide, (lc_when hS.1 h hN0 hN hI hs).e h5⟩
  | 25, _ => exact ⟨861, 900, rfl, by decide, (lc_drains hS.1 h hN0 hN hI hs).e h5⟩
  | 26, _ => exact ⟨874, 913, rfl, by decide, (lc_would hS.1 h hN0 hN hI hs).e h5⟩
  | 27, _ => exact ⟨899, 938, rfl, by decide, (lc_needs hS.1 h hN0 hN hI hs).e h5⟩
  | 28, _ => exact ⟨924, 963, rfl, by decide, (lc_bells hS.1 h hN0 hN hI hs).e h5⟩
  | 29, _ => exact ⟨937, 976, rfl, by decide, (lc_recall hS.1 h hN0 hN hI hs).e h5⟩
  | 30, _ => exact ⟨974, 1013, rfl, by decide, (lc_served hS.1 h hN0 hN hI hs).e h5⟩
  | 31, _ => exact ⟨987, 1026, rfl, by decide, (lc_heard hS.1 h hN0 hN hI hs).e h5⟩
  | 32, _ => exact ⟨1024, 1063, rfl, by decide, (lc_denies hS.1 h hN0 hN hI hs).e h5⟩
  | 33, _ => exact ⟨1037, 1076, rfl, by decide, (lc_fits hS.1 h hN0 hN hI hs).e h5⟩
  | 34, _ => exact ⟨1050, 1089, rfl, by decide, (lc_asks hS.1 h hN0 hN hI hs).e h5⟩
  | 35, _ => exact ⟨1063, 1102, rfl, by decide, (lc_laps hS.1 h hN0 hN hI hs).e h5⟩
  | 36, _ => exact ⟨1112, 1151, rfl, by decide, (lc_law hS.1 h hN0 hN hI hs).e h5⟩
  | 37, _ => exact ⟨1125, 1164, rfl, by decide, (lc_years hS.1 h hN0 hN hI hs).e h5⟩
  | 38, _ => exact ⟨1162, 1201, rfl, by decide, (lc_keep hS.1 h hN0 hN hI hs).e h5⟩
  | 39, _ => exact ⟨1187, 1226, rfl, by decide, (lc_again hS.1 h hN0 hN hI hs).e h5⟩
  | 40, _ => exact ⟨1212, 1251, rfl, by decide, (lc_count hS.1 h hN0 hN hI hs).e h5⟩
  | 41, _ => exact ⟨1237, 1276, rfl, by decide, lc_row hS h hN0 hN hI hs h5 hN1⟩
  | k + 42, hk => exact absurd hk (by omega)
/-- one round -/
theorem lw_round (hS : LOK S) (h : ST N I) (hN0 : 100 ≤ N) (hN : N < 66000000) (hI : ∀ k, isI (I (-2) k)) (hs : SCR S i L) (h5 : x5.1 ≠ 1) (hN1 : (455 : Int) < (S.1 : Int)) : ∃ y5 y6 y7 T J, SG 325 (d + 2 + 100) 23 (LOC i x5 x6 x7) [] S I 23 (LOC (i + 5) y5 y6 y7) [] T J ∧ ST (N + 120000) J ∧ SE S T ∧ T.1 ≤ S.1 + 4 ∧ T.2.1 ≤ S.2.1 + 40 ∧ (∀ k, J (-2) k = I (-2) k) ∧ y5.1 ≠ 1 := by
  have hx : iAnd (I (-2) i) 63 = I (-2) i % 64 := and63 _
  have hw : w (iAnd (I (-2) i) 63) = I (-2) i % 64 := by rw [hx]; exact w_small (by omega) (by omega)
  by_cases hc : I (-2) i % 64 < 42
  · obtain ⟨o, P, e1, e2, y5, y6, y7, T, J, g1, g2, g3, g4, g5, g6, g7⟩ := lc_all (d := d) (I (-2) i % 64).toNat (by omega) hS h hN0 hN hI hs h5 hN1
    exact ⟨y5, y6, y7, T, J, SG.tr (lw_in hs) (SG.tr (lw_sw (I (-2) i % 64).toNat (by omega) (by rw [hw]; omega) e1 e2) (SG.tr g1 lw_tail)), g2, g3, g4, g5, g6, g7⟩
  · exact ⟨x5, x6, x7, S, I, SG.tr (lw_in hs) (SG.tr (lw_df (by rw [hw]; omega)) lw_tail), ST_le h (by omega), SE_refl, by omega, by omega, fun _ => rfl, h5⟩
theorem lw_loop : ∀ (n : Nat) (i N : Int) (S : SS) (I : II) (x5 x6 x7 : AV), LOK S → ST N I → 100 ≤ N → N + 120000 * n < 66000000 → (∀ k, isI (I (-2) k)) → sH S (-2) = (20, L) → 0 ≤ i → i ≤ 2560 → 0 ≤ L → L ≤ 2560 → L < i + 5 * n + 5 → x5.1 ≠ 1 → (455 : Int) < (S.1 : Int) → ∃ j y5 y6 y7 T J, SG 325 (d + 2 + 100) 23 (LOC i x5 x6 x7) [] S I 1337 (LOC j y5 y6 y7) [] T J ∧ T.1 ≤ S.1 + 4 * n ∧ T.2.1 ≤ S.2.1 + 40 * n := by
  intro n
  induction n with
  | zero =>
    intro i N S I x5 x6 x7 hS h hN0 hN hI hk i0 i1 l0 l1 hm h5 hN1
    exact ⟨i, x5, x6, x7, S, I, lw_out hk i0 (by omega) i1 l0 l1, by omega, by omega⟩
  | succ n ih =>
    intro i N S I x5 x6 x7 hS h hN0 hN hI hk i0 i1 l0 l1 hm h5 hN1
    by_cases hc : i + 5 ≤ L
    · have hs : SCR S i L := ⟨hk, i0, hc, l1⟩
      obtain ⟨y5, y6, y7, T, J, g1, g2, g3, g4, g5, g6, g7⟩ := lw_round (d := d) (x6 := x6) (x7 := x7) hS h hN0 (by omega) hI hs h5 hN1
      have hT1 := g3.1
      obtain ⟨j, z5, z6, z7, U, K, f1, f2, f3⟩ := ih (i + 5) (N + 120000) T J y5 y6 y7 (LOK_ext g3 hS) g2 (by omega) (by omega) (fun k => by rw [g6]; exact hI k) ((g3.2 (-2) (by omega)).1.trans hk) (by omega) (by omega) l0 l1 (by omega) g7 (by omega)
      exact ⟨j, z5, z6, z7, U, K, SG.tr g1 f1, by omega, by omega⟩
    · exact ⟨i, x5, x6, x7, S, I, lw_out hk i0 (by omega) i1 l0 l1, by omega, by omega⟩
end r131
