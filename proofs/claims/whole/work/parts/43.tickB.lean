/-! the reference's tick: posting all there is room for, the shadows -/
theorem up2_self {I : II} {a k : Int} : up2 I a k (I a k) = I := by
  funext x j; unfold up2; split
  · rename_i h; rw [h.1, h.2]
  · rfl
theorem up2_up2 {I : II} {a k u v : Int} : up2 (up2 I a k u) a k v = up2 I a k v := by
  funext x j; unfold up2; split
  · rfl
  · rfl
theorem cfM_cnt {I : II} {r k v : Int} {f : RW} (hr : isRw r) (hk : k ≠ 14) : cfM (up2 (setR I r f) 427 k v) = cfM I := by
  unfold cfM
  have h0 : up2 (setR I r f) 427 k v 427 14 = I 427 14 := by rw [up2_miss (by omega), setR_oth (by rcases hr with rfl | rfl <;> decide)]
  have h1 : ∀ x : Int, x ≠ 427 → x ≠ r → up2 (setR I r f) 427 k v x = I x := fun x g1 g2 => by rw [up2_oth g1, setR_oth g2]
  rw [h0]
  rcases hr with rfl | rfl <;> rw [h1 434 (by decide) (by decide), h1 435 (by decide) (by decide), h1 436 (by decide) (by decide), h1 437 (by decide) (by decide)]
theorem setR_up2 {I : II} {r k v : Int} {f : RW} (h : r ≠ 427) : setR (up2 I 427 k v) r f = up2 (setR I r f) 427 k v := by
  funext x j
  by_cases hx : x = r
  · subst hx
    rw [setR_same, up2_miss (fun h2 => h h2.1), setR_same]
  · rw [setR_oth hx]
    by_cases h2 : x = 427 ∧ j = k
    · rw [up2_hit h2.1 h2.2, up2_hit h2.1 h2.2]
    · rw [up2_miss h2, up2_miss h2, setR_oth hx]
theorem postS_814 {C : CF} {ρ : RW} {k : Int} (h0 : 0 ≤ k) (h8 : ρ 814 ≤ 80) (hq0 : 0 ≤ ρ (494 + 4 * k)) (hq1 : ρ (494 + 4 * k) < 5) : postS C ρ k 814 = ρ 814 - 1 := by
  have pb := pAt_b (q := ρ (494 + 4 * k)) (k := ρ (89 * ρ (494 + 4 * k) + 5)) hq0 hq1
  have e : laidS C ρ k 814 = ρ 814 := by unfold laidS; simp (disch := omega) only [updR_miss]
  unfold postS outGoS shf
  rw [e, if_neg (by omega), updR_hit rfl]
section r43
variable {d : Nat} {S : SS} {r q a a2 : Int}
theorem m_posts1 (hM : MA S 427) (hr : isRw r) : ∀ (n : Nat) (k : Int) (I : II) (a3 a4 a5 a6 : AV), okC (cfM I) → okPost (cfM I) n k (I r) → 0 ≤ k → k ≤ 80 → n = (I r 814 - k).toNat →
    ev (d + 3) 241 2 [(2, 427), (2, r), (0, k), a3, a4, a5, a6] [] S I = some (uU, S, up2 (setR I r (postlS (cfM I) n k (I r))) 427 24 (I 427 24 + (I r 814 - postlS (cfM I) n k (I r) 814))) := by
  have hK := isRw_K hM hr
  have rne : r ≠ 427 := by rcases hr with rfl | rfl <;> decide
  intro n
  induction n with
  | zero =>
    intro k I a3 a4 a5 a6 hk hok h0 h1 hn
    have hC : Cn (I r) := hok
    have c1 := hC.2.2.2.1
    have c2 := hC.2.2.2.2.2
    rw [E241_2 hK, w_small (z := 814) (by decide) (by decide), gdR_pos (by decide), w_small (z := k) (by omega) (by omega), w_small (z := I r 814) (by omega) (by omega), if_neg (by omega), postlS, setR_id, Int.sub_self, Int.add_zero, up2_self]
  | succ n ih =>
    intro k I a3 a4 a5 a6 hk hok h0 h1 hn
    obtain ⟨hC, hq, hyes, hno⟩ := hok
    have c1 := hC.2.2.2.1
    have c2 := hC.2.2.2.2.2
    have hn1 : (cfM I).1 ≤ 5 := hk.2.1
    obtain ⟨b3, b4, b5, b6, hb⟩ := m_post1 (d := d) (S := S) (I := I) (r := r) (k := k) (a3 := a3) (a4 := a4) (a5 := a5) (a6 := a6) hM hr hk hC h0 (by omega) hq.1 hq.2
    rw [hb, postlS]
    by_cases c : roomS (cfM I) (I r) k = true
    · have e8 := postS_814 (C := cfM I) h0 c1 hq.1 (by omega)
      have er : up2 (setR I r (postS (cfM I) (I r) k)) 427 24 (I 427 24 + 1) r = postS (cfM I) (I r) k := by rw [up2_oth rne, setR_same]
      have ec : cfM (up2 (setR I r (postS (cfM I) (I r) k)) 427 24 (I 427 24 + 1)) = cfM I := cfM_cnt hr (by decide)
      rw [if_pos c, if_pos c, ih k _ b3 b4 b5 b6 (by rw [ec]; exact hk) (by rw [ec, er]; exact hyes c) h0 h1 (by rw [er, e8]; omega), ec, er, up2_hit rfl rfl, setR_up2 rne, setR_set, up2_up2, e8]
      have e9 : I 427 24 + 1 + (I r 814 - 1 - postlS (cfM I) n k (postS (cfM I) (I r) k) 814) = I 427 24 + (I r 814 - postlS (cfM I) n k (postS (cfM I) (I r) k) 814) := by omega
      rw [e9]
    · rw [if_neg c, if_neg c]
      exact ih (k + 1) I b3 b4 b5 a6 hk (hno c) (by omega) (by omega) (by omega)
theorem m_posts (hM : MA S 427) (hr : isRw r) {I : II} (hk : okC (cfM I)) (hok : okPost (cfM I) (I r 814).toNat 0 (I r)) :
    ev (d + 3) 241 0 [(2, 427), (2, r), uU, uU, uU, uU, uU] [] S I = some (uU, S, up2 (setR I r (postlS (cfM I) (I r 814).toNat 0 (I r))) 427 24 (I 427 24 + (I r 814 - postlS (cfM I) (I r 814).toNat 0 (I r) 814))) := by
  rw [E241_0, m_posts1 hM hr (I r 814).toNat 0 I uU uU uU uU hk hok (by decide) (by decide) (by omega)]
/-- the shadows, then what was served so far -/
theorem m_shads (hM : MA S 427) (hr : isRw r) {N : Int} (hN : 0 ≤ N) (hN1 : N < 100000000) : ∀ (n : Nat) (q : Int) (I : II), okC (cfM I) → BdN N (I r) → 0 ≤ q → q ≤ 5 → n = (I 427 14 - q).toNat →
    ∃ q', ev (d + 1) 237 75 [(2, 427), (2, r), (0, a2), (0, q)] [] S I = ev (d + 1) 237 163 [(2, 427), (2, r), (0, a2), (0, servedS (shadsS (cfM I) n q (I r)))] [] S (setR I r (shadsS (cfM I) n q (I r))) ∧ q' = q := by
  have hK := isRw_K hM hr
  have rne : r ≠ 427 := by rcases hr with rfl | rfl <;> decide
  intro n
  induction n with
  | zero =>
    intro q I hk hB h0 h1 hn
    have n0 : 0 ≤ I 427 14 := hk.1
    have n1 : I 427 14 ≤ 5 := hk.2.1
    refine ⟨q, ?_, rfl⟩
    rw [E237_75 hM, w_small (z := q) (by omega) (by omega), w_small (z := I 427 14) (by omega) (by omega), if_neg (by omega), m_served hK hB hN1]
    simp only [Option.bind_some, psh_i]
    rw [E237_162, shadsS, setR_id]
  | succ n ih =>
    intro q I hk hB h0 h1 hn
    have n0 : 0 ≤ I 427 14 := hk.1
    have n1 : I 427 14 ≤ 5 := hk.2.1
    refine ⟨q, ?_, rfl⟩
    rw [m_shad1 hM hr hk (BdN_Bd hB (by omega)) h0 (by omega)]
    have e14 : setR I r (shadS (cfM I) (I r) q) 427 = I 427 := setR_oth rne.symm
    obtain ⟨_, hi, _⟩ := ih (q + 1) (setR I r (shadS (cfM I) (I r) q)) (by rw [cfM_setR hr]; exact hk) (by rw [setR_same]; exact BdN_shad hB hN) (by omega) (by omega) (by rw [e14]; omega)
    rw [hi, cfM_setR hr, setR_same, setR_set, shadsS]
end r43
