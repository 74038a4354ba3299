/-! TIME by the reference; fetching -/
abbrev KF : Type := RW × Int
def kfM (I : II) : KF := (I 430, I 427 10)
def okK (K : KF) : Prop := 0 ≤ K.2 ∧ K.2 ≤ 40 ∧ (K.2 ≠ 0 → okE K.1 K.2.toNat 0 0)
def askedS (C : CF) (ρ : RW) (q a : Int) : RW := fun j => if j = 0 then ρ (a + 1) else if j = 1 then ρ (a + 2) else if j = 2 then ρ (a + 3) else if j = 3 then q else if j = 4 then C.2.2.2.1 q else if j = 5 then ρ 493 else ρ 827 % 7
def timeR (K : KF) (C : CF) (ρ : RW) (q a : Int) : Int := timeS K.1 K.2 (askedS C ρ q a)
def fetS (C : CF) (ρ : RW) (q : Int) : RW := updR (updR ρ (89 * q + 3) (ρ (89 * q + 3) + 1)) (840 + C.2.2.2.1 q) (ρ (840 + C.2.2.2.1 q) + 1)
def layS (t f : Int) (ρ : RW) : RW := fun j => if t ≤ j ∧ j < t + 5 then ρ (f + (j - t)) else ρ j
theorem clampS_b (v : Int) : 1 ≤ clampS v ∧ clampS v ≤ 9 := by
  unfold clampS; split
  · omega
  · split <;> omega
theorem clamp_eq (v : Int) : (if 1 < (if w v < 9 then w v else 9) then (if w v < 9 then w v else 9) else 1) = clampS v := by
  unfold clampS
  by_cases h : w v < 9
  · rw [if_pos h]
    by_cases h1 : 1 < w v
    · rw [if_pos h1, if_neg (by omega), if_neg (by omega)]
    · rw [if_neg h1]
      by_cases h2 : w v < 1
      · rw [if_pos h2]
      · rw [if_neg h2, if_neg (by omega)]; omega
  · rw [if_neg h, if_pos (by decide), if_neg (by omega)]
    by_cases h2 : 9 < w v
    · rw [if_pos h2]
    · rw [if_neg h2]; omega
section r36
variable {d : Nat} {S : SS} {I : II} {r q a k : Int}
theorem m_time (hM : MA S 427) (hr : isRw r) (hk : okC (cfM I)) (hK : okK (kfM I)) (hB : Bd (I r)) (ht : 0 ≤ I r 827) (hq0 : 0 ≤ q) (hqn : q < I 427 14) (ha0 : 0 ≤ a) (ha1 : a < 840) : ∃ J, ev (d + 3) 251 0 [(2, 427), (2, r), (0, q), (0, a)] [] S I = some ((0, timeR (kfM I) (cfM I) (I r) q a), S, J) ∧ ∀ x, x ≠ 432 → x ≠ 433 → J x = I x := by
  have hKA := isRw_K hM hr
  have hn1 : I 427 14 ≤ 5 := hk.2.1
  have b5 := hB 493
  have b6 := hB 827
  have hr' : r ≠ 433 := by rcases hr with rfl | rfl <;> decide
  rw [E251_0 hM hKA hr, w_small (z := a + 1) (by omega) (by omega), w_small (z := a + 2) (by omega) (by omega), w_small (z := a + 3) (by omega) (by omega), w_small (z := q) (by omega) (by omega), w_small (z := 493) (by decide) (by decide), w_small (z := 827) (by decide) (by decide), gdR_pos (by omega), gdR_pos (by omega), gdR_pos (by omega), gdR_pos (by omega), gdR_pos (by decide), gdR_pos (by decide), iRem_pos ht (by omega) (by decide) (by decide)]
  -- the memory as the working out finds it
  generalize hJ : up2 (up2 (up2 (up2 (up2 (up2 (up2 I 433 0 (I r (a + 1))) 433 1 (I r (a + 2))) 433 2 (I r (a + 3))) 433 3 q) 433 4 (I 436 q)) 433 5 (I r 493)) 433 6 (I r 827 % 7) = J0
  have hF : ∀ x, x ≠ 433 → J0 x = I x := fun x hx => by rw [← hJ]; simp only [up2_oth hx]
  have hA : ∀ j, 0 ≤ j → j < 7 → J0 433 j = askedS (cfM I) (I r) q a j := by
    intro j h0 h1
    rw [← hJ]
    rcases (by omega : j = 0 ∨ j = 1 ∨ j = 2 ∨ j = 3 ∨ j = 4 ∨ j = 5 ∨ j = 6) with rfl | rfl | rfl | rfl | rfl | rfl | rfl <;>
      simp (disch := omega) only [up2_hit, up2_miss] <;> rfl
  have e427 : J0 427 = I 427 := hF 427 (by decide)
  have e430 : J0 430 = I 430 := hF 430 (by decide)
  obtain ⟨k0, k1, k2⟩ := hK
  have k0 : 0 ≤ I 427 10 := k0
  have k1 : I 427 10 ≤ 40 := k1
  have fin1 : ∀ (v : Int) (J : II), ev (d + 3) 251 85 [(2, 427), (2, r), (0, q), (0, a)] [(0, v), (0, 9), (0, 1)] S J = some ((0, clampS v), S, J) := by
    intro v J
    rw [E251_85, w_small (z := 9) (by decide) (by decide), w_small (z := 1) (by decide) (by decide), clamp_eq]
  rw [E252_0]
  by_cases hz : I 427 10 = 0
  · rw [E252_4 hM, e427, w_small (z := I 427 10) (by omega) (by omega), w_small (z := 0) (by decide) (by decide), if_neg (by omega), if_pos hz]
    have hop := hA 0 (by decide) (by decide)
    have ev0 : askedS (cfM I) (I r) q a 0 = I r (a + 1) := rfl
    have b1 := hB (a + 1)
    rw [hop, ev0, w_small (by omega) (by omega)]
    have tl : timeR (kfM I) (cfM I) (I r) q a = clampS (if 0 < I r (a + 1) then 2 else 1) := by
      unfold timeR timeS
      rw [if_pos (show (kfM I).2 = 0 from hz), ev0]
    rw [tl]
    refine ⟨J0, ?_, fun x h1 h2 => hF x h2⟩
    by_cases hp : 0 < I r (a + 1)
    · rw [if_pos hp, if_pos hp, E252_147, m_flag (Or.inr rfl)]
      simp only [Option.bind_some, psh_i]
      rw [E252_150, E252_160]
      simp only [Option.bind_some, psh_i]
      rw [fin1]
      rfl
    · rw [if_neg hp, if_neg hp, E252_147, m_flag (Or.inl rfl)]
      simp only [Option.bind_some, psh_i]
      rw [E252_150, E252_160]
      simp only [Option.bind_some, psh_i]
      rw [fin1]
      rfl
  · have hok := k2 hz
    obtain ⟨J, hJ1, hJF⟩ := m_ev (d := d) (S := S) hM (I 427 10).toNat 0 [] J0 uU (by rw [e430]; exact hok) trivial (by decide) (by rw [e427]; omega) (by rw [e427]; omega) (by rw [e427]; omega) (by decide)
    rw [e430, evL_congr hA _ _ _ hok] at hJ1
    refine ⟨J, ?_, fun x h1 h2 => (hJF x h1).trans (hF x h2)⟩
    have e0 : (([] : List Int).length : Int) = 0 := rfl
    rw [e0] at hJ1
    rw [hJ1]
    simp only [Option.bind_some, psh_i]
    rw [fin1]
    unfold timeR timeS
    rw [if_neg (show ¬ (kfM I).2 = 0 from hz)]
    rfl
theorem m_fet (hM : MA S 427) (hr : isRw r) (hk : okC (cfM I)) (hC : Cn (I r)) (hq0 : 0 ≤ q) (hqn : q < I 427 14) : ev (d + 1) 250 0 [(2, 427), (2, r), (0, q), uU] [] S I = some ((0, rAt q (I r (89 * q + 3))), S, setR I r (fetS (cfM I) (I r) q)) := by
  have hK := isRw_K hM hr
  have hn1 : I 427 14 ≤ 5 := hk.2.1
  have k1 := hk.2.2 q hq0 hqn
  simp only [cfM] at k1
  have b1 := hC.1 (89 * q + 3)
  have c1 := (hC.2.1 q hq0 (by omega)).1
  have e436 : ∀ k v : Int, up2 I r k v 436 = I 436 := by rcases hr with rfl | rfl <;> exact fun k v => up2_oth (by decide)
  rw [E250_0, m_of hK (by omega) (by omega)]
  simp only [Option.bind_some, psh_i]
  rw [E250_7, m_rAt c1 (by omega)]
  simp only [Option.bind_some, psh_i]
  rw [E250_10, m_of hK (by omega) (by omega)]
  simp only [Option.bind_some, psh_i]
  rw [E250_20, m_sets hK (by omega) (by omega)]
  simp only [Option.bind_some, psh_u]
  rw [E250_25 hM hK, w_small (z := q) (by omega) (by omega), e436, w_small (z := 840 + I 436 q) (by omega) (by omega), gdR_pos (by omega), gdR_pos (by omega), gdR_pos (by omega), up2_miss (show ¬ (r = r ∧ 840 + I 436 q = 89 * q + 3) by omega)]
  simp only [up2_set, setR_set, setR_same]
  rfl
theorem m_lay1 {t f : Int} (hK : KA S r 20 844) (hk0 : 0 ≤ k) (hk : k < 5) (h0 : 0 ≤ t) (h1 : t + 5 ≤ 844) (h2 : 0 ≤ f) (h3 : f + 5 ≤ 844) : ev d 254 2 [(2, r), (0, t), (0, f), (0, k)] [] S I = ev d 254 2 [(2, r), (0, t), (0, f), (0, k + 1)] [] S (setR I r (updR (I r) (t + k) (I r (f + k)))) := by
  rw [E254_2 hK, w_small (z := k) (by omega) (by omega), if_pos hk, w_small (z := f + k) (by omega) (by omega), w_small (z := t + k) (by omega) (by omega), gdR_pos (by omega), gdR_pos (by omega), up2_set]
theorem m_lays {t f : Int} (hK : KA S r 20 844) (h0 : 0 ≤ t) (h1 : t + 5 ≤ 844) (h2 : 0 ≤ f) (h3 : f + 5 ≤ 844) (h4 : f + 5 ≤ t ∨ t + 5 ≤ f) : ev d 254 0 [(2, r), (0, t), (0, f), uU] [] S I = some (uU, S, setR I r (layS t f (I r))) := by
  rw [E254_0, m_lay1 hK (by decide) (by decide) h0 h1 h2 h3, show (0 : Int) + 1 = 1 from rfl, m_lay1 hK (by decide) (by decide) h0 h1 h2 h3, show (1 : Int) + 1 = 2 from rfl, m_lay1 hK (by decide) (by decide) h0 h1 h2 h3, show (2 : Int) + 1 = 3 from rfl, m_lay1 hK (by decide) (by decide) h0 h1 h2 h3, show (3 : Int) + 1 = 4 from rfl, m_lay1 hK (by decide) (by decide) h0 h1 h2 h3, show (4 : Int) + 1 = 5 from rfl, E254_2 hK, w_small (z := 5) (by decide) (by decide), if_neg (by decide)]
  simp only [setR_set, setR_same]
  have e : updR (updR (updR (updR (updR (I r) (t + 0) (I r (f + 0))) (t + 1) (updR (I r) (t + 0) (I r (f + 0)) (f + 1))) (t + 2) (updR (updR (I r) (t + 0) (I r (f + 0))) (t + 1) (updR (I r) (t + 0) (I r (f + 0)) (f + 1)) (f + 2))) (t + 3) (updR (updR (updR (I r) (t + 0) (I r (f + 0))) (t + 1) (updR (I r) (t + 0) (I r (f + 0)) (f + 1))) (t + 2) (updR (updR (I r) (t + 0) (I r (f + 0))) (t + 1) (updR (I r) (t + 0) (I r (f + 0)) (f + 1)) (f + 2)) (f + 3))) (t + 4) (updR (updR (updR (updR (I r) (t + 0) (I r (f + 0))) (t + 1) (updR (I r) (t + 0) (I r (f + 0)) (f + 1))) (t + 2) (updR (updR (I r) (t + 0) (I r (f + 0))) (t + 1) (updR (I r) (t + 0) (I r (f + 0)) (f + 1)) (f + 2))) (t + 3) (updR (updR (updR (I r) (t + 0) (I r (f + 0))) (t + 1) (updR (I r) (t + 0) (I r (f + 0)) (f + 1))) (t + 2) (updR (updR (I r) (t + 0) (I r (f + 0))) (t + 1) (updR (I r) (t + 0) (I r (f + 0)) (f + 1)) (f + 2)) (f + 3)) (f + 4)) = layS t f (I r) := by
    funext j
    simp (disch := omega) only [updR_miss, Int.add_zero]
    unfold layS
    by_cases hj : t ≤ j ∧ j < t + 5
    · rw [if_pos hj]
      rcases (by omega : j = t ∨ j = t + 1 ∨ j = t + 2 ∨ j = t + 3 ∨ j = t + 4) with rfl | rfl | rfl | rfl | rfl
      · simp (disch := omega) only [updR_miss, updR_hit, Int.sub_self, Int.add_zero]
      · simp (disch := omega) only [updR_miss, updR_hit]; rw [show t + 1 - t = 1 by omega]
      · simp (disch := omega) only [updR_miss, updR_hit]; rw [show t + 2 - t = 2 by omega]
      · simp (disch := omega) only [updR_miss, updR_hit]; rw [show t + 3 - t = 3 by omega]
      · simp (disch := omega) only [updR_miss, updR_hit]; rw [show t + 4 - t = 4 by omega]
    · rw [if_neg hj]
      simp (disch := omega) only [updR_miss]
  rw [e]
end r36
