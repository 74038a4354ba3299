/-! the reference's row: completions, removing, bells, taking, whose turn it is, calling back -/
def outS (ρ : RW) (q id st res : Int) : RW := updR (updR (updR (updR (updR ρ (494 + 4 * ρ 814) q) (494 + 4 * ρ 814 + 1) id) (494 + 4 * ρ 814 + 2) st) (494 + 4 * ρ 814 + 3) res) 814 (ρ 814 + 1)
def shf (lo hi s : Int) (ρ : RW) : RW := fun j => if lo ≤ j ∧ j < hi then ρ (j + s) else ρ j
def runGoS (ρ : RW) (k : Int) : RW := shf (445 + 12 * k) (445 + 12 * (ρ 493 - 1)) 12 (updR ρ 493 (ρ 493 - 1))
def outGoS (ρ : RW) (k : Int) : RW := shf (494 + 4 * k) (494 + 4 * (ρ 814 - 1)) 4 (updR ρ 814 (ρ 814 - 1))
def ringsS (C : CF) (ρ : RW) (q : Int) : Int × RW :=
  if 0 ≤ q ∧ q < C.1 then
    if ρ (89 * q + 1) = ρ (89 * q) then (-2, ρ)
    else if C.2.2.2.2 q = 0 ∨ ρ (89 * q + 1) ≤ ρ (89 * q + 7) ∧ ρ (89 * q + 7) < ρ (89 * q) then
      (1, updR (updR (updR (updR ρ (89 * q + 1) (ρ (89 * q))) (89 * q + 2) (ρ (89 * q))) (89 * q + 8) (C.2.2.2.2 q)) 838 (ρ 838 + 1))
    else (0, updR (updR ρ (89 * q + 1) (ρ (89 * q))) 839 (ρ 839 + 1))
  else (-1, ρ)
def takesS (C : CF) (ρ : RW) (q : Int) : Int × RW :=
  if 0 ≤ q ∧ q < C.1 then
    if ρ (89 * q + 6) = ρ (89 * q + 5) then (-2, ρ)
    else (pAt q (ρ (89 * q + 6)), updR (updR ρ (89 * q + 6) (ρ (89 * q + 6) + 1)) (89 * q + 4) (ρ (pAt q (ρ (89 * q + 6)) + 3)))
  else (-1, ρ)
def workS (ρ : RW) (q : Int) : Bool := decide (ρ (89 * q + 3) < ρ (89 * q + 2))
def anyS (C : CF) (ρ : RW) : Bool := decide (0 ≤ fnd (workS ρ) C.1.toNat 0)
def behIs (C : CF) (ρ : RW) (c k : Int) : Bool := decide ((ρ (822 + c) + k) % 5 < C.1) && decide (C.2.2.2.1 ((ρ (822 + c) + k) % 5) = c) && workS ρ ((ρ (822 + c) + k) % 5)
def behS (C : CF) (ρ : RW) (c : Int) : Int := if fnd (behIs C ρ c) 5 1 < 0 then -1 else (ρ (822 + c) + fnd (behIs C ρ c) 5 1) % 5
def credS (C : CF) (ρ : RW) : Int := fnd (fun c => decide (0 < ρ (818 + c)) && decide (0 ≤ behS C ρ c)) 3 1
def refS (ρ : RW) : RW := updR (updR (updR ρ 819 (ρ 815)) 820 (ρ 816)) 821 (ρ 817)
def chosenS (C : CF) (ρ : RW) : Int × RW :=
  if 0 ≤ behS C ρ 0 then (behS C ρ 0, updR ρ 822 (behS C ρ 0))
  else
    let ρ1 := if credS C ρ < 0 then refS ρ else ρ
    let c := credS C ρ1
    (behS C ρ1 c, updR (updR ρ1 (818 + c) (ρ1 (818 + c) - 1)) (822 + c) (behS C ρ1 c))
section r32
variable {d : Nat} {S : SS} {I : II} {r q id k : Int}
theorem m_out {st res : Int} (hK : KA S r 20 844) (h0 : 0 ≤ I r 814) (h1 : I r 814 < 80) : ev (d + 1) 239 0 [(2, r), (0, q), (0, id), (0, st), (0, res), uU] [] S I = some (uU, S, setR I r (outS (I r) q id st res)) := by
  rw [E239_0 hK, w_small (z := 814) (by decide) (by decide), gdR_pos (by decide), E227_0]
  simp only [Option.bind_some, psh_i]
  rw [E239_8 hK, w_small (z := 814) (by decide) (by decide), Int.add_zero, w_small (z := 494 + 4 * I r 814) (by omega) (by omega), w_small (z := 494 + 4 * I r 814 + 1) (by omega) (by omega), w_small (z := 494 + 4 * I r 814 + 2) (by omega) (by omega), w_small (z := 494 + 4 * I r 814 + 3) (by omega) (by omega), gdR_pos (by omega), gdR_pos (by omega), gdR_pos (by omega), gdR_pos (by omega), gdR_pos (by omega), gdR_pos (by omega)]
  simp (disch := omega) only [up2_set, setR_set, setR_same, updR_miss, outS]
theorem shf_step (lo hi s : Int) (ρ : RW) (h : lo < hi) (hs : 0 < s) : shf (lo + 1) hi s (updR ρ lo (ρ (lo + s))) = shf lo hi s ρ := by
  funext j
  unfold shf updR
  by_cases h1 : j = lo
  · subst h1
    rw [if_neg (by omega), if_pos rfl, if_pos (by omega)]
  · by_cases h2 : lo ≤ j ∧ j < hi
    · rw [if_pos (by omega), if_neg (by omega), if_pos h2]
    · rw [if_neg (by omega), if_neg h1, if_neg h2]
theorem shf_nil (lo hi s : Int) (ρ : RW) (h : hi ≤ lo) : shf lo hi s ρ = ρ := by
  funext j; unfold shf; rw [if_neg (by omega)]
theorem m_runGo1 (hK : KA S r 20 844) : ∀ (n : Nat) (I : II) (j : Int), 445 ≤ j → j ≤ 493 → 0 ≤ I r 493 → I r 493 ≤ 3 → n = (445 + 12 * I r 493 - j).toNat →
    ev (d + 1) 240 14 [(2, r), (0, k), (0, j)] [] S I = some (uU, S, setR I r (shf j (445 + 12 * I r 493) 12 (I r))) := by
  intro n
  induction n with
  | zero =>
    intro I j hj hj1 h0 h1 hn
    rw [E240_14 hK, w_small (z := 493) (by decide) (by decide), gdR_pos (by decide), E224_0]
    simp only [Option.bind_some, psh_i]
    rw [E240_23 hK, w_small (z := j) (by omega) (by omega), w_small (by omega) (by omega), if_neg (by omega), shf_nil _ _ _ _ (by omega), setR_id]
  | succ n ih =>
    intro I j hj hj1 h0 h1 hn
    rw [E240_14 hK, w_small (z := 493) (by decide) (by decide), gdR_pos (by decide), E224_0]
    simp only [Option.bind_some, psh_i]
    rw [E240_23 hK, w_small (z := j) (by omega) (by omega), w_small (z := 445 + 12 * I r 493) (by omega) (by omega), if_pos (by omega), w_small (z := j + 12) (by omega) (by omega), gdR_pos (by omega), gdR_pos (by omega)]
    have e : up2 I r j (I r (j + 12)) r 493 = I r 493 := up2_miss (by omega)
    rw [ih _ (j + 1) (by omega) (by omega) (by rw [e]; exact h0) (by rw [e]; exact h1) (by rw [e]; omega), e, up2_set, setR_same, setR_set, shf_step _ _ _ _ (by omega) (by decide)]
theorem m_runGo (hK : KA S r 20 844) (h0 : 0 ≤ k) (h1 : k < I r 493) (h2 : I r 493 ≤ 4) : ev (d + 2) 240 0 [(2, r), (0, k), uU] [] S I = some (uU, S, setR I r (runGoS (I r) k)) := by
  rw [E240_0 hK, w_small (z := 493) (by decide) (by decide), gdR_pos (by decide), gdR_pos (by decide), E224_0]
  simp only [Option.bind_some, psh_i]
  have e : up2 I r 493 (I r 493 - 1) r 493 = I r 493 - 1 := up2_hit rfl rfl
  rw [E240_13, m_runGo1 hK _ _ _ (by omega) (by omega) (by rw [e]; omega) (by rw [e]; omega) rfl, e, up2_set, setR_same, setR_set]
  rfl
theorem m_outGo1 (hK : KA S r 20 844) : ∀ (n : Nat) (I : II) (j : Int), 494 ≤ j → j ≤ 814 → 0 ≤ I r 814 → I r 814 ≤ 79 → n = (494 + 4 * I r 814 - j).toNat →
    ev (d + 1) 242 14 [(2, r), (0, k), (0, j)] [] S I = some (uU, S, setR I r (shf j (494 + 4 * I r 814) 4 (I r))) := by
  intro n
  induction n with
  | zero =>
    intro I j hj hj1 h0 h1 hn
    rw [E242_14 hK, w_small (z := 814) (by decide) (by decide), gdR_pos (by decide), E227_0]
    simp only [Option.bind_some, psh_i]
    rw [E242_23 hK, w_small (z := j) (by omega) (by omega), w_small (by omega) (by omega), if_neg (by omega), shf_nil _ _ _ _ (by omega), setR_id]
  | succ n ih =>
    intro I j hj hj1 h0 h1 hn
    rw [E242_14 hK, w_small (z := 814) (by decide) (by decide), gdR_pos (by decide), E227_0]
    simp only [Option.bind_some, psh_i]
    rw [E242_23 hK, w_small (z := j) (by omega) (by omega), w_small (z := 494 + 4 * I r 814) (by omega) (by omega), if_pos (by omega), w_small (z := j + 4) (by omega) (by omega), gdR_pos (by omega), gdR_pos (by omega)]
    have e : up2 I r j (I r (j + 4)) r 814 = I r 814 := up2_miss (by omega)
    rw [ih _ (j + 1) (by omega) (by omega) (by rw [e]; exact h0) (by rw [e]; exact h1) (by rw [e]; omega), e, up2_set, setR_same, setR_set, shf_step _ _ _ _ (by omega) (by decide)]
theorem m_outGo (hK : KA S r 20 844) (h0 : 0 ≤ k) (h1 : k < I r 814) (h2 : I r 814 ≤ 80) : ev (d + 2) 242 0 [(2, r), (0, k), uU] [] S I = some (uU, S, setR I r (outGoS (I r) k)) := by
  rw [E242_0 hK, w_small (z := 814) (by decide) (by decide), gdR_pos (by decide), gdR_pos (by decide), E227_0]
  simp only [Option.bind_some, psh_i]
  have e : up2 I r 814 (I r 814 - 1) r 814 = I r 814 - 1 := up2_hit rfl rfl
  rw [E242_13, m_outGo1 hK _ _ _ (by omega) (by omega) (by rw [e]; omega) (by rw [e]; omega) rfl, e, up2_set, setR_same, setR_set]
  rfl
theorem m_work (hK : KA S r 20 844) (hB : Bd (I r)) (h0 : 0 ≤ q) (h1 : q < 5) : ev (d + 1) 245 0 [(2, r), (0, q)] [] S I = some ((0, if workS (I r) q = true then 1 else 0), S, I) := by
  have b1 := hB (89 * q + 2)
  have b2 := hB (89 * q + 3)
  rw [E245_0, m_of hK (by omega) (by omega)]
  simp only [Option.bind_some, psh_i]
  rw [E245_6, m_of hK (by omega) (by omega)]
  simp only [Option.bind_some, psh_i]
  rw [E245_12, w_small (by omega) (by omega), w_small (by omega) (by omega), workS]
  by_cases h : I r (89 * q + 3) < I r (89 * q + 2)
  · rw [if_pos h, E245_20 (Or.inr rfl), if_pos (decide_eq_true h)]
  · rw [if_neg h, E245_20 (Or.inl rfl), if_neg (by simpa using h)]
theorem m_any1 (hM : MA S 427) (hr : isRw r) (hk : okC (cfM I)) (hB : Bd (I r)) : ∀ (n : Nat) (k a : Int), 0 ≤ k → k ≤ 5 → (a = 0 ∨ a = 1) → n = (I 427 14 - k).toNat →
    ev (d + 2) 244 4 [(2, 427), (2, r), (0, a), (0, k)] [] S I = some ((0, if a = 1 ∨ 0 ≤ fnd (workS (I r)) n k then 1 else 0), S, I) := by
  intro n
  have hK := isRw_K hM hr
  have hn0 : 0 ≤ I 427 14 := hk.1
  have hn1 : I 427 14 ≤ 5 := hk.2.1
  induction n with
  | zero =>
    intro k a hk0 hk1 ha hn
    rw [E244_4 hM ha, w_small (z := k) (by omega) (by omega), w_small (by omega) (by omega), if_neg (by omega)]
    rcases ha with rfl | rfl
    · rw [if_neg (by simp [fnd])]
    · rw [if_pos (Or.inl rfl)]
  | succ n ih =>
    intro k a hk0 hk1 ha hn
    rw [E244_4 hM ha, w_small (z := k) (by omega) (by omega), w_small (z := I 427 14) (by omega) (by omega), if_pos (by omega), E244_24, E244_29, ih (k + 1) 1 (by omega) (by omega) (Or.inr rfl) (by omega), m_work hK hB hk0 (by omega), fnd_succ]
    rcases ha with rfl | rfl
    · rw [if_pos (by decide)]
      simp only [Option.bind_some, psh_i]
      rw [E244_21, E244_24, E244_29, E244_29, ih (k + 1) 1 (by omega) (by omega) (Or.inr rfl) (by omega), ih (k + 1) 0 (by omega) (by omega) (Or.inl rfl) (by omega)]
      by_cases h : workS (I r) k = true
      · rw [if_pos h, if_neg (by decide), if_pos (show (1 : Int) = 1 ∨ _ from Or.inl rfl), if_pos h, if_pos (Or.inr hk0)]
      · rw [if_neg h, if_pos (by decide), if_neg h]
    · rw [if_neg (by decide), if_pos (Or.inl rfl), if_pos (Or.inl rfl)]
theorem m_any (hM : MA S 427) (hr : isRw r) (hk : okC (cfM I)) (hB : Bd (I r)) : ev (d + 2) 244 0 [(2, 427), (2, r), uU, uU] [] S I = some ((0, if anyS (cfM I) (I r) = true then 1 else 0), S, I) := by
  rw [E244_0, m_any1 hM hr hk hB _ 0 0 (by decide) (by decide) (Or.inl rfl) rfl]
  have e : (I 427 14 - 0).toNat = (cfM I).1.toNat := by rw [Int.sub_zero]; rfl
  rw [e, anyS]
  by_cases c : 0 ≤ fnd (workS (I r)) (cfM I).1.toNat 0
  · rw [if_pos (Or.inr c), if_pos (decide_eq_true c)]
  · rw [if_neg (fun h => h.elim (fun h => absurd h (by decide)) c), if_neg (by simpa using c)]
/-- the lasts stand where a queue can be -/
def okL (ρ : RW) : Prop := ∀ c, 0 ≤ c → c < 4 → 0 ≤ ρ (822 + c)
theorem m_beh1 {c : Int} (hM : MA S 427) (hr : isRw r) (hk : okC (cfM I)) (hB : Bd (I r)) (hl : okL (I r)) (hc0 : 0 ≤ c) (hc1 : c < 4) : ∀ (n : Nat) (k : Int) (x : AV), 1 ≤ k → k ≤ 6 → n = (6 - k).toNat →
    ev (d + 3) 248 2 [(2, 427), (2, r), (0, c), (0, k), x] [] S I = some ((0, if fnd (behIs (cfM I) (I r) c) n k < 0 then -1 else (I r (822 + c) + fnd (behIs (cfM I) (I r) c) n k) % 5), S, I) := by
  intro n
  have hK := isRw_K hM hr
  have hn0 : 0 ≤ I 427 14 := hk.1
  have hn1 : I 427 14 ≤ 5 := hk.2.1
  have b1 := hB (822 + c)
  have b2 := hl c hc0 hc1
  induction n with
  | zero =>
    intro k x hk0 hk1 hn
    rw [E248_2 hK hM, w_small (z := k) (by omega) (by omega), if_pos (by omega)]
    rfl
  | succ n ih =>
    intro k x hk0 hk1 hn
    have m0 : 0 ≤ (I r (822 + c) + k) % 5 := Int.emod_nonneg _ (by decide)
    have m1 : (I r (822 + c) + k) % 5 < 5 := Int.emod_lt_of_pos _ (by decide)
    rw [E248_2 hK hM, w_small (z := k) (by omega) (by omega), if_neg (by omega), w_small (z := 822 + c) (by omega) (by omega), gdR_pos (by omega), iRem_pos (by omega) (by omega) (by decide) (by decide), m_isQ hM ⟨by omega, by omega⟩ hn0 hn1, fnd_succ]
    simp only [Option.bind_some, psh_i]
    rw [E248_26 hM, E248_52, ih (k + 1) _ (by omega) (by omega) (by omega), w_small (z := (I r (822 + c) + k) % 5) (by omega) (by omega), m_work hK hB m0 m1]
    simp only [Option.bind_some, psh_i]
    rw [E248_46, E248_52, ih (k + 1) _ (by omega) (by omega) (by omega)]
    by_cases h1 : (I r (822 + c) + k) % 5 < I 427 14
    · have k1 := hk.2.2 _ m0 h1
      simp only [cfM] at k1
      rw [if_pos (show 0 ≤ (I r (822 + c) + k) % 5 ∧ (I r (822 + c) + k) % 5 < I 427 14 from ⟨m0, h1⟩), if_neg (show ¬ w 1 = 0 by decide), gdR_pos (by omega), w_small (z := I 436 _) (by omega) (by omega), w_small (z := c) (by omega) (by omega)]
      by_cases h2 : I 436 ((I r (822 + c) + k) % 5) = c
      · rw [if_pos h2]
        by_cases h3 : workS (I r) ((I r (822 + c) + k) % 5) = true
        · rw [if_pos h3, if_neg (show ¬ w 1 = 0 by decide), if_pos (show behIs (cfM I) (I r) c k = true by simp [behIs, cfM, h1, h2, h3]), if_neg (show ¬ k < 0 by omega)]
        · rw [if_neg h3, if_pos (show w 0 = 0 by decide), if_neg (show ¬ behIs (cfM I) (I r) c k = true by simp [behIs, cfM, h3])]
      · rw [if_neg h2, if_neg (show ¬ behIs (cfM I) (I r) c k = true by simp [behIs, cfM, h2])]
    · rw [if_neg (show ¬ (0 ≤ (I r (822 + c) + k) % 5 ∧ (I r (822 + c) + k) % 5 < I 427 14) from fun h => h1 h.2), if_pos (show w 0 = 0 by decide), if_neg (show ¬ behIs (cfM I) (I r) c k = true by simp [behIs, cfM, h1])]
theorem m_beh {c : Int} (hM : MA S 427) (hr : isRw r) (hk : okC (cfM I)) (hB : Bd (I r)) (hl : okL (I r)) (hc0 : 0 ≤ c) (hc1 : c < 4) : ev (d + 3) 248 0 [(2, 427), (2, r), (0, c), uU, uU] [] S I = some ((0, behS (cfM I) (I r) c), S, I) := by
  rw [E248_0, m_beh1 hM hr hk hB hl hc0 hc1 5 1 uU (by decide) (by decide) (by decide)]
  rfl
theorem behS_b (C : CF) (ρ : RW) (c : Int) : -1 ≤ behS C ρ c ∧ behS C ρ c < 5 := by
  unfold behS; split
  · omega
  · omega
theorem m_cred1 (hM : MA S 427) (hr : isRw r) (hk : okC (cfM I)) (hB : Bd (I r)) (hl : okL (I r)) : ∀ (n : Nat) (k : Int), 1 ≤ k → k ≤ 4 → n = (4 - k).toNat →
    ev (d + 4) 249 2 [(2, 427), (2, r), (0, k)] [] S I = some ((0, fnd (fun c => decide (0 < I r (818 + c)) && decide (0 ≤ behS (cfM I) (I r) c)) n k), S, I) := by
  intro n
  have hK := isRw_K hM hr
  induction n with
  | zero =>
    intro k hk0 hk1 hn
    rw [E249_2 hK hM, w_small (z := k) (by omega) (by omega), if_neg (by omega)]
    rfl
  | succ n ih =>
    intro k hk0 hk1 hn
    have b := hB (818 + k)
    have b2 := behS_b (cfM I) (I r) k
    rw [E249_2 hK hM, w_small (z := k) (by omega) (by omega), if_pos (by omega), w_small (z := 818 + k) (by omega) (by omega), gdR_pos (by omega), w_small (by omega) (by omega), m_beh hM hr hk hB hl (by omega) (by omega), E249_28, ih (k + 1) (by omega) (by omega) (by omega), fnd_succ]
    simp only [Option.bind_some, psh_i]
    rw [E249_23, w_small (by omega) (by omega), E249_28, ih (k + 1) (by omega) (by omega) (by omega)]
    by_cases h1 : 0 < I r (818 + k)
    · rw [if_pos h1]
      by_cases h2 : 0 ≤ behS (cfM I) (I r) k
      · rw [if_neg (by omega), if_pos (by simp [h1, h2])]
      · rw [if_pos (by omega), if_neg (by simp [h2])]
    · rw [if_neg h1, if_neg (by simp [h1])]
theorem m_cred (hM : MA S 427) (hr : isRw r) (hk : okC (cfM I)) (hB : Bd (I r)) (hl : okL (I r)) : ev (d + 4) 249 0 [(2, 427), (2, r), uU] [] S I = some ((0, credS (cfM I) (I r)), S, I) := by
  rw [E249_0, m_cred1 hM hr hk hB hl 3 1 (by decide) (by decide) (by decide)]
  rfl
theorem cfM_up2 {I : II} {r k v : Int} (hr : isRw r) : cfM (up2 I r k v) = cfM I := by
  unfold cfM
  rcases hr with rfl | rfl <;> simp (disch := omega) only [up2_oth]
theorem cfM_setR {I : II} {r : Int} {f : RW} (hr : isRw r) : cfM (setR I r f) = cfM I := by
  unfold cfM
  rcases hr with rfl | rfl <;> simp (disch := omega) only [setR_oth]
theorem Bd_upd {ρ : RW} {k v : Int} (h : Bd ρ) (h0 : -1 ≤ v) (h1 : v < 1073741824) : Bd (updR ρ k v) := by
  intro j; unfold updR; split
  · exact ⟨h0, h1⟩
  · exact h j
theorem Bd_refS {ρ : RW} (h : Bd ρ) : Bd (refS ρ) := Bd_upd (Bd_upd (Bd_upd h (h 815).1 (h 815).2) (h 816).1 (h 816).2) (h 817).1 (h 817).2
theorem okL_refS {ρ : RW} (h : okL ρ) : okL (refS ρ) := by
  intro c h0 h1
  have e : refS ρ (822 + c) = ρ (822 + c) := by unfold refS; simp (disch := omega) only [updR_miss]
  rw [e]; exact h c h0 h1
theorem m_ref (hM : MA S 427) (hr : isRw r) {a2 a3 : Int} : ev (d + 1) 247 24 [(2, 427), (2, r), (0, a2), (0, a3), (0, 1)] [] S I = ev (d + 1) 247 52 [(2, 427), (2, r), (0, a2), (0, a3), (0, 4)] [] S (setR I r (refS (I r))) := by
  have hK := isRw_K hM hr
  rw [E247_24 hK, w_small (z := 1) (by decide) (by decide), if_pos (by decide), show (814 : Int) + 1 = 815 from rfl, show (818 : Int) + 1 = 819 from rfl, w_small (z := 815) (by decide) (by decide), w_small (z := 819) (by decide) (by decide), gdR_pos (by decide), gdR_pos (by decide), show (1 : Int) + 1 = 2 from rfl]
  rw [E247_24 hK, w_small (z := 2) (by decide) (by decide), if_pos (by decide), show (814 : Int) + 2 = 816 from rfl, show (818 : Int) + 2 = 820 from rfl, w_small (z := 816) (by decide) (by decide), w_small (z := 820) (by decide) (by decide), gdR_pos (by decide), gdR_pos (by decide), show (2 : Int) + 1 = 3 from rfl]
  rw [E247_24 hK, w_small (z := 3) (by decide) (by decide), if_pos (by decide), show (814 : Int) + 3 = 817 from rfl, show (818 : Int) + 3 = 821 from rfl, w_small (z := 817) (by decide) (by decide), w_small (z := 821) (by decide) (by decide), gdR_pos (by decide), gdR_pos (by decide), show (3 : Int) + 1 = 4 from rfl]
  rw [E247_24 hK, w_small (z := 4) (by decide) (by decide), if_neg (by decide)]
  simp (disch := omega) only [up2_set, setR_set, setR_same, updR_miss, refS]
theorem m_chosen (hM : MA S 427) (hr : isRw r) (hk : okC (cfM I)) (hB : Bd (I r)) (hl : okL (I r)) (hc : 0 ≤ behS (cfM I) (I r) 0 ∨ 1 ≤ credS (cfM I) (if credS (cfM I) (I r) < 0 then refS (I r) else I r)) : ev (d + 5) 247 0 [(2, 427), (2, r), uU, uU, uU] [] S I =
    some ((0, (chosenS (cfM I) (I r)).1), S, setR I r (chosenS (cfM I) (I r)).2) := by
  have hK := isRw_K hM hr
  have b0 := behS_b (cfM I) (I r) 0
  rw [E247_0 hM, m_beh hM hr hk hB hl (by decide) (by decide)]
  simp only [Option.bind_some, psh_i]
  rw [E247_6 hM, w_small (by omega) (by omega), chosenS]
  by_cases h : 0 ≤ behS (cfM I) (I r) 0
  · rw [if_neg (by omega), if_pos h, E247_76 hK, Int.add_zero, w_small (z := 822) (by decide) (by decide), gdR_pos (by decide), up2_set]
  · have hc' := hc.resolve_left h
    rw [if_pos (by omega), if_neg h, m_cred hM hr hk hB hl]
    simp only [Option.bind_some, psh_i]
    have cb : ∀ ρ : RW, -1 ≤ credS (cfM I) ρ ∧ credS (cfM I) ρ < 4 := by
      intro ρ; unfold credS
      rcases fnd_lo (fun c => decide (0 < ρ (818 + c)) && decide (0 ≤ behS (cfM I) ρ c)) 3 1 with h1 | ⟨h1, h2, _⟩ <;> omega
    have b1 := cb (I r)
    -- what is left, from place 52 on, over any row
    have tail : ∀ (J : II) (x : AV), cfM J = cfM I → Bd (J r) → okL (J r) → 1 ≤ credS (cfM I) (J r) → ev (d + 5) 247 52 [(2, 427), (2, r), (0, behS (cfM I) (I r) 0), (0, 0), x] [] S J =
        some ((0, behS (cfM I) (J r) (credS (cfM I) (J r))), S, setR J r (updR (updR (J r) (818 + credS (cfM I) (J r)) (J r (818 + credS (cfM I) (J r)) - 1)) (822 + credS (cfM I) (J r)) (behS (cfM I) (J r) (credS (cfM I) (J r))))) := by
      intro J x hJ hBJ hlJ hcJ
      have b2 := cb (J r)
      have hkJ : okC (cfM J) := by rw [hJ]; exact hk
      rw [E247_52 hM, m_cred hM hr hkJ hBJ hlJ, hJ]
      simp only [Option.bind_some, psh_i]
      rw [E247_57 hM, m_beh hM hr hkJ hBJ hlJ (by omega) (by omega), hJ]
      simp only [Option.bind_some, psh_i]
      rw [E247_64 hK, w_small (z := 818 + _) (by omega) (by omega), gdR_pos (by omega), gdR_pos (by omega), E247_76 hK, w_small (z := 822 + _) (by omega) (by omega), gdR_pos (by omega)]
      simp only [up2_set, setR_set, setR_same]
    rw [E247_18, w_small (by omega) (by omega)]
    by_cases h2 : credS (cfM I) (I r) < 0
    · rw [if_pos h2] at hc'
      rw [if_pos h2, m_ref hM hr, tail _ _ (cfM_setR hr) (by rw [setR_same]; exact Bd_refS hB) (by rw [setR_same]; exact okL_refS hl) (by rw [setR_same]; exact hc'), setR_same, setR_set]
      simp only [if_pos h2]
    · rw [if_neg h2] at hc'
      rw [if_neg h2, tail I _ rfl hB hl hc']
      simp only [if_neg h2]
end r32
