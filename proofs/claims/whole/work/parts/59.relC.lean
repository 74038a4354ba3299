/-! whose turn it is, by the class */ -/
section r59
variable {d : Nat} {S : SS} {I : II} {C : CF} {ρ σ : RW} {b q id k a : Int}
/-- credits and lasts alone are others -/
theorem RelD_ar {J : II} (h : RelD C I b ρ) (hW : W0 C ρ) (hI : ∀ x, x ≠ b + 4 → x ≠ b + 5 → J x = I x) (hρ : ∀ j, j < 818 ∨ 825 < j → σ j = ρ j) (ha : arR J b σ) : RelD C J b σ := by
  obtain ⟨h1, h2, h3, h4, h5, h6⟩ := h
  refine ⟨hdR_congr (fun k _ => by rw [hI b (by omega) (by omega)]) (fun j hj => hρ j (by omega)) h1, ha, runsR_congr hW.2.1.2.1 (fun a a0 a1 => hI a (by omega) (by omega)) (fun j j0 j1 => hρ j (by omega)) h3, boxR_congr hW.2.2.1.2.1 (hI _ (by omega) (by omega)) (fun j j0 j1 => hρ j (by omega)) h4, fun q g0 g1 => laneR_congr g0 g1 (fun x x0 x1 => hI x (by omega) (by omega)) (fun j j0 j1 => hρ j (by omega)) (h5 q g0 g1), bitsR_congr (fun q g0 g1 => by rw [hI _ (by omega) (by omega)]) (fun z => cnt_low hW (fun j g0 g1 _ g2 => hρ j (by omega))) h6⟩
def credsS (C : CF) (ρ : RW) : RW := updR (updR ρ (818 + credS C ρ) (ρ (818 + credS C ρ) - 1)) (822 + credS C ρ) (behS C ρ (credS C ρ))
theorem c_cred1 (hb : 0 ≤ b) (hD : DA S b) (h1 : hdR C I b ρ) (h2 : arR I b ρ) (h5 : lansR C I b ρ) (hk : okC C) (hB : Bd ρ) (hm : miscOK ρ) : ∀ (n : Nat) (k : Int) (x : AV), 1 ≤ k → k ≤ 4 → n = (4 - k).toNat →
    ev (d + 3) 37 2 [(2, b), (0, k), x] [] S I = if fnd (fun c => decide (0 < ρ (818 + c)) && decide (0 ≤ behS C ρ c)) n k < 0 then some ((0, -1), S, I) else
      some ((0, behS C ρ (fnd (fun c => decide (0 < ρ (818 + c)) && decide (0 ≤ behS C ρ c)) n k)), S, up2 (up2 I (b + 4) (fnd (fun c => decide (0 < ρ (818 + c)) && decide (0 ≤ behS C ρ c)) n k) (ρ (818 + (fnd (fun c => decide (0 < ρ (818 + c)) && decide (0 ≤ behS C ρ c)) n k)) - 1)) (b + 5) (fnd (fun c => decide (0 < ρ (818 + c)) && decide (0 ≤ behS C ρ c)) n k) (behS C ρ (fnd (fun c => decide (0 < ρ (818 + c)) && decide (0 ≤ behS C ρ c)) n k))) := by
  intro n
  induction n with
  | zero =>
    intro k x k0 k1 hn
    rw [E37_2 hD, w_small (z := k) (by omega) (by omega), if_neg (by omega), if_pos (show fnd (fun c => decide (0 < ρ (818 + c)) && decide (0 ≤ behS C ρ c)) 0 k < 0 from (by decide : (-1 : Int) < 0))]
  | succ n ih =>
    intro k x k0 k1 hn
    have bc := hB (818 + k)
    have bb := behS_b C ρ k
    have e4 := (h2.2.1 k k0 (by omega)).2
    have back : ∀ y : AV, ev (d + 3) 37 25 [(2, b), (0, k), y] [(0, -1)] S I = ev (d + 3) 37 2 [(2, b), (0, k + 1), (0, -1)] [] S I := by
      intro y; rw [E37_25 hD, if_pos (by decide)]
    rw [E37_2 hD, w_small (z := k) (by omega) (by omega), if_pos (by omega), gdR_pos (by omega), e4, w_small (by omega) (by omega), c_beh hb hD h1 h2 h5 hk hB hm (by omega) (by omega), back, ih (k + 1) _ (by omega) (by omega) (by omega), fnd_succ]
    simp only [Option.bind_some, psh_i]
    rw [E37_21, E37_25 hD, w_small (by omega) (by omega), w_small (z := k) (by omega) (by omega), ih (k + 1) _ (by omega) (by omega) (by omega), e4]
    by_cases g : 0 < ρ (818 + k)
    · rw [if_pos g]
      by_cases g2 : 0 ≤ behS C ρ k
      · have hp : (decide (0 < ρ (818 + k)) && decide (0 ≤ behS C ρ k)) = true := by simp [g, g2]
        rw [if_neg (by omega), gdR_pos (by omega), gdR_pos (by omega), gdR_pos (by omega)]
        simp only [hp, if_true]
        rw [if_neg (by omega)]
      · have hp : ¬ (decide (0 < ρ (818 + k)) && decide (0 ≤ behS C ρ k)) = true := by simp [g2]
        rw [if_pos (by omega)]
        simp only [if_neg hp]
    · have hp : ¬ (decide (0 < ρ (818 + k)) && decide (0 ≤ behS C ρ k)) = true := by simp [g]
      rw [if_neg g]
      simp only [if_neg hp]
theorem c_cred (hb : 0 ≤ b) (hD : DA S b) (h1 : hdR C I b ρ) (h2 : arR I b ρ) (h5 : lansR C I b ρ) (hk : okC C) (hB : Bd ρ) (hm : miscOK ρ) :
    ev (d + 3) 37 0 [(2, b), uU, uU] [] S I = if credS C ρ < 0 then some ((0, -1), S, I) else some ((0, behS C ρ (credS C ρ)), S, up2 (up2 I (b + 4) (credS C ρ) (ρ (818 + credS C ρ) - 1)) (b + 5) (credS C ρ) (behS C ρ (credS C ρ))) := by
  rw [E37_0, c_cred1 hb hD h1 h2 h5 hk hB hm 3 1 _ (by decide) (by decide) (by decide)]
  rfl
/-- credits and lasts behind a choice by CREDIT -/
theorem creds_ar {J : II} (h2 : arR J b ρ) (hc : 1 ≤ credS C ρ) : arR (up2 (up2 J (b + 4) (credS C ρ) (ρ (818 + credS C ρ) - 1)) (b + 5) (credS C ρ) (behS C ρ (credS C ρ))) b (credsS C ρ) := by
  have cb := credS_b C ρ
  obtain ⟨a1, a2, a3⟩ := h2
  unfold credsS
  refine ⟨fun j g0 g1 => ?_, fun c g0 g1 => ⟨?_, ?_⟩, fun c g0 g1 => ?_⟩
  · rw [up2_miss (by omega), up2_miss (by omega), updR_miss (by omega), updR_miss (by omega)]; exact a1 j g0 g1
  · rw [up2_miss (by omega), up2_miss (by omega), updR_miss (by omega), updR_miss (by omega)]; exact (a2 c g0 g1).1
  · rw [up2_miss (by omega), updR_miss (by omega)]
    by_cases e : c = credS C ρ
    · rw [up2_hit rfl e, updR_hit (by omega)]
    · rw [up2_miss (by omega), updR_miss (by omega)]; exact (a2 c g0 g1).2
  · by_cases e : c = credS C ρ
    · rw [up2_hit rfl e, updR_hit (by omega)]
    · rw [up2_miss (by omega), up2_miss (by omega), updR_miss (by omega), updR_miss (by omega)]; exact a3 c g0 g1
theorem ref_ar (h2 : arR I b ρ) : arR (cpy I (b + 3) 0 (b + 4) 0 4) b (refS ρ) := by
  obtain ⟨a1, a2, a3⟩ := h2
  refine ⟨fun j g0 g1 => ?_, fun c g0 g1 => ⟨?_, ?_⟩, fun c g0 g1 => ?_⟩
  · rw [cpy_cell (by omega), refS_oth (by omega)]; exact a1 j g0 g1
  · rw [cpy_cell (by omega), refS_oth (by omega)]; exact (a2 c g0 g1).1
  · have e : cpy I (b + 3) 0 (b + 4) 0 4 (b + 4) c = I (b + 3) c := by
      unfold cpy; rw [if_pos (by omega)]; congr 1; omega
    rw [e, (a2 c g0 g1).1]
    unfold refS
    rcases (by omega : c = 1 ∨ c = 2 ∨ c = 3) with rfl | rfl | rfl
    · simp (disch := omega) only [updR_miss, updR_hit]; rfl
    · simp (disch := omega) only [updR_miss, updR_hit]; rfl
    · simp (disch := omega) only [updR_hit]; rfl
  · rw [cpy_cell (by omega), refS_oth (by omega)]; exact a3 c g0 g1
theorem ref_misc (h : miscOK ρ) : miscOK (refS ρ) := by
  obtain ⟨m1, m2, m3, m4, m5⟩ := h
  have oo : ∀ j, j < 819 ∨ 821 < j → refS ρ j = ρ j := fun j g => refS_oth g
  refine ⟨fun j g0 g1 => by rw [oo j (by omega)]; exact m1 j g0 g1, fun j g0 g1 => by rw [oo j (by omega)]; exact m2 j g0 g1, fun j g0 g1 => ?_, fun j g0 g1 => by rw [oo j (by omega)]; exact m4 j g0 g1, by rw [oo 826 (by decide), oo 827 (by decide), oo 838 (by decide), oo 839 (by decide)]; exact m5⟩
  have w1 := m2 815 (by decide) (by decide)
  have w2 := m2 816 (by decide) (by decide)
  have w3 := m2 817 (by decide) (by decide)
  unfold refS
  rcases (by omega : j = 819 ∨ j = 820 ∨ j = 821) with rfl | rfl | rfl
  · simp (disch := omega) only [updR_miss, updR_hit]; omega
  · simp (disch := omega) only [updR_miss, updR_hit]; omega
  · simp (disch := omega) only [updR_hit]; omega
/-- THE NEXT QUEUE -/
theorem c_choose {N : Int} (hb : 0 ≤ b) (hD : DA S b) (h : RelD C I b ρ) (hW : W0 C ρ) (hk : okC C) (hB : BdN N ρ) (hN : N < 1073741824) (ha : anyS C ρ = true) :
    ∃ J, ev (d + 4) 35 0 [(2, b), uU, uU] [] S I = some ((0, (chosenS C ρ).1), S, J) ∧ RelD C J b (chosenS C ρ).2 ∧ OUTB b I J := by
  have hBd := BdN_Bd hB hN
  have hc := canS_of hW hk ha
  have hm := hW.2.2.2.1
  have hR := h
  obtain ⟨h1, h2, h3, h4, h5, h6⟩ := h
  have bb := behS_b C ρ 0
  rw [E35_0 hD, c_any hD h1 h5 hk hBd, if_pos ha]
  simp only [Option.bind_some, psh_i]
  rw [E35_4 hD, if_neg (by decide), c_beh hb hD h1 h2 h5 hk hBd hm (by decide) (by decide)]
  simp only [Option.bind_some, psh_i]
  rw [E35_14 hD, w_small (by omega) (by omega)]
  have oo : ∀ j, j < 818 ∨ 825 < j → (chosenS C ρ).2 j = ρ j := fun j g => chosenS_oth hc g
  by_cases c0 : 0 ≤ behS C ρ 0
  · have ec : chosenS C ρ = (behS C ρ 0, updR ρ 822 (behS C ρ 0)) := by unfold chosenS; rw [if_pos c0]
    rw [ec] at oo ⊢
    simp only at oo ⊢
    rw [if_neg (by omega)]
    refine ⟨_, rfl, RelD_ar hR hW (fun x g0 g1 => up2_oth g1) oo ?_, fun x hx => up2_oth (by omega)⟩
    obtain ⟨a1, a2, a3⟩ := h2
    refine ⟨fun j g0 g1 => ?_, fun c g0 g1 => ?_, fun c g0 g1 => ?_⟩
    · rw [up2_oth (by omega), updR_miss (by omega)]; exact a1 j g0 g1
    · rw [up2_oth (by omega), up2_oth (by omega), updR_miss (by omega), updR_miss (by omega)]; exact a2 c g0 g1
    · by_cases e : c = 0
      · subst e; rw [up2_hit rfl rfl, updR_hit (by decide)]
      · rw [up2_miss (by omega), updR_miss (by omega)]; exact a3 c g0 g1
  · have hcc := hc.resolve_left c0
    have ec : chosenS C ρ = (behS C (if credS C ρ < 0 then refS ρ else ρ) (credS C (if credS C ρ < 0 then refS ρ else ρ)), credsS C (if credS C ρ < 0 then refS ρ else ρ)) := by unfold chosenS; rw [if_neg c0]; rfl
    rw [ec] at oo ⊢
    rw [if_pos (by omega), c_cred hb hD h1 h2 h5 hk hBd hm]
    by_cases c1 : credS C ρ < 0
    · rw [if_pos c1] at hcc oo ⊢
      simp only [if_pos c1]
      have B2 : BdN N (refS ρ) := BdN_refS hB
      have i1 : hdR C (cpy I (b + 3) 0 (b + 4) 0 4) b (refS ρ) := hdR_congr (fun k _ => by rw [cpy_cell (by omega)]) (fun j hj => refS_oth (by omega)) h1
      have i5 : lansR C (cpy I (b + 3) 0 (b + 4) 0 4) b (refS ρ) := fun q g0 g1 => laneR_congr g0 g1 (fun x x0 x1 => by funext k; rw [cpy_cell (by omega)]) (fun j j0 j1 => refS_oth (by omega)) (h5 q g0 g1)
      simp only [Option.bind_some, psh_i]
      rw [E35_33 hD, if_pos (by decide), c_cred hb hD i1 (ref_ar h2) i5 hk (BdN_Bd B2 hN) (ref_misc hm), if_neg (by omega)]
      simp only [Option.bind_some, psh_i]
      rw [E35_57, E35_58]
      refine ⟨_, rfl, RelD_ar hR hW (fun x g0 g1 => ?_) oo (creds_ar (ref_ar h2) hcc), fun x hx => ?_⟩
      · rw [up2_oth g1, up2_oth g0]; funext k; exact cpy_cell g0
      · rw [up2_oth (by omega), up2_oth (by omega)]; funext k; exact cpy_cell (by omega)
    · rw [if_neg c1] at hcc oo ⊢
      simp only [if_neg c1]
      have bk := behS_b C ρ (credS C ρ)
      have c2 := ((credS_b C ρ).2.2 hcc).2
      simp only [Option.bind_some, psh_i]
      rw [E35_33 hD, w_small (by omega) (by omega), if_neg (by omega), E35_58]
      refine ⟨_, rfl, RelD_ar hR hW (fun x g0 g1 => ?_) oo (creds_ar h2 hcc), fun x hx => ?_⟩
      · rw [up2_oth g1, up2_oth g0]
      · rw [up2_oth (by omega), up2_oth (by omega)]
theorem c_choose0 (hD : DA S b) (h1 : hdR C I b ρ) (h5 : lansR C I b ρ) (hk : okC C) (hB : Bd ρ) (ha : anyS C ρ ≠ true) : ev (d + 4) 35 0 [(2, b), uU, uU] [] S I = some ((0, -1), S, I) := by
  rw [E35_0 hD, c_any hD h1 h5 hk hB, if_neg ha]
  simp only [Option.bind_some, psh_i]
  rw [E35_4 hD, if_pos (by decide)]
end r59
