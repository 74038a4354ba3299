/-! what can be undone, on both sides */ -/
def rowAt (f : RW) (i : Int) : RW := fun j => f (844 * i + j)
section r71
variable {d : Nat} {S : SS} {I J : II} {C : CF} {ρ σ τ : RW} {b a q k N : Int}
/-- the Drive and the row that are now */ -/
def cD (I : II) : Prop := okC (cfM I) ∧ GD (cfM I) I 5 (I 438)
/-- the rule in force */ -/
def cU (I : II) : Prop := okK (kfM I) ∧ RuleR I 412 (kfM I)
def stp (o z i : Int) : Int := 71 + 31 * ((o - z + i) % 9)
/-- the steps that can be undone */ -/
def cP (I : II) : Prop := 0 ≤ I 67 1 ∧ I 67 1 < 9 ∧ 0 ≤ I 67 2 ∧ I 67 2 ≤ 8 ∧ I 427 22 = I 67 2 ∧ ∀ i, 0 ≤ i → i < I 67 2 → GD (cfM I) I (stp (I 67 1) (I 67 2) i) (rowAt (I 440) i)
/-- numbers are small: now, then, undone, kept */ -/
def cB (N : Int) (I : II) : Prop := BdN N (I 438) ∧ BdN N (I 439) ∧ BdN N (I 440) ∧ BdN N (I 454)
def cfA (I : II) (n : Int) : CF := (n, I 434, I 435, I 436, I 437)
/-- what is kept */ -/
def cK (I : II) : Prop := I 427 15 = I 427 14 ∧ ∀ i, 0 ≤ i → i < 2 → I 452 i = I 70 i ∧ (I 70 i = 0 ∨ I 70 i = 1) ∧ (I 70 i = 1 → 0 ≤ I 453 i ∧ I 453 i ≤ I 427 14 ∧ GD (cfA I (I 453 i)) I (350 + 31 * i) (rowAt (I 454) i))
def putU (f g : RW) (z : Int) : RW := fun j => if 844 * z ≤ j ∧ j < 844 * z + 844 then g (j - 844 * z) else f j
def shU (f : RW) : RW := fun j => if 0 ≤ j ∧ j < 6752 then f (j + 844) else f j
def addU (f : RW) (z : Int) : RW := if z < 8 then f else shU f
def addZ (z : Int) : Int := if z < 8 then z + 1 else 8
theorem DA5 (hQ : QA S 0) : DA S 5 := QA_k2 hQ
theorem DA36 (hQ : QA S 0) : DA S 36 := QA_k3 hQ
theorem PA67 (hQ : QA S 0) : PA S 67 := QA_k4 hQ
theorem UA412 (hQ : QA S 0) : UA S 412 := QA_k5 hQ
theorem UA418 (hQ : QA S 0) : UA S 418 := QA_k6 hQ
theorem RA3 (hQ : QA S 0) : RA S 3 := QA_k1 hQ
theorem TA1 (hQ : QA S 0) : TA S 1 := QA_k0 hQ
theorem HA424 (hQ : QA S 0) : HA S 424 := QA_k7 hQ
theorem DAstep (hQ : QA S 0) {s : Int} (h0 : 0 ≤ s) (h1 : s < 9) : DA S (71 + 31 * s) := by
  have := (PA_e0 (PA67 hQ) s h0 h1).2
  rw [show (67 : Int) + 4 + 31 * s = 71 + 31 * s by omega] at this; exact this
theorem DAkeep (hQ : QA S 0) {s : Int} (h0 : 0 ≤ s) (h1 : s < 2) : DA S (350 + 31 * s) := by
  have := (PA_e3 (PA67 hQ) s h0 h1).2
  rw [show (67 : Int) + 283 + 31 * s = 350 + 31 * s by omega] at this; exact this
/-- what is ahead of an act is noted */ -/
theorem c_note (hQ : QA S 0) (h0 : 0 ≤ I 67 1) (h1 : I 67 1 < 9) (h : GD C I 5 ρ) : ∃ J, ev (d + 2) 103 0 [(2, 67), (2, 5)] [] S I = some (uU, S, J) ∧ GD C J (71 + 31 * I 67 1) ρ ∧ OUTB (71 + 31 * I 67 1) I J := by
  obtain ⟨J, j1, j2, j3⟩ := c_copy (d := d) (S := S) (a0 := 71 + 31 * I 67 1) (a1 := 5) (DA5 hQ) (DAstep hQ h0 h1) (by omega) h
  rw [E103_0 (PA67 hQ), w_small (z := I 67 1) (by omega) (by omega), if_neg (by omega), if_neg (by omega), gdR_pos (by omega), j1]
  simp only [Option.bind_some, psh_u]
  rw [E103_29]
  exact ⟨J, rfl, j2, j3⟩
theorem c_seal {a : Int} (hQ : QA S 0) (h0 : 0 ≤ I 67 1) (h1 : I 67 1 < 9) (h2 : 0 ≤ I 67 2) (h3 : I 67 2 ≤ 8) (ha : isI a) : ev d 104 0 [(2, 67), (0, a)] [] S I = some ((0, a), S, if a < 0 then I else up2 (up2 I 67 1 ((I 67 1 + 1) % 9)) 67 2 (addZ (I 67 2))) := by
  rw [E104_0 (PA67 hQ), w_small ha.1 ha.2, E104_32, E104_32]
  by_cases g : a < 0
  · rw [if_pos g, if_pos g]
  · rw [if_neg g, if_neg g, iRem_pos (by omega) (by omega) (by decide) (by decide), w_small (z := I 67 2 + 1) (by omega) (by omega)]
    unfold addZ
    by_cases g2 : I 67 2 < 8
    · rw [if_pos g2]
      by_cases g3 : I 67 2 + 1 < 8
      · rw [if_pos g3]
      · rw [if_neg g3, show I 67 2 + 1 = 8 by omega]
    · rw [if_neg g2, if_neg (by omega)]
theorem putU_step {f g : RW} {z k : Int} (h0 : 0 ≤ k) (h1 : k < 844) : (fun j => if 844 * z + (k + 1) ≤ j ∧ j < 844 * z + 844 then g (j - 844 * z) else updR f (844 * z + k) (g k) j) = (fun j => if 844 * z + k ≤ j ∧ j < 844 * z + 844 then g (j - 844 * z) else f j) := by
  funext j
  by_cases e : j = 844 * z + k
  · subst e
    rw [if_neg (by omega), updR_hit rfl, if_pos (by omega)]
    congr 1; omega
  · by_cases e2 : 844 * z + k ≤ j ∧ j < 844 * z + 844
    · rw [if_pos (by omega), if_pos e2]
    · rw [if_neg (by omega), updR_miss e, if_neg e2]
theorem m_putsBy1 (hM : MA S 427) : ∀ (n : Nat) (k : Int) (I : II), 0 ≤ k → k ≤ 844 → 0 ≤ I 427 22 → I 427 22 ≤ 8 → n = (844 - k).toNat →
    ev d 217 2 [(2, 427), (0, k)] [] S I = some (uU, S, setR I 440 (fun j => if 844 * I 427 22 + k ≤ j ∧ j < 844 * I 427 22 + 844 then I 438 (j - 844 * I 427 22) else I 440 j)) := by
  intro n
  induction n with
  | zero =>
    intro k I h0 h1 h2 h3 hn
    have e : (fun j => if 844 * I 427 22 + k ≤ j ∧ j < 844 * I 427 22 + 844 then I 438 (j - 844 * I 427 22) else I 440 j) = I 440 := by funext j; rw [if_neg (by omega)]
    rw [E217_2 hM, w_small (z := k) (by omega) (by omega), if_neg (by omega), e, setR_id]
  | succ n ih =>
    intro k I h0 h1 h2 h3 hn
    rw [E217_2 hM, w_small (z := k) (by omega) (by omega), if_pos (by omega), gdR_pos (by omega), w_small (z := 844 * I 427 22 + k) (by omega) (by omega), gdR_pos (by omega)]
    have e27 : up2 I 440 (844 * I 427 22 + k) (I 438 k) 427 = I 427 := up2_oth (by decide)
    have e38 : up2 I 440 (844 * I 427 22 + k) (I 438 k) 438 = I 438 := up2_oth (by decide)
    rw [ih (k + 1) _ (by omega) (by omega) (by rw [e27]; exact h2) (by rw [e27]; exact h3) (by omega), e27, e38, up2_set, setR_same, setR_set]
    have := putU_step (f := I 440) (g := I 438) (z := I 427 22) (k := k) h0 (by omega)
    rw [this]
theorem m_putsBy (hM : MA S 427) (h2 : 0 ≤ I 427 22) (h3 : I 427 22 ≤ 8) : ev d 217 0 [(2, 427), uU] [] S I = some (uU, S, setR I 440 (putU (I 440) (I 438) (I 427 22))) := by
  rw [E217_0, m_putsBy1 hM 844 0 I (by decide) (by decide) h2 h3 (by decide), Int.add_zero]
  rfl
theorem m_adds1 {a : Int} (hM : MA S 427) : ∀ (n : Nat) (k : Int) (I : II), 0 ≤ k → k ≤ 6752 → n = (6752 - k).toNat →
    ev d 232 21 [(2, 427), (0, a), (0, k)] [] S I = some ((0, a), S, up2 (setR I 440 (fun j => if k ≤ j ∧ j < 6752 then I 440 (j + 844) else I 440 j)) 427 22 (I 427 22 - 1)) := by
  intro n
  induction n with
  | zero =>
    intro k I h0 h1 hn
    have e : (fun j => if k ≤ j ∧ j < 6752 then I 440 (j + 844) else I 440 j) = I 440 := by funext j; rw [if_neg (by omega)]
    rw [E232_21 hM, w_small (z := k) (by omega) (by omega), if_neg (by omega), E232_60, e, setR_id]
  | succ n ih =>
    intro k I h0 h1 hn
    rw [E232_21 hM, w_small (z := k) (by omega) (by omega), if_pos (by omega), w_small (z := k + 844) (by omega) (by omega), gdR_pos (by omega), gdR_pos (by omega), ih (k + 1) _ (by omega) (by omega) (by omega), up2_oth (show (427 : Int) ≠ 440 by decide), up2_set (r := 440) (k := k), setR_same, setR_set]
    have e : (fun j => if k + 1 ≤ j ∧ j < 6752 then updR (I 440) k (I 440 (k + 844)) (j + 844) else updR (I 440) k (I 440 (k + 844)) j) = (fun j => if k ≤ j ∧ j < 6752 then I 440 (j + 844) else I 440 j) := by
      funext j
      by_cases e : j = k
      · subst e; rw [if_neg (by omega), updR_hit rfl, if_pos (by omega)]
      · by_cases e2 : k ≤ j ∧ j < 6752
        · rw [if_pos (by omega), updR_miss (by omega), if_pos e2]
        · rw [if_neg (by omega), updR_miss e, if_neg e2]
    rw [e]
theorem m_adds {a : Int} (hM : MA S 427) (h2 : 0 ≤ I 427 22) (h3 : I 427 22 ≤ 8) : ev d 232 0 [(2, 427), (0, a), uU] [] S I = some ((0, a), S, up2 (setR I 440 (addU (I 440) (I 427 22))) 427 22 (addZ (I 427 22))) := by
  rw [E232_0 hM, w_small (z := I 427 22 + 1) (by omega) (by omega)]
  unfold addU addZ
  by_cases g : I 427 22 < 8
  · rw [if_neg (by omega), E232_60, if_pos g, if_pos g, setR_id]
  · have e8 : I 427 22 = 8 := by omega
    rw [if_pos (by omega), m_adds1 hM 6752 0 _ (by decide) (by decide) (by decide), if_neg g, if_neg g, up2_hit rfl rfl, up2_oth (show (440 : Int) ≠ 427 by decide), e8]
    have : up2 (setR (up2 I 427 22 (8 + 1)) 440 (fun j => if 0 ≤ j ∧ j < 6752 then I 440 (j + 844) else I 440 j)) 427 22 (8 + 1 - 1) = up2 (setR I 440 (shU (I 440))) 427 22 8 := by
      funext x j
      by_cases hx : x = 427 ∧ j = 22
      · rw [up2_hit hx.1 hx.2, up2_hit hx.1 hx.2]; rfl
      · rw [up2_miss hx, up2_miss hx]
        by_cases h4 : x = 440
        · subst h4; rw [setR_same, setR_same]; rfl
        · rw [setR_oth h4, setR_oth h4, up2_miss hx]
    rw [this]
theorem m_counted {a : Int} (hM : MA S 427) (h2 : 0 ≤ I 427 22) (h3 : I 427 22 ≤ 8) (ha : isI a) : ev (d + 1) 231 0 [(2, 427), (0, a)] [] S I = some ((0, a), S, if a < 0 then I else up2 (setR I 440 (addU (I 440) (I 427 22))) 427 22 (addZ (I 427 22))) := by
  rw [E231_0 hM, w_small ha.1 ha.2, E231_13, m_adds hM h2 h3]
  by_cases g : a < 0
  · rw [if_pos g, if_pos g]
  · rw [if_neg g, if_neg g]
    simp only [Option.bind_some, psh_i]
    rw [E231_13]
theorem rowAt_putU {f g : RW} {z i j : Int} (j0 : 0 ≤ j) (j1 : j < 844) : rowAt (putU f g z) i j = if i = z then g j else rowAt f i j := by
  unfold rowAt putU
  by_cases e : i = z
  · subst e; rw [if_pos (by omega), if_pos rfl]; congr 1; omega
  · rw [if_neg (by omega), if_neg e]
theorem rowAt_shU {f : RW} {i j : Int} (i0 : 0 ≤ i) (i1 : i < 8) (j0 : 0 ≤ j) (j1 : j < 844) : rowAt (shU f) i j = rowAt f (i + 1) j := by
  unfold rowAt shU
  rw [if_pos (by omega)]; congr 1; omega
theorem BdN_putU {f g : RW} {z : Int} (hf : BdN N f) (hg : BdN N g) : BdN N (putU f g z) := by
  intro j; unfold putU; split
  · exact hg _
  · exact hf j
theorem BdN_addU {f : RW} {z : Int} (hf : BdN N f) : BdN N (addU f z) := by
  unfold addU; split
  · exact hf
  · intro j; unfold shU; split
    · exact hf _
    · exact hf j
end r71
