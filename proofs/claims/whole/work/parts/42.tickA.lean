/-! the reference's tick: what runs, what is posted -/
def decsS : Nat → Int → RW → RW
  | 0, _, ρ => ρ
  | n + 1, k, ρ => decsS n (k + 1) (updR ρ (456 + 12 * k) (ρ (456 + 12 * k) - 1))
def endlS : Nat → Int → RW → RW
  | 0, _, ρ => ρ
  | n + 1, k, ρ => if ρ (456 + 12 * k) = 0 then endlS n k (endsS ρ k) else endlS n (k + 1) ρ
/-- what the loop needs on its way -/
def okEnd : Nat → Int → RW → Prop
  | 0, _, ρ => Cn ρ
  | n + 1, k, ρ => Cn ρ ∧ (ρ (456 + 12 * k) = 0 → ρ 814 < 80 ∧ (0 ≤ ρ (448 + 12 * k) ∧ ρ (448 + 12 * k) < 10) ∧ (ρ (447 + 12 * k) ≠ 0 → ρ (447 + 12 * k) ≠ 1 → ρ (447 + 12 * k) ≠ 4 → ρ 814 < 79 ∧ 0 ≤ ρ (453 + 12 * k) ∧ ρ (453 + 12 * k) < 10) ∧ okEnd n k (endsS ρ k)) ∧ (ρ (456 + 12 * k) ≠ 0 → okEnd n (k + 1) ρ)
def postlS (C : CF) : Nat → Int → RW → RW
  | 0, _, ρ => ρ
  | n + 1, k, ρ => if roomS C ρ k = true then postlS C n k (postS C ρ k) else postlS C n (k + 1) ρ
def okPost (C : CF) : Nat → Int → RW → Prop
  | 0, _, ρ => Cn ρ
  | n + 1, k, ρ => Cn ρ ∧ (0 ≤ ρ (494 + 4 * k) ∧ ρ (494 + 4 * k) < C.1) ∧ (roomS C ρ k = true → okPost C n k (postS C ρ k)) ∧ (roomS C ρ k ≠ true → okPost C n (k + 1) ρ)
section r42
variable {d : Nat} {S : SS} {r q a a2 : Int}
theorem m_decs (hM : MA S 427) (hr : isRw r) : ∀ (n : Nat) (k : Int) (I : II), 0 ≤ k → k ≤ 4 → I r 493 ≤ 4 → 0 ≤ I r 493 → n = (I r 493 - k).toNat →
    ev (d + 1) 237 2 [(2, 427), (2, r), (0, k), uU] [] S I = ev (d + 1) 237 32 [(2, 427), (2, r), (0, 0), uU] [] S (setR I r (decsS n k (I r))) := by
  have hK := isRw_K hM hr
  intro n
  induction n with
  | zero =>
    intro k I h0 h1 h2 h3 hn
    rw [E237_2 hK, w_small (z := 493) (by decide) (by decide), gdR_pos (by decide), w_small (z := k) (by omega) (by omega), w_small (z := I r 493) (by omega) (by omega), if_neg (by omega), decsS, setR_id]
  | succ n ih =>
    intro k I h0 h1 h2 h3 hn
    have e : 445 + 12 * k + 11 = 456 + 12 * k := by omega
    rw [E237_2 hK, w_small (z := 493) (by decide) (by decide), gdR_pos (by decide), w_small (z := k) (by omega) (by omega), w_small (z := I r 493) (by omega) (by omega), if_pos (by omega), E224_0]
    simp only [Option.bind_some, psh_i]
    have e4 : up2 I r (456 + 12 * k) (I r (456 + 12 * k) - 1) r 493 = I r 493 := up2_miss (by omega)
    rw [E237_16 hK, e, w_small (z := 456 + 12 * k) (by omega) (by omega), gdR_pos (by omega), gdR_pos (by omega), ih (k + 1) _ (by omega) (by omega) (by rw [e4]; exact h2) (by rw [e4]; exact h3) (by rw [e4]; omega), decsS, up2_set, setR_same, setR_set]
theorem runGo_493 {ρ : RW} {k : Int} (h : ρ 493 ≤ 5) : runGoS ρ k 493 = ρ 493 - 1 := by
  unfold runGoS shf; rw [if_neg (by omega), updR_hit rfl]
theorem doneS_493 {ρ : RW} {k : Int} (h0 : 0 ≤ ρ 814) (h1 : ρ 814 < 80) (hb : 0 ≤ ρ (448 + 12 * k)) (hb2 : ρ (447 + 12 * k) ≠ 0 → ρ (447 + 12 * k) ≠ 1 → ρ (447 + 12 * k) ≠ 4 → ρ 814 < 79 ∧ 0 ≤ ρ (453 + 12 * k) ∧ ρ (453 + 12 * k) < 10) : doneS ρ k 493 = ρ 493 := by
  have u3 : 445 + 12 * k + 3 = 448 + 12 * k := by omega
  have u8 : 445 + 12 * k + 8 = 453 + 12 * k := by omega
  have u2 : 445 + 12 * k + 2 = 447 + 12 * k := by omega
  unfold doneS
  simp only [u2, u3, u8]
  split
  · exact outS_oth h0 (by omega) (Or.inl (by decide))
  · rename_i g0
    split
    · by_cases hz : 828 + ρ (448 + 12 * k) = 814
      · omega
      · rw [outS_oth (by rw [updR_miss (by omega)]; exact h0) (by rw [updR_miss (by omega)]; omega) (Or.inl (by decide)), updR_miss (by omega)]
    · rename_i g1
      split
      · exact outS_oth h0 (by omega) (Or.inl (by decide))
      · rename_i g4
        have hb2 := hb2 g0 g1 g4
        split
        · rw [outS_oth (by rw [updR_miss (by omega), outS_814]; omega) (by rw [updR_miss (by omega), outS_814]; omega) (Or.inl (by decide)), updR_miss (by omega), outS_oth h0 (by omega) (Or.inl (by decide))]
        · rw [outS_oth (by rw [outS_814]; omega) (by rw [outS_814]; omega) (Or.inl (by decide)), outS_oth h0 (by omega) (Or.inl (by decide))]
/-- all that runs: ended or left, then the outbox is posted -/
theorem m_endl (hM : MA S 427) (hr : isRw r) : ∀ (n : Nat) (k : Int) (I : II), okEnd n k (I r) → 0 ≤ k → k ≤ 4 → n = (I r 493 - k).toNat →
    ∃ k', ev (d + 4) 237 32 [(2, 427), (2, r), (0, k), uU] [] S I = (ev (d + 3) 241 0 [(2, 427), (2, r), uU, uU, uU, uU, uU] [] S (setR I r (endlS n k (I r)))).bind (fun q => ev (d + 4) 237 73 [(2, 427), (2, r), (0, k'), uU] (psh q.1 []) q.2.1 q.2.2) := by
  have hK := isRw_K hM hr
  intro n
  induction n with
  | zero =>
    intro k I hok h0 h1 hn
    have hC : Cn (I r) := hok
    have c1 := hC.2.2.1
    have c2 := hC.2.2.2.2.1
    refine ⟨k, ?_⟩
    rw [E237_32 hK hM, w_small (z := 493) (by decide) (by decide), gdR_pos (by decide), w_small (z := k) (by omega) (by omega), w_small (z := I r 493) (by omega) (by omega), if_neg (by omega), endlS, setR_id]
  | succ n ih =>
    intro k I hok h0 h1 hn
    obtain ⟨hC, hz, hnz⟩ := hok
    have c1 := hC.2.2.1
    have c2 := hC.2.2.2.2.1
    have b := hC.1 (456 + 12 * k)
    have e : 445 + 12 * k + 11 = 456 + 12 * k := by omega
    rw [E237_32 hK hM, w_small (z := 493) (by decide) (by decide), gdR_pos (by decide), w_small (z := k) (by omega) (by omega), w_small (z := I r 493) (by omega) (by omega), if_pos (by omega), E224_0]
    simp only [Option.bind_some, psh_i]
    rw [E237_46 hK hM, e, w_small (z := 456 + 12 * k) (by omega) (by omega), gdR_pos (by omega), w_small (z := I r (456 + 12 * k)) (by omega) (by omega), endlS]
    by_cases c : I r (456 + 12 * k) = 0
    · obtain ⟨h8, hb, hb2, hok2⟩ := hz c
      have e493 : endsS (I r) k 493 = I r 493 - 1 := by
        have z := doneS_493 hC.2.2.2.2.2 h8 hb.1 hb2
        unfold endsS; rw [runGo_493 (by rw [z]; omega), z]
      rw [if_pos c, if_pos c, m_ends hM hr hC h0 (by omega) h8 hb hb2]
      simp only [Option.bind_some, psh_u]
      obtain ⟨k', hk'⟩ := ih k (setR I r (endsS (I r) k)) (by rw [setR_same]; exact hok2) h0 h1 (by rw [setR_same, e493]; omega)
      refine ⟨k', ?_⟩
      rw [E237_59, hk', setR_same, setR_set]
    · rw [if_neg c, if_neg c]
      exact ih (k + 1) I (hnz c) (by omega) (by omega) (by omega)
end r42
