/-! the reference's tick: the loop of fetching -/
def goesS (C : CF) (ρ : RW) : Prop := ρ 493 < ρ 826 ∧ anyS C ρ = true
def fetlS (K : KF) (C : CF) : Nat → RW → RW
  | 0, ρ => ρ
  | n + 1, ρ => if ρ 493 < ρ 826 ∧ anyS C ρ = true then fetlS K C n (fetchesS K C ρ) else ρ
def okFet (K : KF) (C : CF) : Nat → RW → Prop
  | 0, ρ => BdN 90000000 ρ ∧ Cn ρ ∧ ¬ goesS C ρ
  | n + 1, ρ => BdN 90000000 ρ ∧ Cn ρ ∧ okL ρ ∧ 0 ≤ ρ 827 ∧ (goesS C ρ → canS C ρ ∧ 0 ≤ (chosenS C ρ).1 ∧ (chosenS C ρ).1 < C.1 ∧ ρ 493 < 4 ∧ ρ 814 < 80 ∧ okFet K C n (fetchesS K C ρ))
section r44
variable {d : Nat} {S : SS} {r q a a2 a3 : Int}
theorem m_fetl (hM : MA S 427) (hr : isRw r) : ∀ (n : Nat) (I : II), okC (cfM I) → okK (kfM I) → okFet (kfM I) (cfM I) n (I r) →
    ∃ J, ev (d + 7) 237 163 [(2, 427), (2, r), (0, a2), (0, a3)] [] S I = ev (d + 7) 237 192 [(2, 427), (2, r), (0, a2), (0, a3)] [] S J ∧ J r = fetlS (kfM I) (cfM I) n (I r) ∧ ∀ x, x ≠ r → x ≠ 432 → x ≠ 433 → J x = I x := by
  have hK := isRw_K hM hr
  -- one look at whether it goes on
  have look : ∀ I : II, okC (cfM I) → BdN 90000000 (I r) → ev (d + 7) 237 163 [(2, 427), (2, r), (0, a2), (0, a3)] [] S I =
      if I r 493 < I r 826 ∧ anyS (cfM I) (I r) = true then (ev (d + 6) 246 0 [(2, 427), (2, r), uU, uU, uU, uU, uU, uU, uU, uU] [] S I).bind (fun q => ev (d + 7) 237 189 [(2, 427), (2, r), (0, a2), (0, a3)] (psh q.1 []) q.2.1 q.2.2)
      else ev (d + 7) 237 192 [(2, 427), (2, r), (0, a2), (0, a3)] [] S I := by
    intro I hk hB
    have b1 := hB 493
    have b2 := hB 826
    rw [E237_163 hK hM, w_small (z := 493) (by decide) (by decide), w_small (z := 826) (by decide) (by decide), gdR_pos (by decide), gdR_pos (by decide), w_small (z := I r 493) (by omega) (by omega), w_small (z := I r 826) (by omega) (by omega)]
    by_cases h : I r 493 < I r 826
    · rw [if_pos h, m_any hM hr hk (BdN_Bd hB (by decide))]
      simp only [Option.bind_some, psh_i]
      rw [E237_181 hM]
      by_cases h2 : anyS (cfM I) (I r) = true
      · rw [if_pos h2, if_neg (by decide), if_pos ⟨h, h2⟩]
      · rw [if_neg h2, if_pos (by decide), if_neg (fun h3 => h2 h3.2)]
    · rw [if_neg h, if_neg (fun h3 => h h3.1)]
  intro n
  induction n with
  | zero =>
    intro I hk hkk hok
    obtain ⟨hB, hC, hg⟩ := hok
    refine ⟨I, ?_, rfl, fun _ _ _ _ => rfl⟩
    rw [look I hk hB, if_neg (show ¬ (I r 493 < I r 826 ∧ anyS (cfM I) (I r) = true) from hg)]
  | succ n ih =>
    intro I hk hkk hok
    obtain ⟨hB, hC, hl, ht, hgo⟩ := hok
    rw [look I hk hB, fetlS]
    by_cases h : I r 493 < I r 826 ∧ anyS (cfM I) (I r) = true
    · obtain ⟨hc, hq0, hqn, h4, h8, hok2⟩ := hgo h
      rw [if_pos h, if_pos h]
      obtain ⟨J, hJ, hJr, hJx⟩ := m_fetches (d := d) (N := 90000000) (S := S) (I := I) (r := r) hM hr hk hkk hB (by decide) (by decide) hC hl ht hc hq0 hqn h4 h8
      rw [hJ]
      simp only [Option.bind_some, psh_u]
      have j427 : J 427 = I 427 := hJx 427 (by rcases hr with rfl | rfl <;> decide) (by decide) (by decide)
      have ec : cfM J = cfM I := by
        unfold cfM
        rw [j427, hJx 434 (by rcases hr with rfl | rfl <;> decide) (by decide) (by decide), hJx 435 (by rcases hr with rfl | rfl <;> decide) (by decide) (by decide), hJx 436 (by rcases hr with rfl | rfl <;> decide) (by decide) (by decide), hJx 437 (by rcases hr with rfl | rfl <;> decide) (by decide) (by decide)]
      have ek : kfM J = kfM I := by
        unfold kfM; rw [j427, hJx 430 (by rcases hr with rfl | rfl <;> decide) (by decide) (by decide)]
      obtain ⟨G, hG, hGr, hGx⟩ := ih J (by rw [ec]; exact hk) (by rw [ek]; exact hkk) (by rw [ek, ec, hJr]; exact hok2)
      refine ⟨G, ?_, ?_, fun x h1 h2 h3 => (hGx x h1 h2 h3).trans (hJx x h1 h2 h3)⟩
      · rw [E237_189, hG]
      · rw [hGr, ek, ec, hJr]
    · rw [if_neg h, if_neg h]
      exact ⟨I, rfl, rfl, fun _ _ _ _ => rfl⟩
end r44
