/-! A TICK by the reference -/
def tk1S (ρ : RW) : RW := decsS (ρ 493).toNat 0 ρ
def tk2S (ρ : RW) : RW := endlS (tk1S ρ 493).toNat 0 (tk1S ρ)
def tk3S (C : CF) (ρ : RW) : RW := postlS C (tk2S ρ 814).toNat 0 (tk2S ρ)
def tk4S (C : CF) (ρ : RW) : RW := shadsS C C.1.toNat 0 (tk3S C ρ)
def tk5S (K : KF) (C : CF) (ρ : RW) : RW := fetlS K C 80 (tk4S C ρ)
def tickS (K : KF) (C : CF) (ρ : RW) : RW := updR (tk5S K C ρ) 827 (tk5S K C ρ 827 + 1)
def okTick (K : KF) (C : CF) (ρ : RW) : Prop := 0 ≤ ρ 493 ∧ ρ 493 ≤ 4 ∧ okEnd (tk1S ρ 493).toNat 0 (tk1S ρ) ∧ okPost C (tk2S ρ 814).toNat 0 (tk2S ρ) ∧ BdN 90000000 (tk3S C ρ) ∧ okFet K C 80 (tk4S C ρ) ∧ BdN 90000000 (tk5S K C ρ)
section r45
variable {d : Nat} {S : SS} {I : II} {r : Int}
theorem m_tick (hM : MA S 427) (hr : isRw r) (hk : okC (cfM I)) (hkk : okK (kfM I)) (hok : okTick (kfM I) (cfM I) (I r)) :
    ∃ J, ev (d + 7) 237 0 [(2, 427), (2, r), uU, uU] [] S I = some (uU, S, J) ∧ J r = tickS (kfM I) (cfM I) (I r) ∧
      J 427 24 = I 427 24 + (tk2S (I r) 814 - tk3S (cfM I) (I r) 814) ∧ J 427 25 = I 427 25 + (servedS (tk5S (kfM I) (cfM I) (I r)) - servedS (tk4S (cfM I) (I r))) ∧
      (∀ k, k ≠ 24 → k ≠ 25 → J 427 k = I 427 k) ∧ ∀ x, x ≠ r → x ≠ 427 → x ≠ 432 → x ≠ 433 → J x = I x := by
  have hK := isRw_K hM hr
  have rne : r ≠ 427 := by rcases hr with rfl | rfl <;> decide
  obtain ⟨o1, o2, o3, o4, o5, o6, o7⟩ := hok
  have n0 : 0 ≤ I 427 14 := hk.1
  rw [E237_0, m_decs (d := d + 6) hM hr _ 0 I (by decide) (by decide) o2 o1 rfl, Int.sub_zero]
  obtain ⟨k', hk'⟩ := m_endl (d := d + 3) (S := S) hM hr (tk1S (I r) 493).toNat 0 (setR I r (tk1S (I r))) (by rw [setR_same]; exact o3) (by decide) (by decide) (by rw [setR_same, Int.sub_zero])
  rw [show setR I r (decsS (I r 493).toNat 0 (I r)) = setR I r (tk1S (I r)) from rfl, hk', setR_same, setR_set, show endlS (tk1S (I r) 493).toNat 0 (tk1S (I r)) = tk2S (I r) from rfl]
  have hp := m_posts (d := d + 3) (S := S) hM hr (I := setR I r (tk2S (I r))) (by rw [cfM_setR hr]; exact hk) (by rw [cfM_setR hr, setR_same]; exact o4)
  rw [hp, cfM_setR hr, setR_same, setR_set, setR_oth (show (427 : Int) ≠ r from rne.symm), show postlS (cfM I) (tk2S (I r) 814).toNat 0 (tk2S (I r)) = tk3S (cfM I) (I r) from rfl]
  simp only [Option.bind_some, psh_u]
  generalize hG0 : up2 (setR I r (tk3S (cfM I) (I r))) 427 24 (I 427 24 + (tk2S (I r) 814 - tk3S (cfM I) (I r) 814)) = G0
  have gr : G0 r = tk3S (cfM I) (I r) := by rw [← hG0, up2_oth rne, setR_same]
  have gc : cfM G0 = cfM I := by rw [← hG0]; exact cfM_cnt hr (by decide)
  have g427 : ∀ k, k ≠ 24 → G0 427 k = I 427 k := fun k h => by rw [← hG0, up2_miss (by omega), setR_oth rne.symm]
  have g24 : G0 427 24 = I 427 24 + (tk2S (I r) 814 - tk3S (cfM I) (I r) 814) := by rw [← hG0]; exact up2_hit rfl rfl
  have gx : ∀ x, x ≠ r → x ≠ 427 → G0 x = I x := fun x h1 h2 => by rw [← hG0, up2_oth h2, setR_oth h1]
  obtain ⟨_, hs, _⟩ := m_shads (d := d + 6) (S := S) (a2 := k') hM hr (N := 90000000) (by decide) (by decide) (I 427 14).toNat 0 G0 (by rw [gc]; exact hk) (by rw [gr]; exact o5) (by decide) (by decide) (by rw [g427 14 (by decide), Int.sub_zero])
  rw [E237_73, hs, gc, gr, show shadsS (cfM I) (I 427 14).toNat 0 (tk3S (cfM I) (I r)) = tk4S (cfM I) (I r) from rfl]
  have kk : kfM (setR G0 r (tk4S (cfM I) (I r))) = kfM I := by
    unfold kfM
    rw [setR_oth (show (430 : Int) ≠ r by rcases hr with rfl | rfl <;> decide), setR_oth (show (427 : Int) ≠ r from rne.symm), gx 430 (by rcases hr with rfl | rfl <;> decide) (by decide), g427 10 (by decide)]
  obtain ⟨J, hJ, hJr, hJx⟩ := m_fetl (d := d) (S := S) (a2 := k') (a3 := servedS (tk4S (cfM I) (I r))) hM hr 80 (setR G0 r (tk4S (cfM I) (I r))) (by rw [cfM_setR hr, gc]; exact hk) (by rw [kk]; exact hkk) (by rw [kk, cfM_setR hr, gc, setR_same]; exact o6)
  rw [kk, cfM_setR hr, gc, setR_same, show fetlS (kfM I) (cfM I) 80 (tk4S (cfM I) (I r)) = tk5S (kfM I) (cfM I) (I r) from rfl] at hJr
  have j427 : J 427 = G0 427 := by rw [hJx 427 rne.symm (by decide) (by decide), setR_oth rne.symm]
  rw [hJ, E237_192 hM, m_served (N := 90000000) hK (by rw [hJr]; exact o7) (by decide)]
  simp only [Option.bind_some, psh_i, psh_r]
  rw [E237_201 hM hK hr, w_small (z := 827) (by decide) (by decide), gdR_pos (by decide), gdR_pos (by decide), hJr, j427]
  refine ⟨_, rfl, ?_, ?_, ?_, ?_, ?_⟩
  · rw [up2_set, setR_same, up2_oth rne, hJr]; rfl
  · rw [up2_oth rne.symm, up2_miss (by decide), j427]; exact g24
  · rw [up2_oth rne.symm, up2_hit rfl rfl, g427 25 (by decide)]
  · intro k h1 h2
    rw [up2_oth rne.symm, up2_miss (by omega), j427]; exact g427 k h1
  · intro x h1 h2 h3 h4
    rw [up2_oth h1, up2_oth h2, hJx x h1 h3 h4, setR_oth h1]; exact gx x h1 h2
end r45
