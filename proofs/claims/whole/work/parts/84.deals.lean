/-! what is made leaves what stands; deals -/
def SE (S T : SS) : Prop := S.1 ≤ T.1 ∧ ∀ a, a < (S.1 : Int) → sH T a = sH S a ∧ sG T a = sG S a
def dlS (C : CF) : Nat → RW → RW → RW → RW × RW × RW
  | 0, ρ, f, g => (ρ, f, g)
  | n + 1, ρ, f, g => dlS C n (chosenS C ρ).2 (updR f (C.2.2.2.1 (chosenS C ρ).1) (f (C.2.2.2.1 (chosenS C ρ).1) + 1)) (updR g (chosenS C ρ).1 (g (chosenS C ρ).1 + 1))
section r84
variable {d : Nat} {S T U : SS} {I J G I2 : II} {C : CF} {ρ σ : RW} {a b q f k v N : Int}
theorem SE_refl : SE S S := ⟨Nat.le_refl _, fun _ _ => ⟨rfl, rfl⟩⟩
theorem SE_trans (h : SE S T) (g : SE T U) : SE S U := ⟨Nat.le_trans h.1 g.1, fun a ha => ⟨(g.2 a (by have := h.1; omega)).1.trans (h.2 a ha).1, (g.2 a (by have := h.1; omega)).2.trans (h.2 a ha).2⟩⟩
theorem SE_new {len : Nat} : SE S (newS S k len) := by
  refine ⟨Nat.le_succ _, fun a ha => ⟨?_, ?_⟩⟩
  · show (if a = (S.1 : Int) then (k, (len : Int)) else sH S a) = sH S a
    rw [if_neg (by omega)]
  · funext i
    show (if a = (S.1 : Int) then -1 else sG S a i) = sG S a i
    rw [if_neg (by omega)]
theorem KO_ext (h : SE S T) (g : KO S a k) : KO T a k := by
  obtain ⟨g0, g1, g2⟩ := g
  refine ⟨g0, ?_, by rw [(h.2 a g1).1]; exact g2⟩
  have h1 := h.1
  have g1' : a < (S.1 : Int) := g1
  show a < (T.1 : Int)
  omega
theorem KA_ext {n : Int} (h : SE S T) (g : KA S a k n) : KA T a k n := by
  obtain ⟨g0, g1, g2, g3⟩ := g
  refine ⟨g0, ?_, by rw [(h.2 a g1).1]; exact g2, by rw [(h.2 a g1).1]; exact g3⟩
  have h1 := h.1
  have g1' : a < (S.1 : Int) := g1
  show a < (T.1 : Int)
  omega
theorem PE {i x n : Int} (h : SE S T) (l : a < (S.1 : Int)) (g : sG S a i = x ∧ KA S b k n) : sG T a i = x ∧ KA T b k n := ⟨by rw [(h.2 a l).2]; exact g.1, KA_ext h g.2⟩
theorem PX {i x : Int} {p q' : Prop} (h : SE S T) (l : a < (S.1 : Int)) (e : p → q') (g : sG S a i = x ∧ p) : sG T a i = x ∧ q' := ⟨by rw [(h.2 a l).2]; exact g.1, e g.2⟩
theorem LA_ext (h : SE S T) (g : LA S a) : LA T a := by
  obtain ⟨g0, g1, g2, g3⟩ := g
  exact ⟨KO_ext h g0, PE h g0.2.1 g1, PE h g0.2.1 g2, PE h g0.2.1 g3⟩
theorem RA_ext (h : SE S T) (g : RA S a) : RA T a := ⟨KO_ext h g.1, PE h g.1.2.1 g.2⟩
theorem TA_ext (h : SE S T) (g : TA S a) : TA T a := ⟨KO_ext h g.1, PE h g.1.2.1 g.2⟩
theorem HA_ext (h : SE S T) (g : HA S a) : HA T a := ⟨KO_ext h g.1, PE h g.1.2.1 g.2.1, PE h g.1.2.1 g.2.2⟩
theorem UA_ext (h : SE S T) (g : UA S a) : UA T a := by
  obtain ⟨g0, g1, g2, g3, g4, g5⟩ := g
  exact ⟨KO_ext h g0, PE h g0.2.1 g1, PE h g0.2.1 g2, PE h g0.2.1 g3, PE h g0.2.1 g4, PE h g0.2.1 g5⟩
theorem DA_ext (h : SE S T) (g : DA S a) : DA T a := by
  obtain ⟨g0, g1, g2, g3, g4, g5, g6, g7, g8, g9, g10, g11⟩ := g
  have l := g0.2.1
  exact ⟨KO_ext h g0, PE h l g1, fun q q0 q1 => PX h g1.2.2.1 (LA_ext h) (g2 q q0 q1), PE h l g3, PE h l g4, PE h l g5, PE h l g6, PE h l g7, PE h l g8, PE h l g9, PE h l g10, PE h l g11⟩
theorem PA_ext (h : SE S T) (g : PA S a) : PA T a := by
  obtain ⟨g0, g1, g2, g3, g4, g5⟩ := g
  have l := g0.2.1
  exact ⟨KO_ext h g0, PE h l g1, fun q q0 q1 => PX h g1.2.2.1 (DA_ext h) (g2 q q0 q1), PE h l g3, fun q q0 q1 => PX h g3.2.2.1 (DA_ext h) (g4 q q0 q1), PE h l g5⟩
theorem QA_ext (h : SE S T) (g : QA S a) : QA T a := by
  obtain ⟨g0, g1, g2, g3, g4, g5, g6, g7, g8⟩ := g
  have l := g0.2.1
  exact ⟨KO_ext h g0, PX h l (TA_ext h) g1, PX h l (RA_ext h) g2, PX h l (DA_ext h) g3, PX h l (DA_ext h) g4, PX h l (PA_ext h) g5, PX h l (UA_ext h) g6, PX h l (UA_ext h) g7, PX h l (HA_ext h) g8⟩
theorem MA_ext (h : SE S T) (g : MA S a) : MA T a := by
  obtain ⟨g0, g1, g2, g3, g4, g5, g6, g7, g8, g9, g10, g11, g12, g13, g14, g15, g16, g17, g18, g19, g20, g21, g22, g23, g24, g25, g26, g27⟩ := g
  have l := g0.2.1
  exact ⟨KO_ext h g0, PE h l g1, PE h l g2, PE h l g3, PE h l g4, PE h l g5, PE h l g6, PE h l g7, PE h l g8, PE h l g9, PE h l g10, PE h l g11, PE h l g12, PE h l g13, PE h l g14, PE h l g15, PE h l g16, PE h l g17, PE h l g18, PE h l g19, PE h l g20, PE h l g21, PE h l g22, PE h l g23, PE h l g24, PE h l g25, PE h l g26, PE h l g27⟩
theorem SH_ext (h : SE S T) (g : SH S) : SH T := ⟨QA_ext h g.1, MA_ext h g.2⟩
theorem SH_454 (hS : SH S) : 455 ≤ (S.1 : Int) := by
  obtain ⟨_, g⟩ := hS
  obtain ⟨g0, g1, g2, g3, g4, g5, g6, g7, g8, g9, g10, g11, g12, g13, g14, g15, g16, g17, g18, g19, g20, g21, g22, g23, g24, g25, g26, g27⟩ := g
  have : (427 : Int) + 27 < (S.1 : Int) := g27.2.2.1
  omega
theorem newI_oth {x : Int} (h : x < (S.1 : Int)) : newI S I x = I x := by funext i; unfold newI; rw [if_neg (by omega)]
theorem newI_own : newI S I (S.1 : Int) = fun _ => 0 := by funext i; unfold newI; rw [if_pos rfl]
/-- the class deals -/
theorem c_deal {x0 x1 : Int} (hQ : QA S 0) (hk : okC C) (h0 : KA S x0 20 5) (h1 : KA S x1 20 4) (g0 : 455 ≤ x0) (g1 : 455 ≤ x1) (hne : x0 ≠ x1) (hv0 : v < 100) (hN0 : 4 ≤ N) (hN : N < 1073741824) : ∀ (n : Nat) (k : Int) (ρ : RW) (J : II) (a6 a7 : AV), RelD C J 36 ρ → W0 C ρ → BdN N ρ → anyS C ρ = true → 0 ≤ k → k ≤ v → n = (v - k).toNat →
    ∃ K b6 b7, ev (d + 5) 54 12 [(2, 36), (0, v), (2, 3), (2, x0), (2, x1), (0, k), a6, a7] [] S J = ev (d + 5) 54 12 [(2, 36), (0, v), (2, 3), (2, x0), (2, x1), (0, v), b6, b7] [] S K ∧ K x1 = (dlS C n ρ (J x1) (J x0)).2.1 ∧ K x0 = (dlS C n ρ (J x1) (J x0)).2.2 ∧ (∀ y, ¬ (36 ≤ y ∧ y < 67) → y ≠ x0 → y ≠ x1 → K y = J y) ∧ BdN N (dlS C n ρ (J x1) (J x0)).1 := by
  intro n
  induction n with
  | zero =>
    intro k ρ J a6 a7 hR hW hB ha k0 k1 hn
    have : k = v := by omega
    subst this
    exact ⟨J, a6, a7, rfl, rfl, rfl, fun _ _ _ _ => rfl, hB⟩
  | succ n ih =>
    intro k ρ J a6 a7 hR hW hB ha k0 k1 hn
    have hn5 := hk.2.1
    have hc := canS_of hW hk ha
    obtain ⟨sp0, sp1, sp2, sp3⟩ := chosen_spec hc
    obtain ⟨K, u1, u2, u3⟩ := c_choose (d := d) (S := S) (b := 36) (by decide) (DA36 hQ) hR hW hk hB hN ha
    have kk := hk.2.2 _ sp0 sp1
    have hL := DA_lane (DA36 hQ) sp0 sp2
    have kf := ((u2.2.2.2.2.1 _ sp0 sp2).1.1 sp1).2.2.1
    rw [E54_12 (DA36 hQ) h1 (RA3 hQ), w_small (z := k) (by omega) (by omega), w_small (z := v) (by omega) (by omega), if_pos (by omega), u1]
    simp only [Option.bind_some, psh_i]
    rw [E54_22 (DA36 hQ), c_lane (DA36 hQ) u2.1 hk ⟨by omega, by omega⟩, if_pos ⟨sp0, sp1⟩]
    simp only [Option.bind_some, psh_r]
    have ho : up2 K x0 (chosenS C ρ).1 (K x0 (chosenS C ρ).1 + 1) (36 + 11 + 4 * (chosenS C ρ).1) 2 = C.2.2.2.1 (chosenS C ρ).1 := by rw [up2_oth (by omega), kf]
    rw [E54_30 (Or.inr hL) h0 h1, if_neg (by omega), kf, w_small (z := C.2.2.2.1 (chosenS C ρ).1) (by omega) (by omega), if_neg (by omega), if_pos (by omega), w_small (z := (chosenS C ρ).1) (by omega) (by omega), if_pos (by omega), gdR_pos (by omega), gdR_pos (by omega), ho, w_small (z := C.2.2.2.1 (chosenS C ρ).1) (by omega) (by omega), gdR_pos (by omega), gdR_pos (by omega), E54_80]
    have ex0 : K x0 = J x0 := u3 x0 (by omega)
    have ex1 : K x1 = J x1 := u3 x1 (by omega)
    rw [up2_oth (a := x0) (b := x1) (by omega), ex0, ex1]
    generalize hG : up2 (up2 K x0 (chosenS C ρ).1 (J x0 (chosenS C ρ).1 + 1)) x1 (C.2.2.2.1 (chosenS C ρ).1) (J x1 (C.2.2.2.1 (chosenS C ρ).1) + 1) = G
    have e1 : G x1 = updR (J x1) (C.2.2.2.1 (chosenS C ρ).1) (J x1 (C.2.2.2.1 (chosenS C ρ).1) + 1) := by rw [← hG, up2_row, up2_oth (by omega), ex1]
    have e0 : G x0 = updR (J x0) (chosenS C ρ).1 (J x0 (chosenS C ρ).1 + 1) := by rw [← hG, up2_oth (by omega), up2_row, ex0]
    have eo : ∀ y, y ≠ x0 → y ≠ x1 → G y = K y := fun y y0 y1 => by rw [← hG, up2_oth y1, up2_oth y0]
    obtain ⟨Z, b6, b7, z1, z2, z3, z4, z5⟩ := ih (k + 1) (chosenS C ρ).2 G (0, (chosenS C ρ).1) (2, 36 + 11 + 4 * (chosenS C ρ).1) (RelD_mem u2 (chosen_W0 hW hc).1 (fun y y0 y1 => eo y (by omega) (by omega))) (chosen_W0 hW hc).1 (chosenS_BdN hc hB hN0) (by rw [anyS_congr hn5 (fun j _ j1 => chosenS_oth hc (by omega))]; exact ha) (by omega) (by omega) (by omega)
    rw [e0, e1] at z2 z3 z5
    exact ⟨Z, b6, b7, z1, z2, z3, fun y y0 y1 y2 => by rw [z4 y y0 y1 y2, eo y y1 y2, u3 y (by omega)], z5⟩
/-- the reference deals -/
theorem m_deal (hM : MA S 427) (hk : okC C) (hv0 : v < 100) (hN0 : 4 ≤ N) (hN : N < 1073741824) : ∀ (n : Nat) (k : Int) (ρ : RW) (J : II) (a3 : AV), cfM J = C → J 439 = ρ → W0 C ρ → BdN N ρ → anyS C ρ = true → 0 ≤ k → k ≤ v → n = (v - k).toNat →
    ∃ K b3, ev (d + 6) 281 79 [(2, 427), (0, v), (0, k), a3] [] S J = ev (d + 6) 281 79 [(2, 427), (0, v), (0, v), b3] [] S K ∧ K 446 = (dlS C n ρ (J 446) (J 447)).2.1 ∧ K 447 = (dlS C n ρ (J 446) (J 447)).2.2 ∧ K 439 = (dlS C n ρ (J 446) (J 447)).1 ∧ ∀ y, y ≠ 439 → y ≠ 446 → y ≠ 447 → K y = J y := by
  intro n
  induction n with
  | zero =>
    intro k ρ J a3 hC hρ hW hB ha k0 k1 hn
    have : k = v := by omega
    subst this
    exact ⟨J, a3, rfl, rfl, rfl, hρ, fun _ _ _ _ => rfl⟩
  | succ n ih =>
    intro k ρ J a3 hC hρ hW hB ha k0 k1 hn
    have hn5 := hk.2.1
    have hc := canS_of hW hk ha
    obtain ⟨sp0, sp1, sp2, sp3⟩ := chosen_spec hc
    have kk := hk.2.2 _ sp0 sp1
    have mc := m_chosen (d := d) (S := S) (I := J) (r := 439) hM (Or.inr rfl) (by rw [hC]; exact hk) (by rw [hρ]; exact BdN_Bd hB hN) (by rw [hρ]; exact WF_okL hW) (by rw [hC, hρ]; exact hc)
    rw [hC, hρ] at mc
    have e436 : J 436 = C.2.2.2.1 := by rw [← hC]; rfl
    rw [E281_79 hM, w_small (z := k) (by omega) (by omega), w_small (z := v) (by omega) (by omega), if_pos (by omega), mc]
    simp only [Option.bind_some, psh_i]
    rw [E281_92 hM, w_small (z := (chosenS C ρ).1) (by omega) (by omega), gdR_pos (by omega), setR_oth (by decide), setR_oth (by decide), setR_oth (by decide), e436, w_small (z := C.2.2.2.1 (chosenS C ρ).1) (by omega) (by omega), gdR_pos (by omega), gdR_pos (by omega), gdR_pos (by omega), gdR_pos (by omega)]
    generalize hG : up2 (up2 (setR J 439 (chosenS C ρ).2) 446 (C.2.2.2.1 (chosenS C ρ).1) (J 446 (C.2.2.2.1 (chosenS C ρ).1) + 1)) 447 (chosenS C ρ).1 (J 447 (chosenS C ρ).1 + 1) = G
    have e1 : G 446 = updR (J 446) (C.2.2.2.1 (chosenS C ρ).1) (J 446 (C.2.2.2.1 (chosenS C ρ).1) + 1) := by rw [← hG, up2_oth (by decide), up2_row, setR_oth (by decide)]
    have e0 : G 447 = updR (J 447) (chosenS C ρ).1 (J 447 (chosenS C ρ).1 + 1) := by rw [← hG, up2_row, up2_oth (by decide), setR_oth (by decide)]
    have e9 : G 439 = (chosenS C ρ).2 := by rw [← hG, up2_oth (by decide), up2_oth (by decide), setR_same]
    have eo : ∀ y, y ≠ 439 → y ≠ 446 → y ≠ 447 → G y = J y := fun y y0 y1 y2 => by rw [← hG, up2_oth y2, up2_oth y1, setR_oth y0]
    have gC : cfM G = C := (cfM_mem (by rw [eo 427 (by decide) (by decide) (by decide)]) (eo 434 (by decide) (by decide) (by decide)) (eo 435 (by decide) (by decide) (by decide)) (eo 436 (by decide) (by decide) (by decide)) (eo 437 (by decide) (by decide) (by decide))).trans hC
    obtain ⟨Z, b3, z1, z2, z3, z5, z4⟩ := ih (k + 1) (chosenS C ρ).2 G (0, (chosenS C ρ).1) gC e9 (chosen_W0 hW hc).1 (chosenS_BdN hc hB hN0) (by rw [anyS_congr hn5 (fun j _ j1 => chosenS_oth hc (by omega))]; exact ha) (by omega) (by omega) (by omega)
    rw [e0, e1] at z2 z3 z5
    exact ⟨Z, b3, z1, z2, z3, z5, fun y y0 y1 y2 => by rw [z4 y y0 y1 y2, eo y y0 y1 y2]⟩
end r84
