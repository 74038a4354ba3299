/-! rule -/
section ra08
variable {d : Nat} {S : SS} {I J K G I2 : II} {t : Int → Int} {L p p' q r b s c ok u v n a k N : Int} {cs c0 l : List Int}
theorem fau_b (hp0 : 0 ≤ p) (hp1 : p ≤ 80) : -81 ≤ fau n L ok p ∧ fau n L ok p ≤ 0 := by
  unfold fau; split
  · omega
  · split <;> omega
theorem m_fau (hM : MA S 427) (e5 : K 427 5 = p) (e6 : K 427 6 = L) (p0 : 0 ≤ p) (pL : p ≤ L) (L1 : L ≤ 80) (n0 : 0 ≤ n) (n1 : n ≤ 80) (hok : ok = 0 ∨ ok = 1) : ev d 204 0 [(2, 427), (0, n), (0, 40), (0, ok), uU] [] S K = some ((0, fau n L ok p), S, K) := by
  rw [E204_0 hM, e5, e6, w_small (z := ok) (by omega) (by omega), w_small (z := p) (by omega) (by omega), w_small (z := L) (by omega) (by omega), E204_19, E204_20 hM, E204_20 hM, w_small (z := n) (by omega) (by omega), show w 40 = 40 by decide, show w 0 = 0 by decide, show w 1 = 1 by decide, e5, w_small (z := p) (by omega) (by omega), E204_40, E204_40, E204_44 hM, E204_44 hM, show w 0 = 0 by decide, show w 1 = 1 by decide, e5, E204_59, E204_59, E204_59]
  unfold fau
  by_cases go : ok = 0
  · rw [if_pos go]
    by_cases g1 : 40 < n
    · rw [if_pos g1, if_pos rfl]
      by_cases g2 : p < 40
      · rw [if_pos g2, if_pos rfl, if_neg (by omega), if_neg (by omega)]
      · rw [if_neg g2, if_pos (by omega)]; rfl
    · rw [if_neg g1, if_pos rfl, if_neg (by omega), if_neg (by omega)]
  · rw [if_neg go]
    by_cases g3 : p = L
    · rw [if_pos g3]
      by_cases g1 : 40 < n
      · rw [if_pos g1, if_neg (by decide), if_pos (by omega)]; rfl
      · rw [if_neg g1, if_neg (by decide), if_neg (by omega), if_pos (by omega), E204_59]
    · rw [if_neg g3]
      by_cases g1 : 40 < n
      · rw [if_pos g1, if_pos rfl]
        by_cases g2 : p < 40
        · rw [if_pos g2, if_pos rfl, if_neg (by omega), if_neg (by omega)]
        · rw [if_neg g2, if_pos (by omega)]; rfl
      · rw [if_neg g1, if_pos rfl, if_neg (by omega), if_neg (by omega)]
theorem m_reads (hM : MA S 427) (e4 : J 427 4 = n) (n0 : 0 ≤ n) (n1 : n ≤ 80) (ht : ∀ j, 0 ≤ j → j < n → 0 ≤ J 429 j ∧ J 429 j < 256) (hL : L = if 40 < n then 40 else n) :
    ∃ ok p' cs K, ev (d + 99) 194 0 [(2, 427), uU, uU] [] S J = some ((0, fau n L ok p'), S, K) ∧ (∀ x, x ≠ 427 → x ≠ 431 → K x = J x) ∧ (∀ k, k ≠ 4 → k ≠ 5 → k ≠ 6 → k ≠ 7 → k ≠ 11 → K 427 k = J 427 k) ∧ K 427 4 = 0 ∧ (ok = 0 ∨ ok = 1) ∧ 0 ≤ p' ∧ p' ≤ L ∧ (L ≠ 0 → CLm (J 429) L 0 p' 0 0 ok cs) ∧ (L = 0 → ok = 1 ∧ cs = []) ∧ K 427 11 = (cs.length : Int) ∧ SK (K 431) cs ∧ (cs.length : Int) ≤ L ∧ (ok = 1 → L ≠ 0 → ∀ u, okR cs u (u + 1)) := by
  have L40 : L ≤ 40 := by rw [hL]; split <;> omega
  have Ln : L ≤ n := by rw [hL]; split <;> omega
  have L0 : 0 ≤ L := by rw [hL]; split <;> omega
  have Lc : L = 0 ↔ n = 0 := by rw [hL]; split <;> omega
  have eL : (if w 40 < w (J 427 4) then w 40 else w (J 427 4)) = L := by rw [e4, w_small (z := n) (by omega) (by omega), hL]; rfl
  rw [E194_0 hM, E195_0 hM, eL, e4]
  simp only [Option.bind_some, psh_i]
  rw [E194_6 hM, w_small (z := n) (by omega) (by omega)]
  generalize hG : up2 (up2 (up2 (up2 (up2 J 427 4 0) 427 5 0) 427 7 0) 427 6 L) 427 11 0 = G
  have go : ∀ x, x ≠ 427 → G x = J x := fun x hx => by rw [← hG, up2_oth hx, up2_oth hx, up2_oth hx, up2_oth hx, up2_oth hx]
  have gk : ∀ k, k ≠ 4 → k ≠ 5 → k ≠ 6 → k ≠ 7 → k ≠ 11 → G 427 k = J 427 k := fun k h1 h2 h3 h4 h5 => by rw [← hG]; simp (disch := omega) only [up2_miss]
  have g5 : G 427 5 = 0 := by rw [← hG]; simp (disch := omega) only [up2_miss, up2_hit]
  have g7 : G 427 7 = 0 := by rw [← hG]; simp (disch := omega) only [up2_miss, up2_hit]
  have g6 : G 427 6 = L := by rw [← hG]; simp (disch := omega) only [up2_miss, up2_hit]
  have g11 : G 427 11 = 0 := by rw [← hG]; simp (disch := omega) only [up2_miss, up2_hit]
  have g4 : G 427 4 = 0 := by rw [← hG]; simp (disch := omega) only [up2_miss, up2_hit]
  by_cases gz : n = 0
  · have lz := Lc.mpr gz
    rw [if_pos gz, E194_24, E194_29 hM, m_fau hM g5 g6 (by decide) L0 (by omega) n0 n1 (Or.inr rfl)]
    simp only [Option.bind_some, psh_i]
    rw [E194_38]
    exact ⟨1, 0, [], G, rfl, fun x x0 _ => go x x0, gk, g4, Or.inr rfl, Int.le_refl _, L0, fun x => absurd lz x, fun _ => ⟨rfl, rfl⟩, g11, trivial, L0, fun _ x => absurd lz x⟩
  · have lz : L ≠ 0 := fun x => gz (Lc.mp x)
    obtain ⟨ok, p', cs, K, x1, x2, x3, x4, x5, x6, x7, x8, x9, x10, x11⟩ := (parse_all (I := G) (t := J 429) hM g6 (go 429 (by decide)) L0 L40 (fun j j0 j1 => ht j j0 (by omega)) (d + 91)).2 0 0 0 [] G (by decide) (by decide) ⟨RF_refl, g5, g7, g11, trivial, Int.le_refl _, L0, Int.le_refl _, by decide, Int.le_refl _⟩ (by omega)
    have x1' : ev (d + 98) 196 0 [(2, 427), (0, 0), uU, uU] [] S G = some ((0, ok), S, K) := x1
    rw [List.append_nil] at x4 x5
    have k6 : K 427 6 = L := by rw [x2.2 6 (by decide) (by decide) (by decide)]; exact g6
    rw [if_neg gz, x1']
    simp only [Option.bind_some, psh_i]
    have e29 : ev (d + 99) 194 21 [(2, 427), (0, n), uU] [(0, ok)] S K = ev (d + 99) 194 29 [(2, 427), (0, n), uU] [(0, ok)] S K := by
      rw [E194_21, w_small (z := ok) (by omega) (by omega)]
      by_cases g : ok = 0
      · rw [if_pos g, g]
      · rw [if_neg g, E194_24, show ok = 1 by omega]
    rw [e29, E194_29 hM, m_fau hM x3 k6 x7 x8 (by omega) n0 n1 x6]
    simp only [Option.bind_some, psh_i]
    rw [E194_38]
    exact ⟨ok, p', cs, K, rfl, fun x x0 x1 => by rw [x2.1 x x0 x1, go x x0], fun k h1 h2 h3 h4 h5 => by rw [x2.2 k h2 h4 h5, gk k h1 h2 h3 h4 h5], by rw [x2.2 4 (by decide) (by decide) (by decide)]; exact g4, x6, x7, x8, fun _ => x11, fun x => absurd x lz, x4, x5, by omega, fun ho _ => (x10 ho).2⟩
theorem m_layC {a1 : Int} (hM : MA S 427) (hA : KA S a1 20 80) (ha : a1 ≠ 430) (n1 : n ≤ 80) : ∀ (m : Nat) (k : Int) (J : II), 0 ≤ k → k ≤ n → m = (n - k).toNat → ∃ K, ev d 205 7 [(2, 427), (2, a1), (0, n), (0, k)] [] S J = some (uU, S, K) ∧ (∀ x, x ≠ 430 → K x = J x) ∧ ∀ j, K 430 j = if k ≤ j ∧ j < n then J a1 j else J 430 j := by
  intro m
  induction m with
  | zero =>
    intro k J k0 k1 hm
    refine ⟨J, ?_, fun _ _ => rfl, fun j => by rw [if_neg (by omega)]⟩
    rw [E205_7 hM hA, w_small (z := k) (by omega) (by omega), w_small (z := n) (by omega) (by omega), if_neg (by omega)]
  | succ m ih =>
    intro k J k0 k1 hm
    obtain ⟨K, x1, x2, x3⟩ := ih (k + 1) (up2 J 430 k (J a1 k)) (by omega) (by omega) (by omega)
    refine ⟨K, ?_, fun x hx => by rw [x2 x hx, up2_oth hx], fun j => ?_⟩
    · rw [E205_7 hM hA, w_small (z := k) (by omega) (by omega), w_small (z := n) (by omega) (by omega), if_pos (by omega), gdR_pos (by omega), gdR_pos (by omega), x1]
    · rw [x3 j]
      by_cases e : j = k
      · subst e
        rw [if_neg (by omega), up2_hit rfl rfl, if_pos (by omega)]
      · by_cases g : k ≤ j ∧ j < n
        · rw [if_pos (by omega), if_pos g, up2_oth ha]
        · rw [if_neg (by omega), if_neg g, up2_miss (by omega)]
theorem m_layD {a1 : Int} (hM : MA S 427) (hA : KA S a1 20 80) (ha : a1 ≠ 430) (ha2 : a1 ≠ 427) (n0 : 0 ≤ n) (n1 : n ≤ 80) : ∃ K, ev d 205 0 [(2, 427), (2, a1), (0, n), uU] [] S J = some (uU, S, K) ∧ (∀ x, x ≠ 430 → x ≠ 427 → K x = J x) ∧ (∀ k, k ≠ 10 → K 427 k = J 427 k) ∧ K 427 10 = n ∧ ∀ j, K 430 j = if 0 ≤ j ∧ j < n then J a1 j else J 430 j := by
  obtain ⟨K, x1, x2, x3⟩ := m_layC (d := d) (S := S) hM hA ha n1 n.toNat 0 (up2 J 427 10 n) (by decide) n0 (by omega)
  refine ⟨K, by rw [E205_0 hM, x1], fun x x0 y0 => by rw [x2 x x0, up2_oth y0], fun k hk => by rw [x2 427 (by decide), up2_miss (by omega)], by rw [x2 427 (by decide), up2_hit rfl rfl], fun j => by rw [x3 j, up2_oth ha2, up2_oth (by decide)]⟩
theorem SK_ext {st su : RW} : ∀ (l : List Int), SK st l → (∀ j, 0 ≤ j → j < (l.length : Int) → su j = st j) → SK su l := by
  intro l
  induction l with
  | nil => intro _ _; trivial
  | cons x l ih =>
    intro h g
    rw [List.length_cons, Int.natCast_add, Int.natCast_one] at g
    exact ⟨by rw [g _ (by omega) (by omega)]; exact h.1, ih h.2 (fun j j0 j1 => g j j0 (by omega))⟩
theorem okK_of {code : RW} (hs : SK code l) (hl : (l.length : Int) ≤ 40) (hr : l ≠ [] → ∀ u, okR l u (u + 1)) : okK (code, (l.length : Int)) := by
  refine ⟨by show (0 : Int) ≤ (l.length : Int); omega, hl, fun h => ?_⟩
  have hne : l ≠ [] := fun e => h (by show (l.length : Int) = 0; rw [e]; rfl)
  have := okR_E (st := code) l.length l [] 0 rfl (hr hne 0) (by rw [List.append_nil]; exact hs) (by omega)
  show okE code ((l.length : Int)).toNat 0 0
  rw [Int.toNat_natCast]
  exact this
/-- what stands behind a call that reads THE TEXT -/
theorem ST_mk (h : ST N I) (hT : cT I2) (hR : cR I2) (hU : cU I2) (hx : ∀ x, x < 427 → x ≠ 1 → x ≠ 3 → x ≠ 4 → ¬ (36 ≤ x ∧ x < 67) → ¬ (412 ≤ x ∧ x < 424) → I2 x = I x) (hk : ∀ k, (k = 36 ∨ k = 14 ∨ k = 15 ∨ k = 22) → I2 427 k = I 427 k) (hy : ∀ x, (434 ≤ x ∧ x ≤ 438 ∨ x = 440 ∨ x = 448 ∨ x = 449 ∨ 452 ≤ x ∧ x ≤ 454) → I2 x = I x) (hB : BdN (N + 100000) (I2 439)) : ST (N + 100000) I2 := by
  obtain ⟨tT, tR, tH, tD, tU, tP, tK, tB⟩ := h
  have lo : ∀ x, 5 ≤ x → x < 36 → I2 x = I x := fun x x0 x1 => hx x (by omega) (by omega) (by omega) (by omega) (by omega) (by omega)
  have mi : ∀ x, 67 ≤ x → x < 412 → I2 x = I x := fun x x0 x1 => hx x (by omega) (by omega) (by omega) (by omega) (by omega) (by omega)
  have up : ∀ x, 424 ≤ x → x < 427 → I2 x = I x := fun x x0 x1 => hx x x1 (by omega) (by omega) (by omega) (by omega) (by omega)
  have hc : cfM I2 = cfM I := cfM_mem (hk 14 (by omega)) (hy 434 (by omega)) (hy 435 (by omega)) (hy 436 (by omega)) (hy 437 (by omega))
  have tB2 := cB_le tB (show N ≤ N + 100000 by omega)
  refine ⟨hT, hR, cH_mem tH (up 424 (by decide) (by decide)) (up 425 (by decide) (by decide)) (up 426 (by decide) (by decide)) (hy 448 (by omega)) (hy 449 (by omega)) (hk 36 (by omega)), cD_mem tD hc (hy 438 (by omega)) lo, hU, cP_mem tP hc (fun k => by rw [mi 67 (by decide) (by decide)]) (hk 22 (by omega)) (hy 440 (by omega)) (fun x x0 x1 => mi x (by omega) (by omega)), cK_mem tK (hk 14 (by omega)) (hk 15 (by omega)) (hy 434 (by omega)) (hy 435 (by omega)) (hy 436 (by omega)) (hy 437 (by omega)) (hy 452 (by omega)) (mi 70 (by decide) (by decide)) (hy 453 (by omega)) (hy 454 (by omega)) (fun x x0 x1 => mi x (by omega) (by omega)), ?_⟩
  unfold cB
  rw [hy 438 (by omega), hy 440 (by omega), hy 454 (by omega)]
  exact ⟨tB2.1, hB, tB2.2.2.1, tB2.2.2.2⟩
theorem cT_0 (h1 : I 1 1 = 0) (h2 : I 427 4 = 0) : cT I := ⟨by omega, by omega, by omega, fun j j0 j1 => by omega⟩
/-- both read THE TEXT as a rule: the class, then the reference from any memory with this text -/
theorem both_read (hQ : QA S 0) (hM : MA S 427) (hT : cT I) : ∃ f A, -81 ≤ f ∧ f ≤ 0 ∧ ev (d + 99) 116 0 [(2, 418), (2, 1), uU, uU] [] S I = some ((0, f), S, A) ∧ (∀ x, (x < 418 ∨ 423 < x) → A x = I x) ∧
    ∀ J : II, J 429 = I 429 → J 427 4 = I 427 4 → ∃ cs K, ev (d + 99) 194 0 [(2, 427), uU, uU] [] S J = some ((0, f), S, K) ∧ (∀ x, x ≠ 427 → x ≠ 431 → K x = J x) ∧ (∀ k, k ≠ 4 → k ≠ 5 → k ≠ 6 → k ≠ 7 → k ≠ 11 → K 427 k = J 427 k) ∧ K 427 4 = 0 ∧ K 427 11 = (cs.length : Int) ∧ SK (K 431) cs ∧ (cs.length : Int) ≤ 40 ∧ (f = 0 → A 418 1 = (cs.length : Int) ∧ SK (A 419) (cs.map tk) ∧ (cs ≠ [] → ∀ u, okR cs u (u + 1))) := by
  obtain ⟨t0, t1, t2, t3⟩ := hT
  obtain ⟨L, hL⟩ : ∃ L : Int, L = if 40 < I 1 1 then 40 else I 1 1 := ⟨_, rfl⟩
  have L0 : 0 ≤ L := by rw [hL]; split <;> omega
  have L40 : L ≤ 40 := by rw [hL]; split <;> omega
  have ht : ∀ j, 0 ≤ j → j < I 1 1 → 0 ≤ I 429 j ∧ I 429 j < 256 := fun j j0 j1 => by have := t3 j j0 j1; rw [this.1]; exact this.2
  have cr := fun (ok p' : Int) (cs : List Int) (x5 : ok = 0 ∨ ok = 1) (x6 : 0 ≤ p') (x7 : p' ≤ L) (x8 : L ≠ 0 → CLm (I 429) L 0 p' 0 0 ok cs) (x9 : L = 0 → ok = 1 ∧ cs = []) => c_read (d := d + 90) (S := S) (I := I) (t := I 429) (TA1 hQ) (UA418 hQ) rfl (fun j j0 j1 => (t3 j j0 j1).1.symm) t0 t1 ht hL x6 x7 x5 x8 x9
  obtain ⟨ok, p', cs, K0, x1, x2, x3, x4, x5, x6, x7, x8, x9, x10, x11, x12, x13⟩ := m_reads (d := d) (S := S) (J := I) hM t2 t0 t1 ht hL
  obtain ⟨A, a1, a2, a3⟩ := cr ok p' cs x5 x6 x7 x8 x9
  have fb := fau_b (n := I 1 1) (L := L) (ok := ok) x6 (by omega : p' ≤ 80)
  refine ⟨_, A, fb.1, fb.2, a1, a3, fun J j1 j2 => ?_⟩
  obtain ⟨ok', p2, cs', K, y1, y2, y3, y4, y5, y6, y7, y8, y9, y10, y11, y12, y13⟩ := m_reads (d := d) (S := S) (J := J) hM (j2.trans t2) t0 t1 (by rw [j1]; exact ht) hL
  rw [j1] at y8
  obtain ⟨B, b1, b2, b3⟩ := cr ok' p2 cs' y5 y6 y7 y8 y9
  rw [a1] at b1
  have ee := Option.some.inj b1
  have e1 : fau (I 1 1) L ok p' = fau (I 1 1) L ok' p2 := by
    have := congrArg (fun z => z.1.2) ee
    exact this
  have e2 : A = B := congrArg (fun z => z.2.2) ee
  refine ⟨cs', K, by rw [e1]; exact y1, y2, y3, y4, y10, y11, by omega, fun hf => ?_⟩
  rw [e1] at hf
  obtain ⟨c1, c2⟩ := b2 hf
  refine ⟨by rw [e2]; exact c1, by rw [e2]; exact c2, fun hc => ?_⟩
  have lz : L ≠ 0 := fun e => hc (y9 e).2
  have ho : ok' = 1 := by
    unfold fau at hf
    split at hf
    · omega
    · split at hf
      · rename_i g; exact g.1
      · omega
  exact y13 ho lz
theorem call_rule (hS : SH S) (h : ST N I) : ∃ r I1 I2, ev (d + 100) 145 0 [(2, 0), uU] [] S I = some ((0, r), S, I1) ∧ ev (d + 100) 193 0 [(2, 427), uU] [] S I1 = some ((0, r), S, I2) ∧ ST (N + 100000) I2 := by
  obtain ⟨hQ, hM⟩ := hS
  obtain ⟨f, A, f0, f1, a1, a2, a3⟩ := both_read (d := d) hQ hM h.1
  have hB := BdN_le h.2.2.2.2.2.2.2.2.1 (show N ≤ N + 100000 by omega)
  have e1 := E145_0 (d := d + 99) (I := I) hQ
  rw [a1] at e1
  simp only [Option.bind_some, psh_i] at e1
  rw [E145_11 hQ, E137_0 (TA1 hQ)] at e1
  simp only [Option.bind_some, psh_u] at e1
  rw [E145_19 hQ, w_small (z := f) (by omega) (by omega), E145_34] at e1
  have ao : ∀ x, (x < 418 ∨ 423 < x) → x ≠ 1 → up2 A 1 1 0 x = I x := fun x hx x1 => by rw [up2_oth x1]; exact a2 x hx
  by_cases g : f = 0
  · rw [if_pos g, E127_0 (UA418 hQ) (UA412 hQ) (Or.inl (by decide))] at e1
    simp only [Option.bind_some, psh_u] at e1
    rw [E145_34] at e1
    generalize hB1 : up2 (cpy (up2 A 1 1 0) (418 + 1) 0 (412 + 1) 0 40) 412 1 (up2 A 1 1 0 418 1) = B at e1
    have bo : ∀ x, x ≠ 412 → x ≠ 413 → B x = up2 A 1 1 0 x := fun x x0 x1 => by
      rw [← hB1, up2_oth x0]
      funext k
      exact cpy_cell (by omega)
    have b1 : B 412 1 = A 418 1 := by rw [← hB1, up2_hit rfl rfl, up2_oth (by decide)]
    have b2 : ∀ j, 0 ≤ j → j < 40 → B 413 j = A 419 j := fun j j0 j1 => by
      rw [← hB1, up2_oth (by decide)]
      show cpy (up2 A 1 1 0) (418 + 1) 0 413 0 40 413 j = A 419 j
      rw [cpy_in ⟨rfl, by omega, by omega⟩, up2_oth (by decide), show (0 : Int) + (j - 0) = j by omega]; rfl
    obtain ⟨cs, K, k1, k2, k3, k4, k5, k6, k7, k8⟩ := a3 (up2 B 427 0 0) (by rw [up2_oth (by decide), bo 429 (by decide) (by decide), ao 429 (by decide) (by decide)]) (by rw [up2_miss (by decide), bo 427 (by decide) (by decide), ao 427 (by decide) (by decide)])
    obtain ⟨g1, g2, g3⟩ := k8 g
    obtain ⟨Z, z1, z2, z3, z4, z5⟩ := m_layD (d := d + 99) (S := S) (J := K) (a1 := 431) (n := K 427 11) hM (MA_k9 hM) (by decide) (by decide) (by omega) (by omega)
    have zo : ∀ x, x ≠ 412 → x ≠ 413 → x ≠ 427 → x ≠ 430 → x ≠ 431 → x ≠ 1 → (x < 418 ∨ 423 < x) → Z x = I x := fun x h1 h2 h3 h4 h5 h6 h7 => by rw [z2 x h4 h3, k2 x h3 h5, up2_oth h3, bo x h1 h2, ao x h7 h6]
    have zk : ∀ k, k ≠ 0 → k ≠ 4 → k ≠ 5 → k ≠ 6 → k ≠ 7 → k ≠ 10 → k ≠ 11 → Z 427 k = I 427 k := fun k h0 h4 h5 h6 h7 h10 h11 => by rw [z3 k h10, k3 k h4 h5 h6 h7 h11, up2_miss (by omega), bo 427 (by decide) (by decide), ao 427 (by decide) (by decide)]
    have z30 : SK (Z 430) cs := SK_ext cs k6 (fun j j0 j1 => by rw [z5 j, if_pos (by omega)])
    have zlen : Z 427 10 = (cs.length : Int) := by rw [z4]; exact k5
    have hU : cU Z := by
      have z412 : Z 412 = B 412 := by rw [z2 412 (by decide) (by decide), k2 412 (by decide) (by decide), up2_oth (by decide)]
      have z413 : Z 413 = B 413 := by rw [z2 413 (by decide) (by decide), k2 413 (by decide) (by decide), up2_oth (by decide)]
      have kf : kfM Z = (Z 430, (cs.length : Int)) := by unfold kfM; rw [zlen]
      refine ⟨by rw [kf]; exact okK_of z30 k7 g3, ?_, fun j j0 j1 => ?_⟩
      · rw [z412, b1, g1, kf]
      · rw [kf] at j1 ⊢
        have j1' : j < (cs.length : Int) := j1
        show Z 413 j = tk (Z 430 j)
        rw [z413, b2 j j0 (by omega)]
        exact SK_tk cs g2 z30 j j0 j1'
    refine ⟨f, B, Z, e1, ?_, ST_mk h (cT_0 ?_ ?_) (cR_mem h.2.1 (zo 3 (by decide) (by decide) (by decide) (by decide) (by decide) (by decide) (by decide)) (zo 4 (by decide) (by decide) (by decide) (by decide) (by decide) (by decide) (by decide)) (zo 428 (by decide) (by decide) (by decide) (by decide) (by decide) (by decide) (by decide)) (zk 1 (by decide) (by decide) (by decide) (by decide) (by decide) (by decide) (by decide))) hU (fun x h1 h2 h3 h4 h5 h6 => zo x (by omega) (by omega) (by omega) (by omega) (by omega) h2 (by omega)) (fun k hk => zk k (by omega) (by omega) (by omega) (by omega) (by omega) (by omega) (by omega)) (fun x hx => zo x (by omega) (by omega) (by omega) (by omega) (by omega) (by omega) (by omega)) ?_⟩
    · rw [E193_0 hM, k1]
      simp only [Option.bind_some, psh_i]
      rw [E193_9 hM, w_small (z := f) (by omega) (by omega), if_pos g, z1]
      simp only [Option.bind_some, psh_u]
      rw [E193_26]
    · rw [z2 1 (by decide) (by decide), k2 1 (by decide) (by decide), up2_oth (by decide), bo 1 (by decide) (by decide), up2_hit rfl rfl]
    · rw [z3 4 (by decide)]; exact k4
    · rw [zo 439 (by decide) (by decide) (by decide) (by decide) (by decide) (by decide) (by decide)]; exact hB
  · rw [if_neg g] at e1
    obtain ⟨cs, K, k1, k2, k3, k4, k5, k6, k7, k8⟩ := a3 (up2 (up2 A 1 1 0) 427 0 0) (by rw [up2_oth (by decide), ao 429 (by decide) (by decide)]) (by rw [up2_miss (by decide), ao 427 (by decide) (by decide)])
    have zo : ∀ x, x ≠ 427 → x ≠ 431 → x ≠ 1 → (x < 418 ∨ 423 < x) → K x = I x := fun x h3 h5 h6 h7 => by rw [k2 x h3 h5, up2_oth h3, ao x h7 h6]
    have zk : ∀ k, k ≠ 0 → k ≠ 4 → k ≠ 5 → k ≠ 6 → k ≠ 7 → k ≠ 11 → K 427 k = I 427 k := fun k h0 h4 h5 h6 h7 h11 => by rw [k3 k h4 h5 h6 h7 h11, up2_miss (by omega), ao 427 (by decide) (by decide)]
    refine ⟨f, _, K, e1, ?_, ST_mk h (cT_0 ?_ k4) (cR_mem h.2.1 (zo 3 (by decide) (by decide) (by decide) (by decide)) (zo 4 (by decide) (by decide) (by decide) (by decide)) (zo 428 (by decide) (by decide) (by decide) (by decide)) (zk 1 (by decide) (by decide) (by decide) (by decide) (by decide) (by decide))) (cU_mem h.2.2.2.2.1 (zo 412 (by decide) (by decide) (by decide) (by decide)) (zo 413 (by decide) (by decide) (by decide) (by decide)) (zo 430 (by decide) (by decide) (by decide) (by decide)) (zk 10 (by decide) (by decide) (by decide) (by decide) (by decide) (by decide))) (fun x h1 h2 h3 h4 h5 h6 => zo x (by omega) (by omega) h2 (by omega)) (fun k hk => zk k (by omega) (by omega) (by omega) (by omega) (by omega) (by omega)) (fun x hx => zo x (by omega) (by omega) (by omega) (by omega)) ?_⟩
    · rw [E193_0 hM, k1]
      simp only [Option.bind_some, psh_i]
      rw [E193_9 hM, w_small (z := f) (by omega) (by omega), if_neg g, E193_26]
    · rw [k2 1 (by decide) (by decide), up2_oth (by decide), up2_hit rfl rfl]
    · rw [zo 439 (by decide) (by decide) (by decide) (by decide)]; exact hB
end ra08
