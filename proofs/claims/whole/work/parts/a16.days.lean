/-! days: all acts -/
def VL (n : Int) (t : Int → Int) : Nat → Int → Prop
  | 0, p => p = n
  | m + 1, p => 0 ≤ p ∧ p < n ∧ actF n t p < 0 ∧ VL n t m (p + aLn (t p))
def RECS (K : II) (t : Int → Int) : Nat → Int → Int → Prop
  | 0, _, _ => True
  | m + 1, k, p => REC K t k p ∧ RECS K t m (k + 1) (p + aLn (t p))
def dyS (Q : KF) (C : CF) (t : Int → Int) : Nat → Int → RW → Int × Bool × RW
  | 0, _, ρ => (0, false, ρ)
  | m + 1, p, ρ => if (actS Q C t p ρ).1 = true then (0, true, (actS Q C t p ρ).2) else ((dyS Q C t m (p + aLn (t p)) (actS Q C t p ρ).2).1 + 1, (dyS Q C t m (p + aLn (t p)) (actS Q C t p ρ).2).2)
section ra16
variable {d : Nat} {S : SS} {I J K G I2 : II} {t u : Int → Int} {L p q r b s c ok v n a k N lo hi x : Int} {C : CF} {Q : KF} {ρ σ : RW} {m : Nat}
theorem actF_congr (h : ∀ j, 0 ≤ j → j < n → u j = t j) (p0 : 0 ≤ p) (p1 : p < n) : actF n u p = actF n t p := by
  have e : ∀ i lm : Int, 0 ≤ i → ((p + i < n ∧ 48 ≤ u (p + i) ∧ u (p + i) ≤ lm) ↔ (p + i < n ∧ 48 ≤ t (p + i) ∧ t (p + i) ≤ lm)) := fun i lm hi => by
    constructor
    · rintro ⟨x, y, z⟩; rw [h _ (by omega) x] at y z; exact ⟨x, y, z⟩
    · rintro ⟨x, y, z⟩; rw [← h _ (by omega) x] at y z; exact ⟨x, y, z⟩
  unfold actF
  simp only [h p p0 p1, e 1 57 (by decide), e 2 57 (by decide), e 3 57 (by decide), e 2 52 (by decide), e 4 57 (by decide), e 5 57 (by decide)]
theorem actS_congr (h : ∀ j, 0 ≤ j → j < n → u j = t j) (p0 : 0 ≤ p) (p1 : p < n) (hF : actF n t p < 0) : actS Q C u p ρ = actS Q C t p ρ := by
  obtain ⟨z0, z1, z2, z3⟩ := actF_dig hF p0
  unfold actS
  rw [h p p0 p1]
  by_cases g0 : aSg (t p) = 0
  · rw [if_pos g0, if_pos g0]
  obtain ⟨d0, _, _⟩ := z1 (by omega)
  rw [if_neg g0, if_neg g0, h (p + 1) (by omega) d0]
  by_cases g1 : aSg (t p) = 1
  · rw [if_pos g1, if_pos g1]
  rw [if_neg g1, if_neg g1]
  by_cases g2 : aSg (t p) = 2
  · rw [if_pos g2, if_pos g2]
  rw [if_neg g2, if_neg g2]
  by_cases g3 : aSg (t p) = 3
  · rw [if_pos g3, if_pos g3]
  rw [if_neg g3, if_neg g3]
  by_cases g4 : aSg (t p) = 4
  · obtain ⟨y2, y3⟩ := z2 g4
    rw [if_pos g4, if_pos g4, h (p + 2) (by omega) y2.1, h (p + 3) (by omega) y3.1]
  · have e : aSg (t p) = 5 := by have := aSg_c (t p); omega
    obtain ⟨y2, y3, y4, y5⟩ := z3 e
    rw [if_neg g4, if_neg g4, h (p + 2) (by omega) y2.1, h (p + 3) (by omega) y3.1, h (p + 4) (by omega) y4.1, h (p + 5) (by omega) y5.1]
theorem REC_congr {K J : II} (h : REC J t k p) (e : ∀ x, 441 ≤ x → x ≤ 445 → K x k = J x k) : REC K t k p := by
  unfold REC at *
  rw [e 441 (by decide) (by decide), e 442 (by decide) (by decide), e 443 (by decide) (by decide), e 444 (by decide) (by decide), e 445 (by decide) (by decide)]
  exact h
theorem RECS_congr {K J : II} : ∀ (m : Nat) (k p : Int), RECS J t m k p → (∀ x, 441 ≤ x → x ≤ 445 → ∀ j, k ≤ j → K x j = J x j) → RECS K t m k p := by
  intro m
  induction m with
  | zero => intro k p _ _; trivial
  | succ m ih =>
    intro k p h e
    exact ⟨REC_congr h.1 (fun x x0 x1 => e x x0 x1 k (Int.le_refl _)), ih (k + 1) _ h.2 (fun x x0 x1 j j0 => e x x0 x1 j (by omega))⟩
theorem dyS_b : ∀ (m : Nat) (p : Int) (ρ : RW), 0 ≤ (dyS Q C t m p ρ).1 ∧ (dyS Q C t m p ρ).1 ≤ m ∧ ((dyS Q C t m p ρ).2.1 = true ↔ (dyS Q C t m p ρ).1 < m) := by
  intro m
  induction m with
  | zero =>
    intro p ρ
    refine ⟨Int.le_refl _, Int.le_refl _, ?_⟩
    show (false = true ↔ (0 : Int) < ((0 : Nat) : Int))
    constructor
    · intro x; exact absurd x (by decide)
    · intro x; exact absurd x (by decide)
  | succ m ih =>
    intro p ρ
    obtain ⟨i0, i1, i2⟩ := ih (p + aLn (t p)) (actS Q C t p ρ).2
    unfold dyS
    by_cases g : (actS Q C t p ρ).1 = true
    · rw [if_pos g]
      refine ⟨Int.le_refl _, by show (0 : Int) ≤ _; omega, ?_⟩
      constructor
      · intro _; show (0 : Int) < _; omega
      · intro _; rfl
    · rw [if_neg g]
      refine ⟨by show 0 ≤ _ + 1; omega, by show _ + 1 ≤ _; omega, ?_⟩
      constructor
      · intro x; have := i2.mp x; show _ + 1 < _; omega
      · intro x; exact i2.mpr (by have x' : (dyS Q C t m (p + aLn (t p)) (actS Q C t p ρ).2).1 + 1 < ((m + 1 : Nat) : Int) := x; omega)
theorem dyS_WF (hk : okC C) : ∀ (m : Nat) (p N : Int) (ρ : RW), VL n t m p → WF C ρ → lftOK 1 ρ → 100 ≤ N → BdN N ρ → N + 1445 * (n - p) < 70000000 → p ≤ n → WF C (dyS Q C t m p ρ).2.2 ∧ lftOK 1 (dyS Q C t m p ρ).2.2 ∧ BdN (N + 1445 * (n - p)) (dyS Q C t m p ρ).2.2 := by
  intro m
  induction m with
  | zero => intro p N ρ hV hw hl hN hB hb hp; exact ⟨hw, hl, BdN_le hB (by omega)⟩
  | succ m ih =>
    intro p N ρ hV hw hl hN hB hb hp
    obtain ⟨v0, v1, v2, v3⟩ := hV
    obtain ⟨w1, w2, w3⟩ := actS_WF (Q := Q) (t := t) (p := p) (n := n) hk hw hl hN hB (by omega) v2 v0
    have al := actF_len v2 v0 v1
    have ab := aLn_b (t p)
    unfold dyS
    by_cases g : (actS Q C t p ρ).1 = true
    · rw [if_pos g]; exact ⟨w1, w2, BdN_le w3 (by omega)⟩
    · rw [if_neg g]
      obtain ⟨i1, i2, i3⟩ := ih (p + aLn (t p)) (N + 1445 * aLn (t p)) _ v3 w1 w2 (by omega) w3 (by omega) (by omega)
      exact ⟨i1, i2, BdN_le i3 (by omega)⟩
/-- both read a day -/
theorem both_day {e : Nat} (hQ : QA S 0) (hM : MA S 427) (i1 : I 1 1 = n) (i2 : ∀ j, 0 ≤ j → j < n → I 2 j = t j) (n0 : 0 ≤ n) (n1 : n ≤ 80) (ht : ∀ j, 0 ≤ j → j < n → 0 ≤ t j ∧ t j < 256) : ∀ (fu : Nat) (p k : Int) (a2 a3 : AV), 0 ≤ p → p ≤ n → 0 ≤ k → k ≤ p → (n - p).toNat ≤ fu →
    ∃ f m, ev (d + 4) 156 2 [(2, 0), (0, p), a2, a3] [] S I = some ((0, f), S, I) ∧ (f = -1 ∨ 0 ≤ f) ∧ f ≤ 80 ∧ (f = -1 → VL n t m p ∧ k + m ≤ n) ∧ ∀ J : II, J 427 5 = p → J 427 6 = n → J 427 32 = k → J 429 = t →
      ∃ K, (∀ x, x ≠ 427 → ¬ (441 ≤ x ∧ x ≤ 445) → K x = J x) ∧ (∀ i, i ≠ 5 → i ≠ 32 → K 427 i = J 427 i) ∧ (∀ x, 441 ≤ x → x ≤ 445 → ∀ j, j < k → K x j = J x j) ∧ (0 ≤ f → ev (e + 9) 267 17 [(2, 427), uU] [] S J = some ((0, -1 - f), S, K)) ∧ (f = -1 → ev (e + 9) 267 17 [(2, 427), uU] [] S J = ev (e + 9) 267 17 [(2, 427), uU] [] S K ∧ K 427 5 = n ∧ K 427 32 = k + m ∧ RECS K t m k p) := by
  have ht2 : ∀ j, 0 ≤ j → j < I 1 1 → 0 ≤ I 2 j ∧ I 2 j < 256 := fun j j0 j1 => by rw [i2 j j0 (by omega)]; exact ht j j0 (by omega)
  intro fu
  induction fu with
  | zero =>
    intro p k a2 a3 p0 p1 k0 k1 hf
    have : p = n := by omega
    subst this
    refine ⟨-1, 0, ?_, Or.inl rfl, by decide, fun _ => ⟨rfl, by omega⟩, fun J j1 j2 j3 j4 => ⟨J, fun _ _ _ => rfl, fun _ _ _ => rfl, fun _ _ _ _ _ => rfl, fun x => absurd x (by decide), fun _ => ⟨rfl, j1, by rw [j3]; omega, trivial⟩⟩⟩
    rw [E156_2 hQ, i1, if_neg (Int.lt_irrefl _)]
  | succ fu ih =>
    intro p k a2 a3 p0 p1 k0 k1 hf
    by_cases gp : p = n
    · subst gp
      refine ⟨-1, 0, ?_, Or.inl rfl, by decide, fun _ => ⟨rfl, by omega⟩, fun J j1 j2 j3 j4 => ⟨J, fun _ _ _ => rfl, fun _ _ _ => rfl, fun _ _ _ _ _ => rfl, fun x => absurd x (by decide), fun _ => ⟨rfl, j1, by rw [j3]; omega, trivial⟩⟩⟩
      rw [E156_2 hQ, i1, if_neg (Int.lt_irrefl _)]
    have pn : p < n := by omega
    have ef : actF (I 1 1) (I 2) p = actF n t p := by rw [i1]; exact actF_congr i2 p0 pn
    have el : I 2 p = t p := i2 p p0 pn
    obtain ⟨b2, b3, ca⟩ := c_act1 (d := d) (a2 := a2) (a3 := a3) hQ (by omega) (by omega) ht2 p0 (by omega)
    rw [ef, el] at ca
    have ab := aLn_b (t p)
    by_cases gf : actF n t p < 0
    · have al := (actF_len gf p0 pn).1
      rw [if_neg (by omega)] at ca
      obtain ⟨f, m, h1, h2, h3, h4, h5⟩ := ih (p + aLn (t p)) (k + 1) b2 b3 (by omega) al (by omega) (by omega) (by omega)
      refine ⟨f, m + 1, by rw [ca, h1], h2, h3, fun x => ⟨⟨p0, pn, gf, (h4 x).1⟩, by have := (h4 x).2; omega⟩, fun J j1 j2 j3 j4 => ?_⟩
      obtain ⟨K, p', m1, m2, m3, m4⟩ := m_act1 (d := e) (S := S) (J := J) hM j1 j2 j3 k0 (by omega) p0 pn n1 j4 ht
      rw [if_pos gf] at m1 m2
      obtain ⟨q1, q2, q3, q4, q5, q6, q7⟩ := m3
      obtain ⟨Z, z1, z2, z3, z4, z5⟩ := h5 K (by rw [q1, m2]) q3 q2 (by rw [q4]; exact j4)
      have st : ev (e + 9) 267 17 [(2, 427), uU] [] S J = ev (e + 9) 267 17 [(2, 427), uU] [] S K := by
        rw [E267_17 hM, j1, j2, w_small (z := p) (by omega) (by omega), w_small (z := n) (by omega) (by omega), if_pos pn, m1]
        simp only [Option.bind_some, psh_i]
        rw [E267_32 hM, if_neg (by decide)]
      refine ⟨Z, fun x x0 x1 => by rw [z1 x x0 x1, q5 x x0 x1], fun i i0 i1 => by rw [z2 i i0 i1, q6 i i0 i1], fun x x0 x1 j j0 => by rw [z3 x x0 x1 j (by omega), q7 x x0 x1 j (by omega)], fun x => by rw [st, z4 x], fun x => ?_⟩
      obtain ⟨y1, y2, y3, y4⟩ := z5 x
      exact ⟨by rw [st, y1], y2, by rw [y3]; omega, REC_congr (m4 gf) (fun x x0 x1 => z3 x x0 x1 k (by omega)), y4⟩
    · rw [if_pos (by omega)] at ca
      have fb : actF n t p ≤ 80 := by
        unfold actF
        repeat' split
        all_goals omega
      refine ⟨actF n t p, 0, ca, Or.inr (by omega), fb, fun x => by omega, fun J j1 j2 j3 j4 => ?_⟩
      obtain ⟨K, p', m1, m2, m3, m4⟩ := m_act1 (d := e) (S := S) (J := J) hM j1 j2 j3 k0 (by omega) p0 pn n1 j4 ht
      rw [if_neg gf] at m1 m2
      obtain ⟨q1, q2, q3, q4, q5, q6, q7⟩ := m3
      refine ⟨K, q5, q6, fun x x0 x1 j j0 => q7 x x0 x1 j (by omega), fun _ => ?_, fun x => by omega⟩
      rw [E267_17 hM, j1, j2, w_small (z := p) (by omega) (by omega), w_small (z := n) (by omega) (by omega), if_pos pn, m1]
      simp only [Option.bind_some, psh_i]
      rw [E267_32 hM, if_pos (by decide), q1, m2]
theorem c_len (hQ : QA S 0) (i1 : I 1 1 ≤ 80) (p0 : 0 ≤ p) (p1 : p < I 1 1) (hs : 0 ≤ aSg (I 2 p)) : ev (d + 4) 159 0 [(2, 0), (0, p), uU] [] S I = some ((0, aLn (I 2 p)), S, I) := by
  have sgc := aSg_c (I 2 p)
  have fin : ∀ a : Int, isT (-10 - a) → ((txt (-10 - a)).length : Int) < 100 → a ≠ -1 → ev (d + 4) 159 11 [(2, 0), (0, p), uU] [(2, a)] S I = some ((0, 1 + ((txt (-10 - a)).length : Int)), S, I) := fun a hT h100 hne => by
    rw [E159_11 (Or.inr hT), if_neg hne, t_len (d := d + 2) hT h100]
    simp only [Option.bind_some, psh_i]
    rw [E159_25, E159_26]
  have st : ev (d + 4) 159 0 [(2, 0), (0, p), uU] [] S I = (ev (d + 3) 157 0 [(0, I 2 p)] [] S I).bind (fun q => ev (d + 4) 159 11 [(2, 0), (0, p), uU] (psh q.1 []) q.2.1 q.2.2) := by
    rw [E159_0 hQ, c_at (TA1 hQ) p0 p1 i1]
    simp only [Option.bind_some, psh_i]
    rw [E159_8]
  rw [st, E157_0]
  rcases sgc with ⟨e, e1, e2⟩ | ⟨e, e1, e2⟩ | ⟨e, e1, e2⟩ | ⟨e, e1, e2⟩ | ⟨e, e1, e2⟩ | ⟨e, e1, e2⟩ | ⟨_, _, _, _, _, _, e1⟩
  · rw [e2, e, if_neg (by decide), if_neg (by decide), if_neg (by decide), if_neg (by decide), if_neg (by decide), if_pos (by decide)]
    simp only [Option.bind_some, psh_r]
    rw [fin (-14) (by decide) (by decide) (by decide)]; rfl
  · rw [e2, e, if_neg (by decide), if_neg (by decide), if_neg (by decide), if_pos (by decide)]
    simp only [Option.bind_some, psh_r]
    rw [fin (-12) (by decide) (by decide) (by decide)]; rfl
  · rw [e2, e, if_neg (by decide), if_neg (by decide), if_neg (by decide), if_neg (by decide), if_pos (by decide)]
    simp only [Option.bind_some, psh_r]
    rw [fin (-12) (by decide) (by decide) (by decide)]; rfl
  · rw [e2, e, if_neg (by decide), if_pos (by decide)]
    simp only [Option.bind_some, psh_r]
    rw [fin (-12) (by decide) (by decide) (by decide)]; rfl
  · rw [e2, e, if_pos (by decide)]
    simp only [Option.bind_some, psh_r]
    rw [fin (-13) (by decide) (by decide) (by decide)]; rfl
  · rw [e2, e, if_neg (by decide), if_neg (by decide), if_pos (by decide)]
    simp only [Option.bind_some, psh_r]
    rw [fin (-11) (by decide) (by decide) (by decide)]; rfl
  · omega
/-- all acts by the class -/
theorem c_dy {a1 : Int} (hQ : QA S 0) (n0 : 0 ≤ n) (n1 : n ≤ 80) (ht : ∀ j, 0 ≤ j → j < n → 0 ≤ t j ∧ t j < 256) (hk : okC C) (hQK : okK Q) : ∀ (m : Nat) (p i dn N : Int) (ρ : RW) (I : II), VL n t m p → I 1 1 = n → (∀ j, 0 ≤ j → j < n → I 2 j = t j) → RuleR I 412 Q → RelD C I 5 ρ → WF C ρ → lftOK 1 ρ → 100 ≤ N → BdN N ρ → N + 1445 * (n - p) < 70000000 → 0 ≤ i → i ≤ p → p ≤ n → 0 ≤ dn → dn ≤ i →
    ∃ J p' i', ev (d + 21) 155 41 [(2, 0), (0, a1), (0, dn), (0, 0), (0, p), (0, i)] [] S I = ev (d + 21) 155 108 [(2, 0), (0, a1), (0, dn + (dyS Q C t m p ρ).1), (0, if (dyS Q C t m p ρ).2.1 = true then 1 else 0), (0, p'), (0, i')] [] S J ∧ RelD C J 5 (dyS Q C t m p ρ).2.2 ∧ ∀ x, ¬ (5 ≤ x ∧ x < 36) → x ≠ 3 → x ≠ 4 → x ≠ 416 → x ≠ 417 → J x = I x := by
  intro m
  induction m with
  | zero =>
    intro p i dn N ρ I hV i1 i2 hRu hR hw hl hN hB hb i0 ip pn d0 d1
    have hp : p = n := hV
    refine ⟨I, p, i, ?_, hR, fun _ _ _ _ _ _ => rfl⟩
    have e1 : dn + (dyS Q C t 0 p ρ).1 = dn := by show dn + 0 = dn; omega
    rw [e1, E155_41 hQ, i1, w_small (z := i) (by omega) (by omega), w_small (z := p) (by omega) (by omega), w_small (z := n) (by omega) (by omega)]
    by_cases g : i < 80
    · rw [if_pos g, if_neg (by omega)]; rfl
    · rw [if_neg g]; rfl
  | succ m ih =>
    intro p i dn N ρ I hV i1 i2 hRu hR hw hl hN hB hb i0 ip pn d0 d1
    obtain ⟨v0, v1, v2, v3⟩ := hV
    have ht2 : ∀ j, 0 ≤ j → j < I 1 1 → 0 ≤ I 2 j ∧ I 2 j < 256 := fun j j0 j1 => by rw [i2 j j0 (by omega)]; exact ht j j0 (by omega)
    have ef : actF (I 1 1) (I 2) p = actF n t p := by rw [i1]; exact actF_congr i2 v0 v1
    have el : I 2 p = t p := i2 p v0 v1
    have al := actF_len v2 v0 v1
    have ab := aLn_b (t p)
    obtain ⟨w1, w2, w3⟩ := actS_WF (Q := Q) (t := t) (p := p) (n := n) hk hw hl hN hB (by omega) v2 v0
    obtain ⟨v, J, j1, j2, j3, j4, j5⟩ := c_actD (d := d) (S := S) (I := I) (p := p) hQ (by omega) (by omega) ht2 v0 (by omega) (by rw [ef]; exact v2) hk hQK hRu hR hw hl hN hB (by omega)
    rw [actS_congr (Q := Q) (C := C) (ρ := ρ) i2 v0 v1 v2] at j3 j4
    have J1 : J 1 = I 1 := j5 1 (by omega) (by decide) (by decide) (by decide) (by decide)
    have J2 : J 2 = I 2 := j5 2 (by omega) (by decide) (by decide) (by decide) (by decide)
    have cl := c_len (d := d + 16) (S := S) (I := J) (p := p) hQ (by rw [J1]; omega) v0 (by rw [J1]; omega) (by rw [J2, el]; exact al.2)
    rw [J2, el] at cl
    have st : ev (d + 21) 155 41 [(2, 0), (0, a1), (0, dn), (0, 0), (0, p), (0, i)] [] S I = (if v < 0 then ev (d + 21) 155 41 [(2, 0), (0, a1), (0, dn + 0), (0, 1), (0, p + aLn (t p)), (0, i + 1)] [] S J else ev (d + 21) 155 41 [(2, 0), (0, a1), (0, dn + 1), (0, 0), (0, p + aLn (t p)), (0, i + 1)] [] S J) := by
      rw [E155_41 hQ, i1, w_small (z := i) (by omega) (by omega), w_small (z := p) (by omega) (by omega), w_small (z := n) (by omega) (by omega), if_pos (by omega), if_pos v1, if_pos (by decide), j1]
      simp only [Option.bind_some, psh_i]
      rw [E155_70, w_small j2.1 j2.2, E155_78, E155_78, if_neg (show ¬ w 1 = 0 by decide), if_pos (show w 0 = 0 by decide), E155_89 hQ, E155_89 hQ, cl]
      simp only [Option.bind_some, psh_i]
      rw [E155_99, E155_99]
    rw [st]
    unfold dyS
    by_cases g : (actS Q C t p ρ).1 = true
    · rw [if_pos (j3.mpr g), if_pos g]
      refine ⟨J, p + aLn (t p), i + 1, ?_, j4, j5⟩
      rw [E155_41 hQ, show w 1 = 1 by decide, if_neg (show ¬ (1 : Int) = 0 by decide)]
      have e : ∀ c1 c2 : Prop, ∀ [Decidable c1] [Decidable c2], ∀ X : RR, (if c1 then (if c2 then X else X) else X) = X := fun c1 c2 _ _ X => by split <;> (try split) <;> rfl
      rw [e]
      rfl
    · rw [if_neg (fun x => g (j3.mp x)), if_neg g]
      obtain ⟨Z, p', i', z1, z2, z3⟩ := ih (p + aLn (t p)) (i + 1) (dn + 1) (N + 1445 * aLn (t p)) (actS Q C t p ρ).2 J v3 (by rw [J1]; exact i1) (by rw [J2]; exact i2) (by unfold RuleR at *; rw [j5 412 (by omega) (by decide) (by decide) (by decide) (by decide), j5 (412 + 1) (by omega) (by decide) (by decide) (by decide) (by decide)]; exact hRu) j4 w1 w2 (by omega) w3 (by omega) (by omega) (by omega) (by omega) (by omega) (by omega)
      refine ⟨Z, p', i', ?_, z2, fun x x0 x1 x2 x3 x4 => by rw [z3 x x0 x1 x2 x3 x4, j5 x x0 x1 x2 x3 x4]⟩
      rw [z1, show dn + 1 + (dyS Q C t m (p + aLn (t p)) (actS Q C t p ρ).2).1 = dn + ((dyS Q C t m (p + aLn (t p)) (actS Q C t p ρ).2).1 + 1) by omega]
/-- all acts by the reference -/
theorem m_dy (hM : MA S 427) (n0 : 0 ≤ n) (n1 : n ≤ 80) (hk : okC C) (hQK : okK Q) : ∀ (m : Nat) (p dn N : Int) (ρ : RW) (J : II), VL n t m p → RECS J t m dn p → J 427 32 = dn + m → cfM J = C → kfM J = Q → J 438 = ρ → WF C ρ → lftOK 1 ρ → 100 ≤ N → BdN N ρ → N + 1445 * (n - p) < 70000000 → p ≤ n → 0 ≤ dn → dn + m ≤ 80 →
    ∃ K, ev (d + 21) 267 48 [(2, 427), (0, dn)] [] S J = ev (d + 21) 267 70 [(2, 427), (0, dn + (dyS Q C t m p ρ).1)] [] S K ∧ K 438 = (dyS Q C t m p ρ).2.2 ∧ (∀ i, i ≠ 24 → i ≠ 25 → i ≠ 26 → K 427 i = J 427 i) ∧ ∀ x, x ≠ 438 → x ≠ 427 → x ≠ 432 → x ≠ 433 → K x = J x := by
  intro m
  induction m with
  | zero =>
    intro p dn N ρ J hV hr j32 jC jK j38 hw hl hN hB hb pn d0 dm
    refine ⟨J, ?_, j38, fun _ _ _ _ => rfl, fun _ _ _ _ _ => rfl⟩
    have e1 : dn + (dyS Q C t 0 p ρ).1 = dn := by show dn + 0 = dn; omega
    rw [e1, E267_48 hM, j32, if_neg (by rw [Int.natCast_zero, Int.add_zero]; exact Int.lt_irrefl _)]
  | succ m ih =>
    intro p dn N ρ J hV hr j32 jC jK j38 hw hl hN hB hb pn d0 dm
    obtain ⟨v0, v1, v2, v3⟩ := hV
    obtain ⟨r1, r2⟩ := hr
    have al := actF_len v2 v0 v1
    have ab := aLn_b (t p)
    obtain ⟨w1, w2, w3⟩ := actS_WF (Q := Q) (t := t) (p := p) (n := n) hk hw hl hN hB (by omega) v2 v0
    obtain ⟨v, K, k1, k2, k3, k4, k5, k6⟩ := m_actD (d := d) (S := S) (J := J) (k := dn) (n := n) hM d0 (by omega) v0 v2 r1 (by rw [jC]; exact hk) (by rw [jK]; exact hQK) j38 (by rw [jC]; exact hw) hl hN hB (by omega)
    rw [jC, jK] at k3 k4
    have st : ev (d + 21) 267 48 [(2, 427), (0, dn)] [] S J = if v < 0 then ev (d + 21) 267 70 [(2, 427), (0, dn)] [] S K else ev (d + 21) 267 48 [(2, 427), (0, dn + 1)] [] S K := by
      rw [E267_48 hM, j32, w_small (z := dn) (by omega) (by omega), w_small (z := dn + ((m + 1 : Nat) : Int)) (by omega) (by omega), if_pos (by omega), k1]
      simp only [Option.bind_some, psh_i]
      rw [E267_61, w_small k2.1 k2.2]
    rw [st]
    unfold dyS
    by_cases g : (actS Q C t p ρ).1 = true
    · rw [if_pos (k3.mpr g), if_pos g]
      exact ⟨K, by rw [Int.add_zero], k4, k5, k6⟩
    · rw [if_neg (fun x => g (k3.mp x)), if_neg g]
      obtain ⟨Z, z1, z2, z3, z4⟩ := ih (p + aLn (t p)) (dn + 1) (N + 1445 * aLn (t p)) (actS Q C t p ρ).2 K v3 (RECS_congr m (dn + 1) _ r2 (fun x x0 x1 j _ => by rw [k6 x (by omega) (by omega) (by omega) (by omega)])) (by rw [k5 32 (by decide) (by decide) (by decide), j32]; omega) ((cfM_mem (k5 14 (by decide) (by decide) (by decide)) (k6 434 (by decide) (by decide) (by decide) (by decide)) (k6 435 (by decide) (by decide) (by decide) (by decide)) (k6 436 (by decide) (by decide) (by decide) (by decide)) (k6 437 (by decide) (by decide) (by decide) (by decide))).trans jC) (by rw [← jK]; unfold kfM; rw [k6 430 (by decide) (by decide) (by decide) (by decide), k5 10 (by decide) (by decide) (by decide)]) k4 w1 w2 (by omega) w3 (by omega) (by omega) (by omega) (by omega)
      refine ⟨Z, ?_, z2, fun i i0 i1 i2 => by rw [z3 i i0 i1 i2, k5 i i0 i1 i2], fun x x0 x1 x2 x3 => by rw [z4 x x0 x1 x2 x3, k6 x x0 x1 x2 x3]⟩
      rw [z1, show dn + 1 + (dyS Q C t m (p + aLn (t p)) (actS Q C t p ρ).2).1 = dn + ((dyS Q C t m (p + aLn (t p)) (actS Q C t p ρ).2).1 + 1) by omega]
end ra16
