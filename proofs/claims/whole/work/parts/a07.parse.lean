/-! the reference reads a rule, and the class's reader with it -/
def PQr (I J : II) (L p b : Int) (c0 : List Int) : Prop := RF I J ∧ J 427 5 = p ∧ J 427 7 = b ∧ J 427 11 = (c0.length : Int) ∧ SK (J 431) c0 ∧ 0 ≤ p ∧ p ≤ L ∧ 0 ≤ b ∧ b ≤ 4 ∧ (c0.length : Int) ≤ p
def PRr (S : SS) (I : II) (t : Int → Int) (L p b r : Int) (c0 : List Int) (X : Option (AV × SS × II)) : Prop := ∃ ok p' cs K, X = some ((0, ok), S, K) ∧ RF I K ∧ K 427 5 = p' ∧ K 427 11 = ((cs ++ c0).length : Int) ∧ SK (K 431) (cs ++ c0) ∧ (ok = 0 ∨ ok = 1) ∧ p ≤ p' ∧ p' ≤ L ∧ (cs.length : Int) ≤ p' - p ∧ (ok = 1 → K 427 7 = b ∧ ∀ u, okR cs u (u + 1)) ∧ CLm t L p p' r b ok cs
def cT_ (S : SS) (I : II) (t : Int → Int) (L : Int) (n : Nat) : Prop := ∀ (p b : Int) (c0 : List Int) (J : II), PQr I J L p b c0 → L - p + 4 * (4 - b) + 8 ≤ (n : Int) → PRr S I t L p b 3 c0 (ev n 197 0 [(2, 427), uU] [] S J)
def cR_ (S : SS) (I : II) (t : Int → Int) (L : Int) (n : Nat) : Prop := ∀ (r p b : Int) (c0 : List Int) (J : II), 0 ≤ r → r ≤ 3 → PQr I J L p b c0 → L - p + 4 * (4 - b) + 12 - r ≤ (n : Int) → PRr S I t L p b r c0 (ev n 196 0 [(2, 427), (0, r), uU, uU] [] S J)
section ra07
variable {d m : Nat} {S : SS} {I J K G : II} {t : Int → Int} {L p p' q r b s c ok u v n a k : Int} {cs c0 : List Int}
theorem CL_congr {q' : Int} {cs' : List Int} (h : CLm t L p q r b ok cs) (e1 : q = q') (e2 : cs = cs') : CLm t L p q' r b ok cs' := by subst e1; subst e2; exact h
theorem parT (hM : MA S 427) (e6 : I 427 6 = L) (et : I 429 = t) (L0 : 0 ≤ L) (L1 : L ≤ 40) (ht : ∀ j, 0 ≤ j → j < L → 0 ≤ t j ∧ t j < 256) (ihT : cT_ S I t L (m + 7)) (ihR : cR_ S I t L (m + 7)) : cT_ S I t L (m + 8) := by
  intro p b c0 J hq hn
  obtain ⟨q1, q2, q3, q4, q5, q6, q7, q8, q9, q10⟩ := hq
  have hb : ∀ j, p < j → j < L → t j < 256 := fun j j0 j1 => (ht j (by omega) j1).2
  have jt : J 429 = t := by rw [q1.1 429 (by decide) (by decide)]; exact et
  have j6 : J 427 6 = L := by rw [q1.2 6 (by decide) (by decide) (by decide)]; exact e6
  have ht' : ∀ j, 0 ≤ j → j < L → 0 ≤ J 429 j ∧ J 429 j < 256 := by rw [jt]; exact ht
  have s45 := m_sgn (d := m + 6) (S := S) (c := 45) hM q2 j6 q6 q7 (by omega) (by decide) (by decide) ht'
  rw [jt] at s45
  rw [show m + 8 = (m + 7) + 1 from rfl, E197_0 hM, s45]
  by_cases g45 : p < L ∧ t p = 45
  · rw [if_pos g45]
    simp only [Option.bind_some, psh_i]
    rw [E197_6 hM, if_neg (by decide)]
    obtain ⟨ok, p', cs, K, x1, x2, x3, x4, x5, x6, x7, x8, x9, x10, x11⟩ := ihT (p + 1) b c0 (up2 J 427 5 (p + 1)) ⟨RF_up q1 (Or.inl rfl), up2_hit rfl rfl, by rw [up2_miss (by decide)]; exact q3, by rw [up2_miss (by decide)]; exact q4, by rw [up2_oth (by decide)]; exact q5, by omega, by omega, q8, q9, by omega⟩ (by omega)
    have ll : ((cs ++ c0).length : Int) = (cs.length : Int) + (c0.length : Int) := by rw [List.length_append]; omega
    rw [x1]
    simp only [Option.bind_some, psh_i]
    rw [E197_13 hM, m_cd hM x4 (by omega)]
    simp only [Option.bind_some, psh_u]
    rw [E197_21 x6]
    refine ⟨ok, p', 3000 :: cs, _, rfl, RF_cd x2, by rw [up2_miss (by decide), up2_oth (by decide)]; exact x3, by rw [up2_hit rfl rfl, List.cons_append, List.length_cons]; omega, SK_cd x5, x6, by omega, x8, by rw [List.length_cons]; omega, fun ho => ⟨by rw [up2_miss (by decide), up2_oth (by decide)]; exact (x10 ho).1, fun u => ⟨u + 1, (x10 ho).2 u, ?_⟩⟩, CL_minus g45.2 x11⟩
    rw [if_pos rfl]
    exact ⟨by omega, rfl⟩
  rw [if_neg g45]
  simp only [Option.bind_some, psh_i]
  have dg := m_dg (d := m + 6) (S := S) hM q2 j6 q6 q7 (by omega) ht'
  rw [jt] at dg
  rw [E197_6 hM, if_pos (by decide), dg]
  simp only [Option.bind_some, psh_i]
  rw [E197_27 hM]
  by_cases gd : p < L ∧ 48 ≤ t p ∧ t p ≤ 57
  · obtain ⟨v, k, K, x1, x2, x3, x4, x5, x6, x7, x8, x9⟩ := m_num3 (d := m + 5) (S := S) (b := b) hM q2 j6 q6 (by omega) jt ht gd
    have k11 : K 427 11 = (c0.length : Int) := by rw [x4 11 (by decide)]; exact q4
    rw [if_pos gd, if_neg (by decide), x1]
    simp only [Option.bind_some, psh_i]
    rw [E197_36 hM, m_cd hM k11 (by omega)]
    simp only [Option.bind_some, psh_u]
    rw [E197_39]
    refine ⟨1, p + k, [v], _, rfl, RF_cd ⟨fun x h1 h2 => by rw [x3 x h1]; exact q1.1 x h1 h2, fun j h1 h2 h3 => by rw [x4 j h1]; exact q1.2 j h1 h2 h3⟩, by rw [up2_miss (by decide), up2_oth (by decide)]; exact x2, by rw [up2_hit rfl rfl, List.cons_append, List.length_cons]; exact rfl, SK_cd (by rw [x3 431 (by decide)]; exact q5), Or.inr rfl, by omega, x6, by show (1 : Int) ≤ _; omega, fun _ => ⟨by rw [up2_miss (by decide), up2_oth (by decide), x4 7 (by decide)]; exact q3, fun u => ⟨u, rfl, ?_⟩⟩, x9⟩
    rw [if_neg (by omega), if_pos (by omega)]
    exact ⟨by omega, by omega, rfl⟩
  rw [if_neg gd, if_pos (by decide)]
  have fo := m_of' (d := m + 3) (S := S) (a := -10) (l := txt 0) hM q2 j6 q6 q7 (by omega) ht' (by decide) rfl (by decide) (by decide)
  rw [jt, show ix (txt 0) (t p) (txt 0).length 0 = ltr (t p) from rfl] at fo
  rw [fo]
  by_cases gl : p < L ∧ 0 ≤ ltr (t p)
  · have lb := ltr_b (t p)
    have k11 : up2 J 427 5 (p + 1) 427 11 = (c0.length : Int) := by rw [up2_miss (by decide)]; exact q4
    rw [if_pos gl]
    simp only [Option.bind_some, psh_i]
    rw [E197_47 hM, w_small (z := ltr (t p)) (by omega) (by omega), if_neg (by omega), m_cd hM k11 (by omega)]
    simp only [Option.bind_some, psh_u]
    rw [E197_61]
    refine ⟨1, p + 1, [1000 + ltr (t p)], _, rfl, RF_cd (RF_up q1 (Or.inl rfl)), by rw [up2_miss (by decide), up2_oth (by decide)]; exact up2_hit rfl rfl, by rw [up2_hit rfl rfl, List.cons_append, List.length_cons]; exact rfl, SK_cd (by rw [up2_oth (by decide)]; exact q5), Or.inr rfl, by omega, by omega, by show (1 : Int) ≤ _; omega, fun _ => ⟨by rw [up2_miss (by decide), up2_oth (by decide), up2_miss (by decide)]; exact q3, fun u => ⟨u, rfl, ?_⟩⟩, CL_ltr gl.2 hb⟩
    rw [if_neg (by omega), if_pos (by omega)]
    exact ⟨by omega, by omega, rfl⟩
  rw [if_neg gl]
  simp only [Option.bind_some, psh_i]
  rw [E197_47 hM, if_pos (by decide), q3, w_small (z := b) (by omega) (by omega), E197_80]
  have stop : (p < L → t p = 40 → 4 ≤ b) → PRr S I t L p b 3 c0 (some ((0, 0), S, J)) := fun h4 => ⟨0, p, [], J, rfl, q1, q2, q4, q5, Or.inl rfl, Int.le_refl _, q7, by show (0 : Int) ≤ _; omega, fun x => absurd x (by decide), CL_none (fun x y => gd ⟨x, y⟩) (fun x y => g45 ⟨x, y⟩) (fun x => by
    by_cases y : ltr (t p) < 0
    · exact y
    · exact absurd ⟨x, by omega⟩ gl) h4⟩
  by_cases gb : b = 4
  · rw [if_pos gb]
    exact stop (fun _ _ => by omega)
  have s40 := m_sgn (d := m + 6) (S := S) (c := 40) hM q2 j6 q6 q7 (by omega) (by decide) (by decide) ht'
  rw [jt] at s40
  rw [if_neg gb, s40]
  by_cases g40 : p < L ∧ t p = 40
  · rw [if_pos g40]
    simp only [Option.bind_some, psh_i]
    have k7 : up2 J 427 5 (p + 1) 427 7 = b := by rw [up2_miss (by decide)]; exact q3
    rw [E197_77 hM, if_neg (by decide), k7]
    obtain ⟨ok, p', cs, K, x1, x2, x3, x4, x5, x6, x7, x8, x9, x10, x11⟩ := ihR 0 (p + 1) (b + 1) c0 (up2 (up2 J 427 5 (p + 1)) 427 7 (b + 1)) (by decide) (by decide) ⟨RF_up (RF_up q1 (Or.inl rfl)) (Or.inr (Or.inl rfl)), by rw [up2_miss (by decide)]; exact up2_hit rfl rfl, up2_hit rfl rfl, by rw [up2_miss (by decide), up2_miss (by decide)]; exact q4, by rw [up2_oth (by decide), up2_oth (by decide)]; exact q5, by omega, by omega, by omega, by omega, by omega⟩ (by omega)
    rw [x1]
    simp only [Option.bind_some, psh_i]
    rw [E197_97 hM, w_small (z := ok) (by omega) (by omega), E197_109]
    have hb' : ∀ j, p' ≤ j → j < L → t j < 256 := fun j j0 j1 => (ht j (by omega) j1).2
    by_cases go : ok = 0
    · rw [if_pos go]
      exact ⟨0, p', cs, K, rfl, x2, x3, x4, x5, Or.inl rfl, by omega, x8, by omega, fun x => absurd x (by decide), CL_par0 g40.2 (by omega) go x11⟩
    have go1 : ok = 1 := by omega
    have kt : K 429 = t := by rw [x2.1 429 (by decide) (by decide)]; exact et
    have k6 : K 427 6 = L := by rw [x2.2 6 (by decide) (by decide) (by decide)]; exact e6
    have s41 := m_sgn (d := m + 6) (S := S) (c := 41) hM x3 k6 (by omega) x8 (by omega) (by decide) (by decide) (by rw [kt]; exact ht)
    rw [kt] at s41
    rw [if_neg go, s41]
    by_cases g41 : p' < L ∧ t p' = 41
    · rw [if_pos g41]
      simp only [Option.bind_some, psh_i]
      have kb : up2 K 427 5 (p' + 1) 427 7 = b + 1 := by rw [up2_miss (by decide)]; exact (x10 go1).1
      rw [E197_106 hM, if_neg (by decide), kb, show b + 1 - 1 = b by omega]
      exact ⟨1, p' + 1, cs, _, rfl, RF_up (RF_up x2 (Or.inl rfl)) (Or.inr (Or.inl rfl)), by rw [up2_miss (by decide)]; exact up2_hit rfl rfl, by rw [up2_miss (by decide), up2_miss (by decide)]; exact x4, by rw [up2_oth (by decide), up2_oth (by decide)]; exact x5, Or.inr rfl, by omega, by omega, by omega, fun _ => ⟨up2_hit rfl rfl, (x10 go1).2⟩, CL_par2 g40.2 hb' q8 (by omega) go1 x11 g41.2⟩
    · rw [if_neg g41]
      simp only [Option.bind_some, psh_i]
      rw [E197_106 hM, if_pos (by decide), E197_109]
      exact ⟨0, p', cs, K, rfl, x2, x3, x4, x5, Or.inl rfl, by omega, x8, by omega, fun x => absurd x (by decide), CL_par1 g40.2 hb' q8 (by omega) go1 x11 g41⟩
  · rw [if_neg g40]
    simp only [Option.bind_some, psh_i]
    rw [E197_77 hM, if_pos (by decide), E197_80]
    exact stop (fun x y => absurd ⟨x, y⟩ g40)
/-- signs of a rank: their text, and what becomes of them -/
def opT (r : Int) : Int := if r = 0 then 7 else if r = 1 then 8 else 9
def opB (r : Int) : Int := if r = 0 then 0 else if r = 1 then 3 else 5
theorem op_ix (r0 : 0 ≤ r) (r1 : r < 3) (c1 : c < 256) : (0 ≤ ix (txt (opT r)) c (txt (opT r)).length 0 → stg c = r + 1 ∧ ix (txt (opT r)) c (txt (opT r)).length 0 ≤ 2 ∧ tk (2000 + ix (txt (opT r)) c (txt (opT r)).length 0 + opB r) = 2000 + c ∧ 2000 + ix (txt (opT r)) c (txt (opT r)).length 0 + opB r < 2007) ∧ (stg c = r + 1 → 0 ≤ ix (txt (opT r)) c (txt (opT r)).length 0) := by
  have sb := stg_b c
  rcases (by omega : r = 0 ∨ r = 1 ∨ r = 2) with rfl | rfl | rfl
  · rw [show ix (txt (opT 0)) c (txt (opT 0)).length 0 = ix (txt 7) c 3 0 from rfl, ops7]
    refine ⟨fun h => ?_, fun h => ?_⟩
    · split at h
      · rename_i e; subst e; rw [if_pos rfl]; decide
      · rename_i e0
        split at h
        · rename_i e; subst e; rw [if_neg e0, if_pos rfl]; decide
        · rename_i e1
          split at h
          · rename_i e; subst e; rw [if_neg e0, if_neg e1, if_pos rfl]; decide
          · exact absurd h (by decide)
    · have := sb.2.2.2 (by omega) c1
      unfold stg at h
      repeat' split
      all_goals first | omega | (repeat' split at h) <;> omega
  · rw [show ix (txt (opT 1)) c (txt (opT 1)).length 0 = ix (txt 8) c 2 0 from rfl, ops8]
    refine ⟨fun h => ?_, fun h => ?_⟩
    · split at h
      · rename_i e; subst e; rw [if_pos rfl]; decide
      · rename_i e0
        split at h
        · rename_i e; subst e; rw [if_neg e0, if_pos rfl]; decide
        · exact absurd h (by decide)
    · have := sb.2.2.2 (by omega) c1
      unfold stg at h
      repeat' split
      all_goals first | omega | (repeat' split at h) <;> omega
  · rw [show ix (txt (opT 2)) c (txt (opT 2)).length 0 = ix (txt 9) c 2 0 from rfl, ops9]
    refine ⟨fun h => ?_, fun h => ?_⟩
    · split at h
      · rename_i e; subst e; rw [if_pos rfl]; decide
      · rename_i e0
        split at h
        · rename_i e; subst e; rw [if_neg e0, if_pos rfl]; decide
        · exact absurd h (by decide)
    · have := sb.2.2.2 (by omega) c1
      unfold stg at h
      repeat' split
      all_goals first | omega | (repeat' split at h) <;> omega
/-- the loop over signs of a rank -/
theorem parL (hM : MA S 427) (e6 : I 427 6 = L) (et : I 429 = t) (L0 : 0 ≤ L) (L1 : L ≤ 40) (ht : ∀ j, 0 ≤ j → j < L → 0 ≤ t j ∧ t j < 256) (ihR : cR_ S I t L (m + 7)) (r0 : 0 ≤ r) (r1 : r < 3) (p0 : 0 ≤ p) (b0 : 0 ≤ b) (b4 : b ≤ 4) (hc0 : (c0.length : Int) ≤ p) : ∀ (n : Nat) (p1 f : Int) (cs : List Int) (J : II) (a3 : AV), RF I J → J 427 5 = p1 → J 427 7 = b → J 427 11 = ((cs ++ c0).length : Int) → SK (J 431) (cs ++ c0) → p ≤ p1 → p1 ≤ L → (L - p1).toNat ≤ n → (cs.length : Int) ≤ p1 - p → (∀ u, okR cs u (u + 1)) → (f = 1 ∨ f = 0 ∧ r = 0) → LOP t L p p1 r b f cs → L - p1 + 4 * (4 - b) + 12 - (r + 1) ≤ (m : Int) + 7 →
    PRr S I t L p b r c0 (ev (m + 8) 196 24 [(2, 427), (0, r), (0, f), a3] [] S J) := by
  intro n
  induction n with
  | zero =>
    intro p1 f cs J a3 q1 q2 q3 q4 q5 q6 q7 hn q8 q9 q10 q11 hm
    have jt : J 429 = t := by rw [q1.1 429 (by decide) (by decide)]; exact et
    have j6 : J 427 6 = L := by rw [q1.2 6 (by decide) (by decide) (by decide)]; exact e6
    rw [E196_24, w_small (z := f) (by omega) (by omega), w_small (z := r) (by omega) (by omega)]
    by_cases gf : f = 0
    · rw [if_pos gf]
      exact ⟨1, p1, cs, J, rfl, q1, q2, q4, q5, Or.inr rfl, q6, q7, q8, fun _ => ⟨q3, q9⟩, LOP_end0 (by omega) (by omega) q11⟩
    · have fo := fun (T : Int) (hT : isT (-10 - (-10 - T))) (hs : ∀ x ∈ txt (-10 - (-10 - T)), x < 128) (h100 : ((txt (-10 - (-10 - T))).length : Int) < 100) => m_of' (d := m + 3) (S := S) (a := -10 - T) (l := txt (-10 - (-10 - T))) hM q2 j6 (by omega) q7 (by omega) (by rw [jt]; exact ht) hT rfl hs h100
      have fin : PRr S I t L p b r c0 (some ((0, 1), S, J)) := ⟨1, p1, cs, J, rfl, q1, q2, q4, q5, Or.inr rfl, q6, q7, q8, fun _ => ⟨q3, q9⟩, LOP_end r0 r1 q11 (fun x => by omega)⟩
      have gn : ∀ l : List Nat, ¬ (p1 < L ∧ 0 ≤ ix l (J 429 p1) l.length 0) := fun l x => by omega
      have f7 := fo 7 (by decide) (by decide) (by decide)
      have f8 := fo 8 (by decide) (by decide) (by decide)
      have f9 := fo 9 (by decide) (by decide) (by decide)
      rw [if_neg (gn _)] at f7 f8 f9
      rw [show (-10 : Int) - 7 = -17 from rfl] at f7
      rw [show (-10 : Int) - 8 = -18 from rfl] at f8
      rw [show (-10 : Int) - 9 = -19 from rfl] at f9
      have go : ∀ a1 : Int, ev (m + 7) 203 0 [(2, 427), (2, a1), uU] [] S J = some ((0, -1), S, J) → PRr S I t L p b r c0 (ev (m + 7 + 1) 196 50 [(2, 427), (0, r), (0, f), a3] [(2, a1), (2, 427)] S J) := fun a1 hh => by
        rw [E196_50 hM, hh]
        simp only [Option.bind_some, psh_i]
        rw [E196_53 hM, if_pos (by decide)]
        exact fin
      rw [if_neg gf, show m + 8 = (m + 7) + 1 from rfl]
      split
      · exact go _ f7
      · split
        · exact go _ f8
        · exact go _ f9
  | succ n ih =>
    intro p1 f cs J a3 q1 q2 q3 q4 q5 q6 q7 hn q8 q9 q10 q11 hm
    have jt : J 429 = t := by rw [q1.1 429 (by decide) (by decide)]; exact et
    have j6 : J 427 6 = L := by rw [q1.2 6 (by decide) (by decide) (by decide)]; exact e6
    rw [E196_24, w_small (z := f) (by omega) (by omega), w_small (z := r) (by omega) (by omega)]
    by_cases gf : f = 0
    · rw [if_pos gf]
      exact ⟨1, p1, cs, J, rfl, q1, q2, q4, q5, Or.inr rfl, q6, q7, q8, fun _ => ⟨q3, q9⟩, LOP_end0 (by omega) (by omega) q11⟩
    have gf1 : f = 1 := by omega
    have l24 : ∀ a3 : AV, ev (m + 7 + 1) 196 24 [(2, 427), (0, r), (0, f), a3] [] S J = ev (m + 7 + 1) 196 50 [(2, 427), (0, r), (0, f), a3] [(2, -10 - opT r), (2, 427)] S J := by
      intro a3
      rw [E196_24, w_small (z := f) (by omega) (by omega), w_small (z := r) (by omega) (by omega), if_neg gf]
      unfold opT
      by_cases g0 : r = 0
      · rw [if_pos g0, if_pos g0]
        rfl
      · rw [if_neg g0, if_neg g0]
        by_cases g1 : r = 1
        · rw [if_pos g1, if_pos g1]; rfl
        · rw [if_neg g1, if_neg g1]; rfl
    have oT : isT (-10 - (-10 - opT r)) ∧ (∀ x ∈ txt (-10 - (-10 - opT r)), x < 128) ∧ ((txt (-10 - (-10 - opT r))).length : Int) < 100 ∧ -10 - (-10 - opT r) = opT r := by
      rcases (by omega : r = 0 ∨ r = 1 ∨ r = 2) with rfl | rfl | rfl <;> decide
    have fo := m_of' (d := m + 3) (S := S) (a := -10 - opT r) (l := txt (opT r)) hM q2 j6 (by omega) q7 (by omega) (by rw [jt]; exact ht) oT.1 (by rw [oT.2.2.2]) (by have := oT.2.1; rw [oT.2.2.2] at this; exact this) (by have := oT.2.2.1; rw [oT.2.2.2] at this; exact this)
    rw [jt] at fo
    have l24' := l24 a3
    rw [E196_24, w_small (z := f) (by omega) (by omega), w_small (z := r) (by omega) (by omega)] at l24'
    rw [show m + 8 = (m + 7) + 1 from rfl, l24', E196_50 hM, fo]
    by_cases go : p1 < L ∧ 0 ≤ ix (txt (opT r)) (t p1) (txt (opT r)).length 0
    · obtain ⟨t0, t1⟩ := ht p1 (by omega) go.1
      obtain ⟨o1, o2, o3, o4⟩ := (op_ix (c := t p1) r0 r1 t1).1 go.2
      rw [if_pos go]
      generalize hk : ix (txt (opT r)) (t p1) (txt (opT r)).length 0 = k at *
      simp only [Option.bind_some, psh_i]
      rw [E196_53 hM, w_small (z := k) (by omega) (by omega), if_neg (by omega)]
      have lc : ((cs ++ c0).length : Int) = (cs.length : Int) + (c0.length : Int) := by rw [List.length_append]; omega
      obtain ⟨ok, p', cs2, K, x1, x2, x3, x4, x5, x6, x7, x8, x9, x10, x11⟩ := ihR (r + 1) (p1 + 1) b (cs ++ c0) (up2 J 427 5 (p1 + 1)) (by omega) (by omega) ⟨RF_up q1 (Or.inl rfl), up2_hit rfl rfl, by rw [up2_miss (by decide)]; exact q3, by rw [up2_miss (by decide)]; exact q4, by rw [up2_oth (by decide)]; exact q5, by omega, by omega, b0, b4, by omega⟩ (by omega)
      have lp := LOP_op (a := 2000 + k + opB r) r0 r1 (by rw [gf1] at q11; exact q11) o1 t1 x11 o3
      have l2 : ((cs2 ++ (cs ++ c0)).length : Int) = (cs2.length : Int) + ((cs.length : Int) + (c0.length : Int)) := by rw [List.length_append, List.length_append]; omega
      rw [x1]
      simp only [Option.bind_some, psh_i]
      rw [E196_67, w_small (z := ok) (by omega) (by omega), w_small (z := r) (by omega) (by omega)]
      by_cases gk : ok = 0
      · rw [if_pos gk]
        exact ⟨0, p', cs2 ++ cs, K, rfl, x2, x3, by rw [List.append_assoc]; exact x4, by rw [List.append_assoc]; exact x5, Or.inl rfl, by omega, x8, by rw [List.length_append]; omega, fun x => absurd x (by decide), lp.1 gk _⟩
      have gk1 : ok = 1 := by omega
      have e67 : (if r = 0 then ev (m + 7 + 1) 196 96 [(2, 427), (0, r), (0, f), (0, k)] [(0, 0), (0, 2000 + k), (2, 427)] S K else (if r = 1 then ev (m + 7 + 1) 196 96 [(2, 427), (0, r), (0, f), (0, k)] [(0, 3), (0, 2000 + k), (2, 427)] S K else ev (m + 7 + 1) 196 96 [(2, 427), (0, r), (0, f), (0, k)] [(0, 5), (0, 2000 + k), (2, 427)] S K)) = ev (m + 7 + 1) 196 96 [(2, 427), (0, r), (0, f), (0, k)] [(0, opB r), (0, 2000 + k), (2, 427)] S K := by
        unfold opB
        by_cases g0 : r = 0
        · rw [if_pos g0, if_pos g0]
        · rw [if_neg g0, if_neg g0]
          by_cases g1 : r = 1
          · rw [if_pos g1, if_pos g1]
          · rw [if_neg g1, if_neg g1]
      rw [if_neg gk, e67, E196_96 hM, m_cd hM x4 (by omega)]
      simp only [Option.bind_some, psh_u]
      rw [E196_100, w_small (z := r) (by omega) (by omega), E196_109, E196_109]
      have e100 : ∀ G : II, (if 0 < r then ev (m + 7 + 1) 196 24 [(2, 427), (0, r), (0, 1), (0, k)] [] S G else ev (m + 7 + 1) 196 24 [(2, 427), (0, r), (0, 0), (0, k)] [] S G) = ev (m + 8) 196 24 [(2, 427), (0, r), (0, if 0 < r then 1 else 0), (0, k)] [] S G := by
        intro G
        by_cases g0 : 0 < r
        · rw [if_pos g0, if_pos g0]
        · rw [if_neg g0, if_neg g0]
      rw [e100]
      have ee : ((2000 + k + opB r) :: (cs2 ++ cs)) ++ c0 = (2000 + k + opB r) :: (cs2 ++ (cs ++ c0)) := by rw [List.cons_append, List.append_assoc]
      refine ih p' (if 0 < r then 1 else 0) ((2000 + k + opB r) :: (cs2 ++ cs)) _ (0, k) (RF_cd x2) (by rw [up2_miss (by decide), up2_oth (by decide)]; exact x3) (by rw [up2_miss (by decide), up2_oth (by decide)]; exact (x10 gk1).1) (by rw [up2_hit rfl rfl, ee, List.length_cons]; omega) (by rw [ee]; exact SK_cd x5) (by omega) x8 (by omega) (by rw [List.length_cons, List.length_append]; omega) (fun u => ⟨u + 1 + 1, (okR_app cs2 cs u (u + 1 + 1)).mpr ⟨u + 1, q9 u, (x10 gk1).2 (u + 1)⟩, ?_⟩) ?_ (lp.2 gk1) (by omega)
      · have ob : 0 ≤ opB r := by unfold opB; split <;> (try split) <;> decide
        rw [if_neg (by omega), if_neg (by omega)]
        exact ⟨o4, by omega, by omega⟩
      · by_cases g0 : 0 < r
        · rw [if_pos g0]; exact Or.inl rfl
        · rw [if_neg g0]; exact Or.inr ⟨rfl, by omega⟩
    · rw [if_neg go]
      simp only [Option.bind_some, psh_i]
      rw [E196_53 hM, if_pos (by decide)]
      exact ⟨1, p1, cs, J, rfl, q1, q2, q4, q5, Or.inr rfl, q6, q7, q8, fun _ => ⟨q3, q9⟩, LOP_end r0 r1 q11 (fun x y => go ⟨x, (op_ix r0 r1 (ht p1 (by omega) x).2).2 y⟩)⟩
theorem parR (hM : MA S 427) (e6 : I 427 6 = L) (et : I 429 = t) (L0 : 0 ≤ L) (L1 : L ≤ 40) (ht : ∀ j, 0 ≤ j → j < L → 0 ≤ t j ∧ t j < 256) (ihT : cT_ S I t L (m + 7)) (ihR : cR_ S I t L (m + 7)) : cR_ S I t L (m + 8) := by
  intro r p b c0 J r0 r3 hq hn
  have hq' := hq
  obtain ⟨q1, q2, q3, q4, q5, q6, q7, q8, q9, q10⟩ := hq
  rw [show m + 8 = (m + 7) + 1 from rfl, E196_0 hM, w_small (z := r) (by omega) (by omega)]
  by_cases g3 : r = 3
  · obtain ⟨ok, p', cs, K, x1, x2, x3, x4, x5, x6, x7⟩ := ihT p b c0 J hq' (by omega)
    rw [if_pos g3, x1]
    simp only [Option.bind_some, psh_i]
    rw [E196_9 x6, g3]
    exact ⟨ok, p', cs, K, rfl, x2, x3, x4, x5, x6, x7⟩
  · obtain ⟨ok, p', cs, K, x1, x2, x3, x4, x5, x6, x7, x8, x9, x10, x11⟩ := ihR (r + 1) p b c0 J (by omega) (by omega) hq' (by omega)
    rw [if_neg g3, x1]
    simp only [Option.bind_some, psh_i]
    rw [E196_17, w_small (z := ok) (by omega) (by omega)]
    by_cases go : ok = 0
    · rw [if_pos go]
      exact ⟨0, p', cs, K, rfl, x2, x3, x4, x5, Or.inl rfl, x7, x8, x9, fun x => absurd x (by decide), CL_up r0 (by omega) go x11⟩
    · have go1 : ok = 1 := by omega
      rw [if_neg go]
      exact parL hM e6 et L0 L1 ht ihR r0 (by omega) q6 q8 q9 q10 (L - p').toNat p' 1 cs K uU x2 x3 (x10 go1).1 x4 x5 x7 x8 (Nat.le_refl _) x9 (x10 go1).2 (Or.inl rfl) (LOP_start r0 (by omega) go1 x11) (by omega)
theorem parse_all (hM : MA S 427) (e6 : I 427 6 = L) (et : I 429 = t) (L0 : 0 ≤ L) (L1 : L ≤ 40) (ht : ∀ j, 0 ≤ j → j < L → 0 ≤ t j ∧ t j < 256) : ∀ m : Nat, cT_ S I t L (m + 7) ∧ cR_ S I t L (m + 7) := by
  intro m
  induction m with
  | zero =>
    constructor
    · intro p b c0 J hq hn
      obtain ⟨q1, q2, q3, q4, q5, q6, q7, q8, q9, q10⟩ := hq
      omega
    · intro r p b c0 J r0 r3 hq hn
      obtain ⟨q1, q2, q3, q4, q5, q6, q7, q8, q9, q10⟩ := hq
      omega
  | succ m ih =>
    exact ⟨parT hM e6 et L0 L1 ht ih.1 ih.2, parR hM e6 et L0 L1 ht ih.1 ih.2⟩
end ra07
