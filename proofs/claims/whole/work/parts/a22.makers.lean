/-! what the makers make: new arrays, each put into a field -/
def nf (S : SS) (a f k : Int) (n : Nat) : SS := ((newS S k n).1, (newS S k n).2.1, (newS S k n).2.2.1, up2 (sG (newS S k n)) a f (S.1 : Int))
def nfl (a : Int) : List (Int × Int × Nat) → SS → SS
  | [], S => S
  | x :: l, S => nfl a l (nf S a x.1 x.2.1 x.2.2)
def nfm (a : Int) : List (Int × Int × Nat) → SS → II → II
  | [], _, I => I
  | x :: l, S, I => nfm a l (nf S a x.1 x.2.1 x.2.2) (newI S I)
def SP (P : Int → Prop) (S T : SS) : Prop := S.1 ≤ T.1 ∧ (∀ x, x < (S.1 : Int) → sH T x = sH S x) ∧ ∀ x, x < (S.1 : Int) → P x → sG T x = sG S x
/-- what a chain of new arrays gives -/
def NFL (S T : SS) (a : Int) (l : List (Int × Int × Nat)) : Prop := T.1 = S.1 + l.length ∧ T.2.1 = S.2.1 + (l.map (fun y => y.2.2)).sum ∧ (∀ x, x < (S.1 : Int) → sH T x = sH S x) ∧ (∀ x, x < (S.1 : Int) → x ≠ a → sG T x = sG S x) ∧ (∀ g, (∀ y ∈ l, y.1 ≠ g) → sG T a g = sG S a g) ∧ ∀ (j : Nat) (y : Int × Int × Nat), l[j]? = some y → sG T a y.1 = (S.1 : Int) + j ∧ KA T ((S.1 : Int) + j) y.2.1 y.2.2
section r122
variable {d : Nat} {S T U : SS} {I J : II} {P P' : Int → Prop} {a b f k x g : Int} {n : Nat} {l : List (Int × Int × Nat)}
theorem nf_h : sH (nf S a f k n) x = if x = (S.1 : Int) then (k, (n : Int)) else sH S x := rfl
theorem nf_g : sG (nf S a f k n) x g = if x = a ∧ g = f then (S.1 : Int) else if x = (S.1 : Int) then -1 else sG S x g := rfl
theorem KO_new {k' : Int} (h : KO S a k) : KO (newS S k' n) a k := by
  obtain ⟨h0, h1, h2⟩ := h
  have h1' : a < (S.1 : Int) := h1
  refine ⟨h0, ?_, ?_⟩
  · show a < ((S.1 + 1 : Nat) : Int)
    omega
  · show (if a = (S.1 : Int) then (k', (n : Int)) else sH S a).1 = k
    rw [if_neg (by omega)]; exact h2
theorem KO_nf {k' : Int} (h : KO S a k) : KO (nf S b f k' n) a k := KO_new (n := n) (k' := k') h
theorem nfl_ok : ∀ (l : List (Int × Int × Nat)) (S : SS), 0 ≤ a → a < (S.1 : Int) → (l.map (fun y => y.1)).Nodup → NFL S (nfl a l S) a l := by
  intro l
  induction l with
  | nil =>
    intro S h0 h1 _
    exact ⟨rfl, rfl, fun _ _ => rfl, fun _ _ _ => rfl, fun _ _ => rfl, fun j y h => by simp at h⟩
  | cons y l ih =>
    intro S h0 h1 hn
    rw [List.map_cons, List.nodup_cons] at hn
    obtain ⟨hy, hn⟩ := hn
    have e1 : (nf S a y.1 y.2.1 y.2.2).1 = S.1 + 1 := rfl
    obtain ⟨a1, a2, a3, a4, a5, a6⟩ := ih (nf S a y.1 y.2.1 y.2.2) h0 (by rw [e1]; omega) hn
    rw [e1] at a1 a3 a4 a6
    show NFL S (nfl a l (nf S a y.1 y.2.1 y.2.2)) a (y :: l)
    generalize hT : nfl a l (nf S a y.1 y.2.1 y.2.2) = T at *
    refine ⟨by rw [a1, List.length_cons]; omega, ?_, fun x hx => ?_, fun x hx hxa => ?_, fun g hg => ?_, fun j z hz => ?_⟩
    · rw [a2, List.map_cons, List.sum_cons]
      show S.2.1 + y.2.2 + _ = _
      omega
    · rw [a3 x (by omega), nf_h, if_neg (by omega)]
    · rw [a4 x (by omega) hxa]
      funext g
      rw [nf_g, if_neg (fun h => hxa h.1), if_neg (by omega)]
    · rw [a5 g (fun z hz => hg z (List.mem_cons_of_mem _ hz)), nf_g, if_neg (fun h => hg y List.mem_cons_self h.2.symm), if_neg (by omega)]
    · cases j with
      | zero =>
        simp only [List.getElem?_cons_zero, Option.some.injEq] at hz
        subst hz
        refine ⟨?_, ?_⟩
        · rw [a5 y.1 (fun z hz e => hy (List.mem_map.mpr ⟨z, hz, e⟩)), nf_g, if_pos ⟨rfl, rfl⟩]
          simp
        · have e : sH T ((S.1 : Int) + ((0 : Nat) : Int)) = (y.2.1, (y.2.2 : Int)) := by
            rw [a3 _ (by omega), nf_h, if_pos (by omega)]
          exact ⟨by omega, by show (S.1 : Int) + ((0 : Nat) : Int) < (T.1 : Int); rw [a1]; omega, by rw [e], by rw [e]⟩
      | succ j =>
        rw [List.getElem?_cons_succ] at hz
        have h := a6 j z hz
        have e : (((S.1 + 1 : Nat) : Int) + (j : Int)) = (S.1 : Int) + ((j + 1 : Nat) : Int) := by omega
        rw [e] at h
        exact h
theorem nfm_ok : ∀ (l : List (Int × Int × Nat)) (S : SS) (I : II) (x k : Int), nfm a l S I x k = if (S.1 : Int) ≤ x ∧ x < (S.1 : Int) + l.length then 0 else I x k := by
  intro l
  induction l with
  | nil => intro S I x k; rw [if_neg (by simp only [List.length_nil]; omega)]; rfl
  | cons y l ih =>
    intro S I x k
    have e1 : (nf S a y.1 y.2.1 y.2.2).1 = S.1 + 1 := rfl
    show nfm a l (nf S a y.1 y.2.1 y.2.2) (newI S I) x k = _
    rw [ih, e1]
    have e2 : newI S I x k = if x = (S.1 : Int) then 0 else I x k := rfl
    rw [e2, List.length_cons]
    by_cases c1 : x = (S.1 : Int)
    · rw [if_neg (by omega), if_pos c1, if_pos (by omega)]
    · by_cases c2 : ((S.1 + 1 : Nat) : Int) ≤ x ∧ x < ((S.1 + 1 : Nat) : Int) + l.length
      · rw [if_pos c2, if_pos (by omega)]
      · rw [if_neg c2, if_neg c1, if_neg (by omega)]
/-! what stands goes on to stand, where its own cells are let alone -/
theorem SP_refl : SP P S S := ⟨Nat.le_refl _, fun _ _ => rfl, fun _ _ _ => rfl⟩
theorem SP_trans (h : SP P S T) (g : SP P T U) : SP P S U := ⟨Nat.le_trans h.1 g.1, fun x hx => (g.2.1 x (by have := h.1; omega)).trans (h.2.1 x hx), fun x hx hp => (g.2.2 x (by have := h.1; omega) hp).trans (h.2.2 x hx hp)⟩
theorem SP_sub (h : SP P S T) (hp : ∀ x, x < (S.1 : Int) → P' x → P x) : SP P' S T := ⟨h.1, h.2.1, fun x hx q => h.2.2 x hx (hp x hx q)⟩
theorem SP_new : SP P S (newS S k n) := by
  refine ⟨Nat.le_succ _, fun x hx => ?_, fun x hx _ => ?_⟩
  · show (if x = (S.1 : Int) then (k, (n : Int)) else sH S x) = sH S x
    rw [if_neg (by omega)]
  · funext i
    show (if x = (S.1 : Int) then -1 else sG S x i) = sG S x i
    rw [if_neg (by omega)]
theorem SP_set {v : Int} (h : ∀ x, P x → x ≠ a) : SP P S (S.1, S.2.1, S.2.2.1, up2 (sG S) a f v) :=
  ⟨Nat.le_refl _, fun _ _ => rfl, fun x _ hp => by funext i; show up2 (sG S) a f v x i = _; exact up2_miss (fun e => h x hp e.1)⟩
theorem SP_NFL (h : NFL S T a l) (hp : ∀ x, P x → x ≠ a) : SP P S T := ⟨by rw [h.1]; omega, h.2.2.1, fun x hx q => h.2.2.2.1 x hx (hp x q)⟩
theorem KO_p (h : SP P S T) (g : KO S a k) : KO T a k := by
  obtain ⟨g0, g1, g2⟩ := g
  refine ⟨g0, ?_, by rw [h.2.1 a g1]; exact g2⟩
  have h1 := h.1
  have g1' : a < (S.1 : Int) := g1
  show a < (T.1 : Int)
  omega
theorem KA_p {n : Int} (h : SP P S T) (g : KA S a k n) : KA T a k n := by
  obtain ⟨g0, g1, g2, g3⟩ := g
  refine ⟨g0, ?_, by rw [h.2.1 a g1]; exact g2, by rw [h.2.1 a g1]; exact g3⟩
  have h1 := h.1
  have g1' : a < (S.1 : Int) := g1
  show a < (T.1 : Int)
  omega
theorem PEp {i x n : Int} (h : SP P S T) (hp : P a) (l : a < (S.1 : Int)) (g : sG S a i = x ∧ KA S b k n) : sG T a i = x ∧ KA T b k n := ⟨by rw [h.2.2 a l hp]; exact g.1, KA_p h g.2⟩
theorem PXp {i x : Int} {p q' : Prop} (h : SP P S T) (hp : P a) (l : a < (S.1 : Int)) (e : p → q') (g : sG S a i = x ∧ p) : sG T a i = x ∧ q' := ⟨by rw [h.2.2 a l hp]; exact g.1, e g.2⟩
theorem LA_p (h : SP P S T) (hp : P a) (g : LA S a) : LA T a := by
  obtain ⟨g0, g1, g2, g3⟩ := g
  exact ⟨KO_p h g0, PEp h hp g0.2.1 g1, PEp h hp g0.2.1 g2, PEp h hp g0.2.1 g3⟩
theorem RA_p (h : SP P S T) (hp : P a) (g : RA S a) : RA T a := ⟨KO_p h g.1, PEp h hp g.1.2.1 g.2⟩
theorem TA_p (h : SP P S T) (hp : P a) (g : TA S a) : TA T a := ⟨KO_p h g.1, PEp h hp g.1.2.1 g.2⟩
theorem HA_p (h : SP P S T) (hp : P a) (g : HA S a) : HA T a := ⟨KO_p h g.1, PEp h hp g.1.2.1 g.2.1, PEp h hp g.1.2.1 g.2.2⟩
theorem UA_p (h : SP P S T) (hp : P a) (g : UA S a) : UA T a := by
  obtain ⟨g0, g1, g2, g3, g4, g5⟩ := g
  exact ⟨KO_p h g0, PEp h hp g0.2.1 g1, PEp h hp g0.2.1 g2, PEp h hp g0.2.1 g3, PEp h hp g0.2.1 g4, PEp h hp g0.2.1 g5⟩
theorem DA_p (h : SP P S T) (hp : ∀ x, a ≤ x → x < a + 31 → P x) (g : DA S a) : DA T a := by
  obtain ⟨g0, g1, g2, g3, g4, g5, g6, g7, g8, g9, g10, g11⟩ := g
  have l := g0.2.1
  have p0 := hp a (by omega) (by omega)
  have p1 := hp (a + 1) (by omega) (by omega)
  exact ⟨KO_p h g0, PEp h p0 l g1, fun q q0 q1 => PXp h p1 g1.2.2.1 (LA_p h (hp _ (by omega) (by omega))) (g2 q q0 q1), PEp h p0 l g3, PEp h p0 l g4, PEp h p0 l g5, PEp h p0 l g6, PEp h p0 l g7, PEp h p0 l g8, PEp h p0 l g9, PEp h p0 l g10, PEp h p0 l g11⟩
theorem PA_p (h : SP P S T) (hp : ∀ x, a ≤ x → x < a + 345 → P x) (g : PA S a) : PA T a := by
  obtain ⟨g0, g1, g2, g3, g4, g5⟩ := g
  have l := g0.2.1
  have p0 := hp a (by omega) (by omega)
  have p1 := hp (a + 1) (by omega) (by omega)
  have p2 := hp (a + 2) (by omega) (by omega)
  exact ⟨KO_p h g0, PEp h p0 l g1, fun q q0 q1 => PXp h p1 g1.2.2.1 (DA_p h fun x x0 x1 => hp x (by omega) (by omega)) (g2 q q0 q1), PEp h p0 l g3, fun q q0 q1 => PXp h p2 g3.2.2.1 (DA_p h fun x x0 x1 => hp x (by omega) (by omega)) (g4 q q0 q1), PEp h p0 l g5⟩
theorem NFL_at {y : Int × Int × Nat} {c : Int} (h : NFL S T a l) (j : Nat) (hj : l[j]? = some y) (hc : (S.1 : Int) + j = c) : sG T a y.1 = c ∧ KA T c y.2.1 y.2.2 := hc ▸ h.2.2.2.2.2 j y hj

def F74 : List (Int × Int × Nat) := [(14, 20, 8), (15, 20, 8), (16, 20, 8)]
theorem K74_0 (h : KO S a 3) : ev d 74 0 [(2, a)] [] S I = ev d 74 12 [(2, a)] [] (nf S a 14 20 8) (newI S I) :=
  (E74_0 h.1).trans (E74_9 (S := newS S 20 8) (Int.natCast_nonneg _) (KO_new h))
theorem K74_12 (h : KO S a 3) : ev d 74 12 [(2, a)] [] S I = ev d 74 20 [(2, a)] [] (nf S a 15 20 8) (newI S I) :=
  (E74_12).trans (E74_17 (S := newS S 20 8) (Int.natCast_nonneg _) (KO_new h))
theorem K74_20 (h : KO S a 3) : ev d 74 20 [(2, a)] [] S I = ev d 74 28 [(2, a)] [] (nf S a 16 20 8) (newI S I) :=
  (E74_20).trans (E74_25 (S := newS S 20 8) (Int.natCast_nonneg _) (KO_new h))
theorem K74 (h : KO S a 3) : ev d 74 0 [(2, a)] [] S I = some (uU, nfl a F74 S, nfm a F74 S I) := by
  refine (K74_0 h).trans ?_
  replace h := KO_nf (b := a) (f := 14) (k' := 20) (n := 8) h
  refine (K74_12 h).trans ?_
  replace h := KO_nf (b := a) (f := 15) (k' := 20) (n := 8) h
  refine (K74_20 h).trans ?_
  replace h := KO_nf (b := a) (f := 16) (k' := 20) (n := 8) h
  exact E74_28
def F14 : List (Int × Int × Nat) := [(1, 25, 5), (2, 20, 10), (3, 20, 4), (4, 20, 4), (5, 20, 4), (11, 20, 4), (12, 20, 4), (13, 20, 4), (14, 20, 4), (16, 20, 80)]
theorem K14_0 (h : KO S a 1) : ev d 14 0 [(2, a), uU] [] S I = ev d 14 12 [(2, a), uU] [] (nf S a 1 25 5) (newI S I) :=
  (E14_0 h.1).trans (E14_9 (S := newS S 25 5) (Int.natCast_nonneg _) (KO_new h))
theorem K14_12 (h : KO S a 1) : ev d 14 12 [(2, a), uU] [] S I = ev d 14 20 [(2, a), uU] [] (nf S a 2 20 10) (newI S I) :=
  (E14_12).trans (E14_17 (S := newS S 20 10) (Int.natCast_nonneg _) (KO_new h))
theorem K14_20 (h : KO S a 1) : ev d 14 20 [(2, a), uU] [] S I = ev d 14 27 [(2, a), uU] [] (nf S a 3 20 4) (newI S I) :=
  (E14_20).trans (E14_24 (S := newS S 20 4) (Int.natCast_nonneg _) (KO_new h))
theorem K14_27 (h : KO S a 1) : ev d 14 27 [(2, a), uU] [] S I = ev d 14 34 [(2, a), uU] [] (nf S a 4 20 4) (newI S I) :=
  (E14_27).trans (E14_31 (S := newS S 20 4) (Int.natCast_nonneg _) (KO_new h))
theorem K14_34 (h : KO S a 1) : ev d 14 34 [(2, a), uU] [] S I = ev d 14 41 [(2, a), uU] [] (nf S a 5 20 4) (newI S I) :=
  (E14_34).trans (E14_38 (S := newS S 20 4) (Int.natCast_nonneg _) (KO_new h))
theorem K14_41 (h : KO S a 1) : ev d 14 41 [(2, a), uU] [] S I = ev d 14 48 [(2, a), uU] [] (nf S a 11 20 4) (newI S I) :=
  (E14_41).trans (E14_45 (S := newS S 20 4) (Int.natCast_nonneg _) (KO_new h))
theorem K14_48 (h : KO S a 1) : ev d 14 48 [(2, a), uU] [] S I = ev d 14 55 [(2, a), uU] [] (nf S a 12 20 4) (newI S I) :=
  (E14_48).trans (E14_52 (S := newS S 20 4) (Int.natCast_nonneg _) (KO_new h))
theorem K14_55 (h : KO S a 1) : ev d 14 55 [(2, a), uU] [] S I = ev d 14 62 [(2, a), uU] [] (nf S a 13 20 4) (newI S I) :=
  (E14_55).trans (E14_59 (S := newS S 20 4) (Int.natCast_nonneg _) (KO_new h))
theorem K14_62 (h : KO S a 1) : ev d 14 62 [(2, a), uU] [] S I = ev d 14 69 [(2, a), uU] [] (nf S a 14 20 4) (newI S I) :=
  (E14_62).trans (E14_66 (S := newS S 20 4) (Int.natCast_nonneg _) (KO_new h))
theorem K14_69 (h : KO S a 1) : ev d 14 69 [(2, a), uU] [] S I = ev d 14 77 [(2, a), uU] [] (nf S a 16 20 80) (newI S I) :=
  (E14_69).trans (E14_74 (S := newS S 20 80) (Int.natCast_nonneg _) (KO_new h))
theorem K14 (h : KO S a 1) : ev d 14 0 [(2, a), uU] [] S I = ev d 14 77 [(2, a), uU] [] (nfl a F14 S) (nfm a F14 S I) := by
  refine (K14_0 h).trans ?_
  replace h := KO_nf (b := a) (f := 1) (k' := 25) (n := 5) h
  refine (K14_12 h).trans ?_
  replace h := KO_nf (b := a) (f := 2) (k' := 20) (n := 10) h
  refine (K14_20 h).trans ?_
  replace h := KO_nf (b := a) (f := 3) (k' := 20) (n := 4) h
  refine (K14_27 h).trans ?_
  replace h := KO_nf (b := a) (f := 4) (k' := 20) (n := 4) h
  refine (K14_34 h).trans ?_
  replace h := KO_nf (b := a) (f := 5) (k' := 20) (n := 4) h
  refine (K14_41 h).trans ?_
  replace h := KO_nf (b := a) (f := 11) (k' := 20) (n := 4) h
  refine (K14_48 h).trans ?_
  replace h := KO_nf (b := a) (f := 12) (k' := 20) (n := 4) h
  refine (K14_55 h).trans ?_
  replace h := KO_nf (b := a) (f := 13) (k' := 20) (n := 4) h
  refine (K14_62 h).trans ?_
  replace h := KO_nf (b := a) (f := 14) (k' := 20) (n := 4) h
  refine (K14_69 h).trans ?_
  replace h := KO_nf (b := a) (f := 16) (k' := 20) (n := 80) h
  exact rfl
def F65 : List (Int × Int × Nat) := [(0, 20, 12), (1, 20, 12)]
theorem K65_0 (h : KO S 424 2) : ev d 65 0 [(2, 424)] [] S I = ev d 65 12 [(2, 424)] [] (nf S 424 0 20 12) (newI S I) :=
  (E65_0 h.1).trans (E65_9 (S := newS S 20 12) (Int.natCast_nonneg _) (KO_new h))
theorem K65_12 (h : KO S 424 2) : ev d 65 12 [(2, 424)] [] S I = ev d 65 20 [(2, 424)] [] (nf S 424 1 20 12) (newI S I) :=
  (E65_12).trans (E65_17 (S := newS S 20 12) (Int.natCast_nonneg _) (KO_new h))
theorem K65 (h : KO S 424 2) : ev d 65 0 [(2, 424)] [] S I = some (uU, nfl 424 F65 S, nfm 424 F65 S I) := by
  refine (K65_0 h).trans ?_
  replace h := KO_nf (b := 424) (f := 0) (k' := 20) (n := 12) h
  refine (K65_12 h).trans ?_
  replace h := KO_nf (b := 424) (f := 1) (k' := 20) (n := 12) h
  exact E65_20
def F101 : List (Int × Int × Nat) := [(0, 24, 9), (3, 24, 2), (4, 23, 2)]
theorem K101_0 (h : KO S 67 4) : ev d 101 0 [(2, 67), uU] [] S I = ev d 101 13 [(2, 67), uU] [] (nf S 67 0 24 9) (newI S I) :=
  (E101_0 h.1).trans (E101_10 (S := newS S 24 9) (Int.natCast_nonneg _) (KO_new h))
theorem K101_13 (h : KO S 67 4) : ev d 101 13 [(2, 67), uU] [] S I = ev d 101 21 [(2, 67), uU] [] (nf S 67 3 24 2) (newI S I) :=
  (E101_13).trans (E101_18 (S := newS S 24 2) (Int.natCast_nonneg _) (KO_new h))
theorem K101_21 (h : KO S 67 4) : ev d 101 21 [(2, 67), uU] [] S I = ev d 101 28 [(2, 67), uU] [] (nf S 67 4 23 2) (newI S I) :=
  (E101_21).trans (E101_25 (S := newS S 23 2) (Int.natCast_nonneg _) (KO_new h))
theorem K101 (h : KO S 67 4) : ev d 101 0 [(2, 67), uU] [] S I = ev d 101 28 [(2, 67), uU] [] (nfl 67 F101 S) (nfm 67 F101 S I) := by
  refine (K101_0 h).trans ?_
  replace h := KO_nf (b := 67) (f := 0) (k' := 24) (n := 9) h
  refine (K101_13 h).trans ?_
  replace h := KO_nf (b := 67) (f := 3) (k' := 24) (n := 2) h
  refine (K101_21 h).trans ?_
  replace h := KO_nf (b := 67) (f := 4) (k' := 23) (n := 2) h
  exact rfl
def F108 : List (Int × Int × Nat) := [(0, 21, 12)]
theorem K108_0 (h : KO S 3 5) : ev d 108 0 [(2, 3)] [] S I = ev d 108 12 [(2, 3)] [] (nf S 3 0 21 12) (newI S I) :=
  (E108_0 h.1).trans (E108_9 (S := newS S 21 12) (Int.natCast_nonneg _) (KO_new h))
theorem K108 (h : KO S 3 5) : ev d 108 0 [(2, 3)] [] S I = some (uU, nfl 3 F108 S, nfm 3 F108 S I) := by
  refine (K108_0 h).trans ?_
  replace h := KO_nf (b := 3) (f := 0) (k' := 21) (n := 12) h
  exact E108_12
def F115 : List (Int × Int × Nat) := [(0, 20, 40), (2, 20, 40), (4, 23, 5), (8, 20, 7), (9, 20, 40)]
theorem K115_0 (h : KO S a 6) : ev d 115 0 [(2, a)] [] S I = ev d 115 12 [(2, a)] [] (nf S a 0 20 40) (newI S I) :=
  (E115_0 h.1).trans (E115_9 (S := newS S 20 40) (Int.natCast_nonneg _) (KO_new h))
theorem K115_12 (h : KO S a 6) : ev d 115 12 [(2, a)] [] S I = ev d 115 20 [(2, a)] [] (nf S a 2 20 40) (newI S I) :=
  (E115_12).trans (E115_17 (S := newS S 20 40) (Int.natCast_nonneg _) (KO_new h))
theorem K115_20 (h : KO S a 6) : ev d 115 20 [(2, a)] [] S I = ev d 115 27 [(2, a)] [] (nf S a 4 23 5) (newI S I) :=
  (E115_20).trans (E115_24 (S := newS S 23 5) (Int.natCast_nonneg _) (KO_new h))
theorem K115_27 (h : KO S a 6) : ev d 115 27 [(2, a)] [] S I = ev d 115 35 [(2, a)] [] (nf S a 8 20 7) (newI S I) :=
  (E115_27).trans (E115_32 (S := newS S 20 7) (Int.natCast_nonneg _) (KO_new h))
theorem K115_35 (h : KO S a 6) : ev d 115 35 [(2, a)] [] S I = ev d 115 43 [(2, a)] [] (nf S a 9 20 40) (newI S I) :=
  (E115_35).trans (E115_40 (S := newS S 20 40) (Int.natCast_nonneg _) (KO_new h))
theorem K115 (h : KO S a 6) : ev d 115 0 [(2, a)] [] S I = some (uU, nfl a F115 S, nfm a F115 S I) := by
  refine (K115_0 h).trans ?_
  replace h := KO_nf (b := a) (f := 0) (k' := 20) (n := 40) h
  refine (K115_12 h).trans ?_
  replace h := KO_nf (b := a) (f := 2) (k' := 20) (n := 40) h
  refine (K115_20 h).trans ?_
  replace h := KO_nf (b := a) (f := 4) (k' := 23) (n := 5) h
  refine (K115_27 h).trans ?_
  replace h := KO_nf (b := a) (f := 8) (k' := 20) (n := 7) h
  refine (K115_35 h).trans ?_
  replace h := KO_nf (b := a) (f := 9) (k' := 20) (n := 40) h
  exact E115_43
def F132 : List (Int × Int × Nat) := [(0, 22, 80)]
theorem K132_0 (h : KO S 1 7) : ev d 132 0 [(2, 1)] [] S I = ev d 132 12 [(2, 1)] [] (nf S 1 0 22 80) (newI S I) :=
  (E132_0 h.1).trans (E132_9 (S := newS S 22 80) (Int.natCast_nonneg _) (KO_new h))
theorem K132 (h : KO S 1 7) : ev d 132 0 [(2, 1)] [] S I = some (uU, nfl 1 F132 S, nfm 1 F132 S I) := by
  refine (K132_0 h).trans ?_
  replace h := KO_nf (b := 1) (f := 0) (k' := 22) (n := 80) h
  exact E132_12
def F206 : List (Int × Int × Nat) := [(2, 21, 24), (3, 20, 80), (8, 20, 80), (9, 20, 80), (12, 20, 80), (13, 20, 7), (16, 20, 5), (17, 20, 5), (18, 20, 5), (19, 20, 5), (20, 20, 844), (21, 20, 844), (23, 20, 7596), (27, 20, 80), (28, 20, 80), (29, 20, 80), (30, 20, 80), (31, 20, 80), (33, 20, 4), (34, 20, 5), (37, 20, 12), (38, 20, 12), (39, 20, 41), (40, 20, 80), (42, 23, 2), (43, 20, 2), (44, 20, 1688)]
theorem K206_0 (h : KO S 427 9) : ev d 206 0 [(2, 427), uU] [] S I = ev d 206 12 [(2, 427), uU] [] (nf S 427 2 21 24) (newI S I) :=
  (E206_0 h.1).trans (E206_9 (S := newS S 21 24) (Int.natCast_nonneg _) (KO_new h))
theorem K206_12 (h : KO S 427 9) : ev d 206 12 [(2, 427), uU] [] S I = ev d 206 20 [(2, 427), uU] [] (nf S 427 3 20 80) (newI S I) :=
  (E206_12).trans (E206_17 (S := newS S 20 80) (Int.natCast_nonneg _) (KO_new h))
theorem K206_20 (h : KO S 427 9) : ev d 206 20 [(2, 427), uU] [] S I = ev d 206 28 [(2, 427), uU] [] (nf S 427 8 20 80) (newI S I) :=
  (E206_20).trans (E206_25 (S := newS S 20 80) (Int.natCast_nonneg _) (KO_new h))
theorem K206_28 (h : KO S 427 9) : ev d 206 28 [(2, 427), uU] [] S I = ev d 206 36 [(2, 427), uU] [] (nf S 427 9 20 80) (newI S I) :=
  (E206_28).trans (E206_33 (S := newS S 20 80) (Int.natCast_nonneg _) (KO_new h))
theorem K206_36 (h : KO S 427 9) : ev d 206 36 [(2, 427), uU] [] S I = ev d 206 44 [(2, 427), uU] [] (nf S 427 12 20 80) (newI S I) :=
  (E206_36).trans (E206_41 (S := newS S 20 80) (Int.natCast_nonneg _) (KO_new h))
theorem K206_44 (h : KO S 427 9) : ev d 206 44 [(2, 427), uU] [] S I = ev d 206 52 [(2, 427), uU] [] (nf S 427 13 20 7) (newI S I) :=
  (E206_44).trans (E206_49 (S := newS S 20 7) (Int.natCast_nonneg _) (KO_new h))
theorem K206_52 (h : KO S 427 9) : ev d 206 52 [(2, 427), uU] [] S I = ev d 206 59 [(2, 427), uU] [] (nf S 427 16 20 5) (newI S I) :=
  (E206_52).trans (E206_56 (S := newS S 20 5) (Int.natCast_nonneg _) (KO_new h))
theorem K206_59 (h : KO S 427 9) : ev d 206 59 [(2, 427), uU] [] S I = ev d 206 66 [(2, 427), uU] [] (nf S 427 17 20 5) (newI S I) :=
  (E206_59).trans (E206_63 (S := newS S 20 5) (Int.natCast_nonneg _) (KO_new h))
theorem K206_66 (h : KO S 427 9) : ev d 206 66 [(2, 427), uU] [] S I = ev d 206 73 [(2, 427), uU] [] (nf S 427 18 20 5) (newI S I) :=
  (E206_66).trans (E206_70 (S := newS S 20 5) (Int.natCast_nonneg _) (KO_new h))
theorem K206_73 (h : KO S 427 9) : ev d 206 73 [(2, 427), uU] [] S I = ev d 206 80 [(2, 427), uU] [] (nf S 427 19 20 5) (newI S I) :=
  (E206_73).trans (E206_77 (S := newS S 20 5) (Int.natCast_nonneg _) (KO_new h))
theorem K206_80 (h : KO S 427 9) : ev d 206 80 [(2, 427), uU] [] S I = ev d 206 89 [(2, 427), uU] [] (nf S 427 20 20 844) (newI S I) :=
  (E206_80).trans (E206_86 (S := newS S 20 844) (Int.natCast_nonneg _) (KO_new h))
theorem K206_89 (h : KO S 427 9) : ev d 206 89 [(2, 427), uU] [] S I = ev d 206 98 [(2, 427), uU] [] (nf S 427 21 20 844) (newI S I) :=
  (E206_89).trans (E206_95 (S := newS S 20 844) (Int.natCast_nonneg _) (KO_new h))
theorem K206_98 (h : KO S 427 9) : ev d 206 98 [(2, 427), uU] [] S I = ev d 206 107 [(2, 427), uU] [] (nf S 427 23 20 7596) (newI S I) :=
  (E206_98).trans (E206_104 (S := newS S 20 7596) (Int.natCast_nonneg _) (KO_new h))
theorem K206_107 (h : KO S 427 9) : ev d 206 107 [(2, 427), uU] [] S I = ev d 206 115 [(2, 427), uU] [] (nf S 427 27 20 80) (newI S I) :=
  (E206_107).trans (E206_112 (S := newS S 20 80) (Int.natCast_nonneg _) (KO_new h))
theorem K206_115 (h : KO S 427 9) : ev d 206 115 [(2, 427), uU] [] S I = ev d 206 123 [(2, 427), uU] [] (nf S 427 28 20 80) (newI S I) :=
  (E206_115).trans (E206_120 (S := newS S 20 80) (Int.natCast_nonneg _) (KO_new h))
theorem K206_123 (h : KO S 427 9) : ev d 206 123 [(2, 427), uU] [] S I = ev d 206 131 [(2, 427), uU] [] (nf S 427 29 20 80) (newI S I) :=
  (E206_123).trans (E206_128 (S := newS S 20 80) (Int.natCast_nonneg _) (KO_new h))
theorem K206_131 (h : KO S 427 9) : ev d 206 131 [(2, 427), uU] [] S I = ev d 206 139 [(2, 427), uU] [] (nf S 427 30 20 80) (newI S I) :=
  (E206_131).trans (E206_136 (S := newS S 20 80) (Int.natCast_nonneg _) (KO_new h))
theorem K206_139 (h : KO S 427 9) : ev d 206 139 [(2, 427), uU] [] S I = ev d 206 147 [(2, 427), uU] [] (nf S 427 31 20 80) (newI S I) :=
  (E206_139).trans (E206_144 (S := newS S 20 80) (Int.natCast_nonneg _) (KO_new h))
theorem K206_147 (h : KO S 427 9) : ev d 206 147 [(2, 427), uU] [] S I = ev d 206 154 [(2, 427), uU] [] (nf S 427 33 20 4) (newI S I) :=
  (E206_147).trans (E206_151 (S := newS S 20 4) (Int.natCast_nonneg _) (KO_new h))
theorem K206_154 (h : KO S 427 9) : ev d 206 154 [(2, 427), uU] [] S I = ev d 206 161 [(2, 427), uU] [] (nf S 427 34 20 5) (newI S I) :=
  (E206_154).trans (E206_158 (S := newS S 20 5) (Int.natCast_nonneg _) (KO_new h))
theorem K206_161 (h : KO S 427 9) : ev d 206 161 [(2, 427), uU] [] S I = ev d 206 169 [(2, 427), uU] [] (nf S 427 37 20 12) (newI S I) :=
  (E206_161).trans (E206_166 (S := newS S 20 12) (Int.natCast_nonneg _) (KO_new h))
theorem K206_169 (h : KO S 427 9) : ev d 206 169 [(2, 427), uU] [] S I = ev d 206 177 [(2, 427), uU] [] (nf S 427 38 20 12) (newI S I) :=
  (E206_169).trans (E206_174 (S := newS S 20 12) (Int.natCast_nonneg _) (KO_new h))
theorem K206_177 (h : KO S 427 9) : ev d 206 177 [(2, 427), uU] [] S I = ev d 206 185 [(2, 427), uU] [] (nf S 427 39 20 41) (newI S I) :=
  (E206_177).trans (E206_182 (S := newS S 20 41) (Int.natCast_nonneg _) (KO_new h))
theorem K206_185 (h : KO S 427 9) : ev d 206 185 [(2, 427), uU] [] S I = ev d 206 193 [(2, 427), uU] [] (nf S 427 40 20 80) (newI S I) :=
  (E206_185).trans (E206_190 (S := newS S 20 80) (Int.natCast_nonneg _) (KO_new h))
theorem K206_193 (h : KO S 427 9) : ev d 206 193 [(2, 427), uU] [] S I = ev d 206 200 [(2, 427), uU] [] (nf S 427 42 23 2) (newI S I) :=
  (E206_193).trans (E206_197 (S := newS S 23 2) (Int.natCast_nonneg _) (KO_new h))
theorem K206_200 (h : KO S 427 9) : ev d 206 200 [(2, 427), uU] [] S I = ev d 206 207 [(2, 427), uU] [] (nf S 427 43 20 2) (newI S I) :=
  (E206_200).trans (E206_204 (S := newS S 20 2) (Int.natCast_nonneg _) (KO_new h))
theorem K206_207 (h : KO S 427 9) : ev d 206 207 [(2, 427), uU] [] S I = ev d 206 216 [(2, 427), uU] [] (nf S 427 44 20 1688) (newI S I) :=
  (E206_207).trans (E206_213 (S := newS S 20 1688) (Int.natCast_nonneg _) (KO_new h))
theorem K206 (h : KO S 427 9) : ev d 206 0 [(2, 427), uU] [] S I = ev d 206 216 [(2, 427), uU] [] (nfl 427 F206 S) (nfm 427 F206 S I) := by
  refine (K206_0 h).trans ?_
  replace h := KO_nf (b := 427) (f := 2) (k' := 21) (n := 24) h
  refine (K206_12 h).trans ?_
  replace h := KO_nf (b := 427) (f := 3) (k' := 20) (n := 80) h
  refine (K206_20 h).trans ?_
  replace h := KO_nf (b := 427) (f := 8) (k' := 20) (n := 80) h
  refine (K206_28 h).trans ?_
  replace h := KO_nf (b := 427) (f := 9) (k' := 20) (n := 80) h
  refine (K206_36 h).trans ?_
  replace h := KO_nf (b := 427) (f := 12) (k' := 20) (n := 80) h
  refine (K206_44 h).trans ?_
  replace h := KO_nf (b := 427) (f := 13) (k' := 20) (n := 7) h
  refine (K206_52 h).trans ?_
  replace h := KO_nf (b := 427) (f := 16) (k' := 20) (n := 5) h
  refine (K206_59 h).trans ?_
  replace h := KO_nf (b := 427) (f := 17) (k' := 20) (n := 5) h
  refine (K206_66 h).trans ?_
  replace h := KO_nf (b := 427) (f := 18) (k' := 20) (n := 5) h
  refine (K206_73 h).trans ?_
  replace h := KO_nf (b := 427) (f := 19) (k' := 20) (n := 5) h
  refine (K206_80 h).trans ?_
  replace h := KO_nf (b := 427) (f := 20) (k' := 20) (n := 844) h
  refine (K206_89 h).trans ?_
  replace h := KO_nf (b := 427) (f := 21) (k' := 20) (n := 844) h
  refine (K206_98 h).trans ?_
  replace h := KO_nf (b := 427) (f := 23) (k' := 20) (n := 7596) h
  refine (K206_107 h).trans ?_
  replace h := KO_nf (b := 427) (f := 27) (k' := 20) (n := 80) h
  refine (K206_115 h).trans ?_
  replace h := KO_nf (b := 427) (f := 28) (k' := 20) (n := 80) h
  refine (K206_123 h).trans ?_
  replace h := KO_nf (b := 427) (f := 29) (k' := 20) (n := 80) h
  refine (K206_131 h).trans ?_
  replace h := KO_nf (b := 427) (f := 30) (k' := 20) (n := 80) h
  refine (K206_139 h).trans ?_
  replace h := KO_nf (b := 427) (f := 31) (k' := 20) (n := 80) h
  refine (K206_147 h).trans ?_
  replace h := KO_nf (b := 427) (f := 33) (k' := 20) (n := 4) h
  refine (K206_154 h).trans ?_
  replace h := KO_nf (b := 427) (f := 34) (k' := 20) (n := 5) h
  refine (K206_161 h).trans ?_
  replace h := KO_nf (b := 427) (f := 37) (k' := 20) (n := 12) h
  refine (K206_169 h).trans ?_
  replace h := KO_nf (b := 427) (f := 38) (k' := 20) (n := 12) h
  refine (K206_177 h).trans ?_
  replace h := KO_nf (b := 427) (f := 39) (k' := 20) (n := 41) h
  refine (K206_185 h).trans ?_
  replace h := KO_nf (b := 427) (f := 40) (k' := 20) (n := 80) h
  refine (K206_193 h).trans ?_
  replace h := KO_nf (b := 427) (f := 42) (k' := 23) (n := 2) h
  refine (K206_200 h).trans ?_
  replace h := KO_nf (b := 427) (f := 43) (k' := 20) (n := 2) h
  refine (K206_207 h).trans ?_
  replace h := KO_nf (b := 427) (f := 44) (k' := 20) (n := 1688) h
  exact rfl
end r122
