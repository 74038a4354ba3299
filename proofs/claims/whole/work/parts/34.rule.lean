/-! how a rule is worked out, on both sides -/
def wrk (a x y : Int) : Int := if a = 0 then (if w x < w y then 1 else 0) else if a = 1 then (if w y < w x then 1 else 0) else if a = 2 then (if w x = w y then 1 else 0) else if a = 3 then x + y else if a = 4 then x - y else if a = 5 then x * y else if w y = 0 then 0 else iDiv x y
def evL (code asked : RW) : Nat → Int → List Int → Int
  | 0, _, l => l.headD 0
  | n + 1, k, l => if code k = 3000 then evL code asked n (k + 1) ((-(l.headD 0)) :: l.tail)
    else if code k < 2000 then evL code asked n (k + 1) ((if code k < 1000 then code k else asked (code k - 1000)) :: l)
    else evL code asked n (k + 1) (wrk (code k - 2000) (l.tail.headD 0) (l.headD 0) :: l.tail.tail)
/-- a code that can be worked out from here on, so many things on the stack -/
def okE (code : RW) : Nat → Int → Nat → Prop
  | 0, _, t => t = 1
  | n + 1, k, t => if code k = 3000 then 1 ≤ t ∧ okE code n (k + 1) t
    else if code k < 2000 then 0 ≤ code k ∧ code k < 1007 ∧ t < 40 ∧ okE code n (k + 1) (t + 1)
    else code k < 2007 ∧ 2 ≤ t ∧ okE code n (k + 1) (t - 1)
def SK (st : RW) : List Int → Prop
  | [] => True
  | x :: r => st (r.length : Int) = x ∧ SK st r
theorem SK_upd {st : RW} {j v : Int} : ∀ {l : List Int}, (l.length : Int) ≤ j → SK st l → SK (updR st j v) l := by
  intro l; induction l with
  | nil => intro _ _; trivial
  | cons x r ih =>
    intro h hs
    simp only [List.length_cons] at h
    refine ⟨?_, ih (by omega) hs.2⟩
    rw [updR_miss (by omega)]; exact hs.1
def tk (c : Int) : Int := if c = 3000 then 2256 else if c < 2000 then c else if c = 2000 then 2060 else if c = 2001 then 2062 else if c = 2002 then 2061 else if c = 2003 then 2043 else if c = 2004 then 2045 else if c = 2005 then 2042 else 2047
def clampS (v : Int) : Int := if w v < 1 then 1 else if 9 < w v then 9 else w v
def timeS (code : RW) (len : Int) (asked : RW) : Int := clampS (if len = 0 then (if 0 < asked 0 then 2 else 1) else evL code asked len.toNat 0 [])
section r34
variable {d : Nat} {S : SS} {I : II}
theorem m_worked {a x y : Int} (h0 : 0 ≤ a) (h1 : a < 7) : ev (d + 1) 253 0 [(0, a), (0, x), (0, y)] [] S I = some ((0, wrk a x y), S, I) := by
  have f0 : ∀ {dd : Nat}, ev dd 199 0 [(0, 0)] [] S I = some ((0, 0), S, I) := m_flag (Or.inl rfl)
  have f1 : ∀ {dd : Nat}, ev dd 199 0 [(0, 1)] [] S I = some ((0, 1), S, I) := m_flag (Or.inr rfl)
  rw [E253_0, w_small (z := a) (by omega) (by omega), wrk]
  rcases (by omega : a = 0 ∨ a = 1 ∨ a = 2 ∨ a = 3 ∨ a = 4 ∨ a = 5 ∨ a = 6) with rfl | rfl | rfl | rfl | rfl | rfl | rfl
  · by_cases h : w x < w y <;> simp [h, E253_50, E253_53, f0, f1, psh_i]
  · by_cases h : w y < w x <;> simp [h, E253_64, E253_67, f0, f1, psh_i]
  · by_cases h : w x = w y <;> simp [h, E253_78, E253_81, f0, f1, psh_i]
  · simp
  · simp
  · simp
  · by_cases h : w y = 0 <;> simp [h, E253_105, gdR]
theorem m_ev (hM : MA S 427) : ∀ (n : Nat) (k : Int) (l : List Int) (I : II) (x : AV), okE (I 430) n k l.length → SK (I 432) l → 0 ≤ k → (n : Int) = I 427 10 - k → 1 ≤ I 427 10 → I 427 10 ≤ 40 → (l.length : Int) ≤ 40 →
    ∃ J, ev (d + 2) 252 4 [(2, 427), (0, (l.length : Int)), (0, k), x] [] S I = some ((0, evL (I 430) (I 433) n k l), S, J) ∧ ∀ a, a ≠ 432 → J a = I a := by
  intro n
  induction n with
  | zero =>
    intro k l I x hok hsk hk hn h1 h2 hl
    refine ⟨I, ?_, fun _ _ => rfl⟩
    have hl1 : l.length = 1 := hok
    obtain ⟨v, rfl⟩ : ∃ v, l = [v] := List.length_eq_one_iff.mp hl1
    rw [E252_4 hM, w_small (z := k) (by omega) (by omega), w_small (z := I 427 10) (by omega) (by omega), if_neg (by omega), if_neg (by omega), E252_160]
    have := hsk.1
    simp only [List.length_nil, Int.natCast_zero] at this
    rw [evL, List.headD_cons, this]
  | succ n ih =>
    intro k l I x hok hsk hk hn h1 h2 hl
    rw [okE] at hok
    rw [E252_4 hM, w_small (z := k) (by omega) (by omega), w_small (z := I 427 10) (by omega) (by omega), if_pos (by omega), gdR_pos (by omega), evL]
    have e430 : ∀ j v : Int, up2 I 432 j v 430 = I 430 := fun j v => up2_oth (by decide)
    have e433 : ∀ j v : Int, up2 I 432 j v 433 = I 433 := fun j v => up2_oth (by decide)
    have e427 : ∀ j v : Int, up2 I 432 j v 427 = I 427 := fun j v => up2_oth (by decide)
    by_cases c1 : I 430 k = 3000
    · rw [if_pos c1] at hok
      match l, hok, hsk, hl with
      | y :: r, hok, hsk, hl =>
        have hy : I 432 (r.length : Int) = y := hsk.1
        have e : ((y :: r).length : Int) - 1 = (r.length : Int) := by simp
        simp only [List.length_cons, Int.natCast_add] at hl
        rw [c1, w_small (z := 3000) (by decide) (by decide), if_pos rfl, if_pos rfl, e, w_small (z := (r.length : Int)) (by omega) (by omega), gdR_pos (by omega), gdR_pos (by omega), E252_119, hy]
        obtain ⟨J, hJ, hF⟩ := ih (k + 1) ((-y) :: r) (up2 I 432 (r.length : Int) (-y)) (0, 3000) (by rw [e430]; exact hok.2) (by rw [up2_row]; exact ⟨updR_hit rfl, SK_upd (Int.le_refl _) hsk.2⟩) (by omega) (by rw [e427]; omega) (by rw [e427]; exact h1) (by rw [e427]; exact h2) (by simp only [List.length_cons, Int.natCast_add]; omega)
        rw [e430, e433] at hJ
        exact ⟨J, hJ, fun a ha => (hF a ha).trans (up2_oth ha)⟩
    · rw [if_neg c1] at hok
      by_cases c2 : I 430 k < 2000
      · rw [if_pos c2] at hok
        obtain ⟨q0, q1, q2, q3⟩ := hok
        rw [w_small (z := I 430 k) (by omega) (by omega), if_neg c1, if_pos c2, if_neg c1, if_pos c2, E252_115 (show KA S 432 20 80 from MA_k12 hM), w_small (z := (l.length : Int)) (by omega) (by omega), gdR_pos (by omega), E252_119]
        have go : ∀ v : Int, ∃ J, ev (d + 2) 252 4 [(2, 427), (0, (l.length : Int) + 1), (0, k + 1), (0, I 430 k)] [] S (up2 I 432 (l.length : Int) v) = some ((0, evL (I 430) (I 433) n (k + 1) (v :: l)), S, J) ∧ ∀ a, a ≠ 432 → J a = I a := by
          intro v
          obtain ⟨J, hJ, hF⟩ := ih (k + 1) (v :: l) (up2 I 432 (l.length : Int) v) (0, I 430 k) (by rw [e430]; exact q3) (by rw [up2_row]; exact ⟨updR_hit rfl, SK_upd (Int.le_refl _) hsk⟩) (by omega) (by rw [e427]; omega) (by rw [e427]; exact h1) (by rw [e427]; exact h2) (by simp only [List.length_cons, Int.natCast_add]; omega)
          rw [e430, e433] at hJ
          have e : ((v :: l).length : Int) = (l.length : Int) + 1 := by simp
          rw [e] at hJ
          exact ⟨J, hJ, fun a ha => (hF a ha).trans (up2_oth ha)⟩
        by_cases c3 : I 430 k < 1000
        · rw [if_pos c3, if_pos c3]
          exact go _
        · rw [if_neg c3, if_neg c3, w_small (z := I 430 k - 1000) (by omega) (by omega), gdR_pos (by omega), E252_115 (show KA S 432 20 80 from MA_k12 hM), w_small (z := (l.length : Int)) (by omega) (by omega), gdR_pos (by omega), E252_119]
          exact go _
      · rw [if_neg c2] at hok
        obtain ⟨q1, q2, q3⟩ := hok
        match l, q2, q3, hsk, hl with
        | y :: z :: r, q2, q3, hsk, hl =>
          have hy : I 432 ((r.length : Int) + 1) = y := by
            have := hsk.1
            simp only [List.length_cons, Int.natCast_add, Int.natCast_one] at this
            exact this
          have hz : I 432 (r.length : Int) = z := hsk.2.1
          have e : ((y :: z :: r).length : Int) + (-1) = (r.length : Int) + 1 := by simp only [List.length_cons, Int.natCast_add, Int.natCast_one]; omega
          have e2 : (r.length : Int) + 1 - 1 = (r.length : Int) := by omega
          simp only [List.length_cons, Int.natCast_add, Int.natCast_one] at hl
          rw [w_small (z := I 430 k) (by omega) (by omega), if_neg c1, if_neg c2, if_neg c1, if_neg c2, e, e2, w_small (z := (r.length : Int)) (by omega) (by omega), w_small (z := (r.length : Int) + 1) (by omega) (by omega), gdR_pos (by omega), gdR_pos (by omega), hy, hz, m_worked (by omega) (by omega)]
          simp only [Option.bind_some, psh_i]
          rw [E252_85 (show KA S 432 20 80 from MA_k12 hM), w_small (z := (r.length : Int)) (by omega) (by omega), gdR_pos (by omega), E252_119]
          obtain ⟨J, hJ, hF⟩ := ih (k + 1) (wrk (I 430 k - 2000) z y :: r) (up2 I 432 (r.length : Int) (wrk (I 430 k - 2000) z y)) (0, I 430 k) (by rw [e430]; exact q3) (by rw [up2_row]; exact ⟨updR_hit rfl, SK_upd (Int.le_refl _) hsk.2.2⟩) (by omega) (by rw [e427]; omega) (by rw [e427]; exact h1) (by rw [e427]; exact h2) (by simp only [List.length_cons, Int.natCast_add, Int.natCast_one]; omega)
          rw [e430, e433] at hJ
          have e3 : ((wrk (I 430 k - 2000) z y :: r).length : Int) = (r.length : Int) + 1 := by simp
          rw [e3] at hJ
          exact ⟨J, hJ, fun a ha => (hF a ha).trans (up2_oth ha)⟩
theorem evL_congr {code a1 a2 : RW} (h : ∀ j, 0 ≤ j → j < 7 → a1 j = a2 j) : ∀ (n : Nat) (k : Int) (l : List Int), okE code n k l.length → evL code a1 n k l = evL code a2 n k l := by
  intro n
  induction n with
  | zero => intro k l _; rfl
  | succ n ih =>
    intro k l hok
    rw [okE] at hok
    rw [evL, evL]
    by_cases c1 : code k = 3000
    · rw [if_pos c1] at hok
      rw [if_pos c1, if_pos c1]
      match l, hok with
      | y :: r, hok => exact ih (k + 1) ((-y) :: r) hok.2
    · rw [if_neg c1] at hok
      rw [if_neg c1, if_neg c1]
      by_cases c2 : code k < 2000
      · rw [if_pos c2] at hok
        rw [if_pos c2, if_pos c2]
        have e : (if code k < 1000 then code k else a1 (code k - 1000)) = (if code k < 1000 then code k else a2 (code k - 1000)) := by
          by_cases c3 : code k < 1000
          · rw [if_pos c3, if_pos c3]
          · rw [if_neg c3, if_neg c3, h _ (by omega) (by omega)]
        rw [e]
        exact ih (k + 1) _ hok.2.2.2
      · rw [if_neg c2] at hok
        rw [if_neg c2, if_neg c2]
        match l, hok with
        | y :: z :: r, hok => exact ih (k + 1) _ hok.2.2
theorem c_joined {c x y : Int} (h0 : 2000 ≤ c) (h1 : c < 2007) : ev d 131 0 [(0, tk c - 2000), (0, x), (0, y)] [] S I = some ((0, wrk (c - 2000) x y), S, I) := by
  have e : tk c - 2000 = (if c = 2000 then 60 else if c = 2001 then 62 else if c = 2002 then 61 else if c = 2003 then 43 else if c = 2004 then 45 else if c = 2005 then 42 else 47) := by
    unfold tk
    rw [if_neg (by omega), if_neg (by omega)]
    rcases (by omega : c = 2000 ∨ c = 2001 ∨ c = 2002 ∨ c = 2003 ∨ c = 2004 ∨ c = 2005 ∨ c = 2006) with rfl | rfl | rfl | rfl | rfl | rfl | rfl <;> decide
  rw [e, E131_0, wrk]
  rcases (by omega : c = 2000 ∨ c = 2001 ∨ c = 2002 ∨ c = 2003 ∨ c = 2004 ∨ c = 2005 ∨ c = 2006) with rfl | rfl | rfl | rfl | rfl | rfl | rfl
  · have e1 : w 60 = 60 := w_small (by decide) (by decide)
    by_cases h : w x < w y <;> simp [e1, h, E131_70]
  · have e1 : w 62 = 62 := w_small (by decide) (by decide)
    by_cases h : w y < w x <;> simp [e1, h, E131_81]
  · have e1 : w 61 = 61 := w_small (by decide) (by decide)
    by_cases h : w x = w y <;> simp [e1, h, E131_92]
  · have e1 : w 43 = 43 := w_small (by decide) (by decide)
    simp [e1]
  · have e1 : w 45 = 45 := w_small (by decide) (by decide)
    simp [e1]
  · have e1 : w 42 = 42 := w_small (by decide) (by decide)
    simp [e1]
  · have e1 : w 47 = 47 := w_small (by decide) (by decide)
    by_cases h : w y = 0 <;> simp [e1, h, E131_116, gdR]
theorem c_thing {u e : Int} (hU : UA S u) (h0 : 0 ≤ e) (h1 : e < 1007) : ev d 130 0 [(2, u), (0, e), uU] [] S I = some ((0, if e < 1000 then e else I (u + 4) (e - 1000)), S, I) := by
  rw [E130_0 hU, w_small (z := e - 1000) (by omega) (by omega)]
  by_cases h : e < 1000
  · rw [if_pos (by omega), if_pos h, E130_28, E130_29]
  · rw [if_neg (by omega), if_neg h, if_pos (by omega), gdR_pos (by omega), E130_29]
theorem tk_lo {c : Int} (h : c < 2000) : tk c = c := by unfold tk; rw [if_neg (by omega), if_pos h]
theorem tk_hi {c : Int} (h0 : 2000 ≤ c) (h1 : c < 2007) : 2042 ≤ tk c ∧ tk c ≤ 2062 := by
  rcases (by omega : c = 2000 ∨ c = 2001 ∨ c = 2002 ∨ c = 2003 ∨ c = 2004 ∨ c = 2005 ∨ c = 2006) with rfl | rfl | rfl | rfl | rfl | rfl | rfl <;> decide
theorem c_ev {u : Int} {code : RW} (hU : UA S u) : ∀ (n : Nat) (k : Int) (l : List Int) (I : II) (x : AV), okE code n k l.length → SK (I (u + 5)) l → 0 ≤ k → (∀ j, k ≤ j → j < k + n → I (u + 1) j = tk (code j)) → (n : Int) = I u 1 - k → I u 1 ≤ 40 → (l.length : Int) ≤ 40 →
    ∃ J, ev (d + 1) 129 4 [(2, u), (0, (l.length : Int)), (0, k), x] [] S I = some ((0, evL code (I (u + 4)) n k l), S, J) ∧ ∀ a, a ≠ u + 5 → J a = I a := by
  intro n
  induction n with
  | zero =>
    intro k l I x hok hsk hk htk hn h2 hl
    refine ⟨I, ?_, fun _ _ => rfl⟩
    have hl1 : l.length = 1 := hok
    obtain ⟨v, rfl⟩ : ∃ v, l = [v] := List.length_eq_one_iff.mp hl1
    rw [E129_4 hU, w_small (z := k) (by omega) (by omega), w_small (z := I u 1) (by omega) (by omega), if_neg (by omega), E129_132 hU]
    have := hsk.1
    simp only [List.length_nil, Int.natCast_zero] at this
    rw [evL, List.headD_cons, this]
  | succ n ih =>
    intro k l I x hok hsk hk htk hn h2 hl
    rw [okE] at hok
    have ht := htk k (by omega) (by omega)
    have e1 : ∀ j v : Int, up2 I (u + 5) j v (u + 1) = I (u + 1) := fun j v => up2_oth (by omega)
    have e4 : ∀ j v : Int, up2 I (u + 5) j v (u + 4) = I (u + 4) := fun j v => up2_oth (by omega)
    have e0 : ∀ j v : Int, up2 I (u + 5) j v u = I u := fun j v => up2_oth (by omega)
    rw [E129_4 hU, w_small (z := k) (by omega) (by omega), w_small (z := I u 1) (by omega) (by omega), if_pos (by omega), if_pos (by omega), gdR_pos (by omega), ht, evL]
    by_cases c1 : code k = 3000
    · rw [if_pos c1] at hok
      match l, hok, hsk, hl with
      | y :: r, hok, hsk, hl =>
        have hy : I (u + 5) (r.length : Int) = y := hsk.1
        have e : ((y :: r).length : Int) - 1 = (r.length : Int) := by simp
        have ep : 0 < ((y :: r).length : Int) := by simp only [List.length_cons, Int.natCast_add, Int.natCast_one]; omega
        simp only [List.length_cons, Int.natCast_add, Int.natCast_one] at hl
        have et : tk (code k) = 2256 := by rw [c1]; rfl
        rw [et, w_small (z := 2256) (by decide) (by decide), if_neg (by decide), if_pos rfl, if_pos c1, w_small (z := ((y :: r).length : Int)) (by omega) (by simp only [List.length_cons, Int.natCast_add, Int.natCast_one]; omega), if_pos ep, e, w_small (z := (r.length : Int)) (by omega) (by omega), gdR_pos (by omega), gdR_pos (by omega), E129_126, hy]
        obtain ⟨J, hJ, hF⟩ := ih (k + 1) ((-y) :: r) (up2 I (u + 5) (r.length : Int) (-y)) (0, 2256) hok.2 (by rw [up2_row]; exact ⟨updR_hit rfl, SK_upd (Int.le_refl _) hsk.2⟩) (by omega) (fun j h3 h4 => by rw [e1]; exact htk j (by omega) (by omega)) (by rw [e0]; omega) (by rw [e0]; exact h2) (by simp only [List.length_cons, Int.natCast_add, Int.natCast_one]; omega)
        rw [e4] at hJ
        exact ⟨J, hJ, fun a ha => (hF a ha).trans (up2_oth ha)⟩
    · rw [if_neg c1] at hok
      by_cases c2 : code k < 2000
      · rw [if_pos c2] at hok
        obtain ⟨q0, q1, q2, q3⟩ := hok
        rw [tk_lo c2, w_small (z := code k) (by omega) (by omega), if_pos c2, if_neg c1, if_pos c2, w_small (z := (l.length : Int)) (by omega) (by omega), if_pos (by omega), c_thing hU q0 q1]
        simp only [Option.bind_some, psh_i]
        rw [E129_48 (UA_k9 hU), w_small (z := (l.length : Int)) (by omega) (by omega), gdR_pos (by omega), E129_126]
        obtain ⟨J, hJ, hF⟩ := ih (k + 1) ((if code k < 1000 then code k else I (u + 4) (code k - 1000)) :: l) (up2 I (u + 5) (l.length : Int) (if code k < 1000 then code k else I (u + 4) (code k - 1000))) (0, code k) q3 (by rw [up2_row]; exact ⟨updR_hit rfl, SK_upd (Int.le_refl _) hsk⟩) (by omega) (fun j h3 h4 => by rw [e1]; exact htk j (by omega) (by omega)) (by rw [e0]; omega) (by rw [e0]; exact h2) (by simp only [List.length_cons, Int.natCast_add, Int.natCast_one]; omega)
        rw [e4] at hJ
        simp only [List.length_cons, Int.natCast_add, Int.natCast_one] at hJ
        exact ⟨J, hJ, fun a ha => (hF a ha).trans (up2_oth ha)⟩
      · rw [if_neg c2] at hok
        obtain ⟨q1, q2, q3⟩ := hok
        have th := tk_hi (c := code k) (by omega) q1
        match l, q2, q3, hsk, hl with
        | y :: z :: r, q2, q3, hsk, hl =>
          have hy : I (u + 5) ((r.length : Int) + 1) = y := by
            have := hsk.1
            simp only [List.length_cons, Int.natCast_add, Int.natCast_one] at this
            exact this
          have hz : I (u + 5) (r.length : Int) = z := hsk.2.1
          have el : ((y :: z :: r).length : Int) = (r.length : Int) + 2 := by simp only [List.length_cons, Int.natCast_add, Int.natCast_one]; omega
          have e2 : (r.length : Int) + 2 - 2 = (r.length : Int) := by omega
          have e3 : (r.length : Int) + 2 - 1 = (r.length : Int) + 1 := by omega
          have e5 : (r.length : Int) + 2 + (-1) = (r.length : Int) + 1 := by omega
          rw [el] at hl
          rw [w_small (z := tk (code k)) (by omega) (by omega), if_neg (by omega), if_neg (by omega), if_neg c1, if_neg c2, el, w_small (z := (r.length : Int) + 2) (by omega) (by omega), if_pos (by omega), e2, e3, w_small (z := (r.length : Int)) (by omega) (by omega), w_small (z := (r.length : Int) + 1) (by omega) (by omega), gdR_pos (by omega), gdR_pos (by omega), hy, hz, c_joined (by omega) q1]
          simp only [Option.bind_some, psh_i]
          rw [E129_122 (UA_k9 hU), w_small (z := (r.length : Int)) (by omega) (by omega), gdR_pos (by omega), E129_126, e5]
          obtain ⟨J, hJ, hF⟩ := ih (k + 1) (wrk (code k - 2000) z y :: r) (up2 I (u + 5) (r.length : Int) (wrk (code k - 2000) z y)) (0, tk (code k)) q3 (by rw [up2_row]; exact ⟨updR_hit rfl, SK_upd (Int.le_refl _) hsk.2.2⟩) (by omega) (fun j h3 h4 => by rw [e1]; exact htk j (by omega) (by omega)) (by rw [e0]; omega) (by rw [e0]; exact h2) (by simp only [List.length_cons, Int.natCast_add, Int.natCast_one]; omega)
          rw [e4] at hJ
          simp only [List.length_cons, Int.natCast_add, Int.natCast_one] at hJ
          exact ⟨J, hJ, fun a ha => (hF a ha).trans (up2_oth ha)⟩
end r34
