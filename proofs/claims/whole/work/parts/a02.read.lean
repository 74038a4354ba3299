/-! the class's reader of rules, as a function of the signs: things told (last first), signs held (last first), brackets, digits, where a comparison was, whether a thing is awaited */ -/
abbrev PSt : Type := List Int × List Int × Int × Int × (Int → Int) × Int
abbrev zO (σ : PSt) : List Int := σ.1
abbrev zH (σ : PSt) : List Int := σ.2.1
abbrev zB (σ : PSt) : Int := σ.2.2.1
abbrev zD (σ : PSt) : Int := σ.2.2.2.1
abbrev zC (σ : PSt) : Int → Int := σ.2.2.2.2.1
abbrev zA (σ : PSt) : Int := σ.2.2.2.2.2
def stg (c : Int) : Int := if c = 42 then 3 else if c = 43 then 2 else if c = 45 then 2 else if c = 47 then 3 else if c = 60 then 1 else if c = 61 then 1 else if c = 62 then 1 else if c = 256 then 4 else 0
def rls (s : Int) : List Int → List Int → List Int × List Int
  | o, [] => (o, [])
  | o, c :: h => if s ≤ stg c then rls s ((2000 + c) :: o) h else (o, c :: h)
def fl : List Int → List Int → List Int
  | o, [] => o
  | o, c :: h => fl ((2000 + c) :: o) h
def ix (l : List Nat) (c : Int) : Nat → Int → Int
  | 0, _ => -1
  | n + 1, k => if ((l.getD k.toNat 0 : Nat) : Int) = c then k else ix l c n (k + 1)
def ltr (c : Int) : Int := ix (txt 0) c 7 0
def spt (σ : PSt) (c : Int) : Option PSt :=
  if 48 ≤ c ∧ c ≤ 57 then
    (if zA σ = 1 then some ((c - 48) :: zO σ, zH σ, zB σ, 1, zC σ, 0)
     else if zD σ < 1 ∨ 2 < zD σ then none else match zO σ with
       | [] => none
       | x :: o => some ((10 * x + (c - 48)) :: o, zH σ, zB σ, zD σ + 1, zC σ, 0))
  else if zA σ = 1 then
    (if c = 45 then some (zO σ, 256 :: zH σ, zB σ, 0, zC σ, 1)
     else if c = 40 then (if zB σ < 4 then some (zO σ, 40 :: zH σ, zB σ + 1, 0, updR (zC σ) (zB σ + 1) 0, 1) else none)
     else if ltr c < 0 then none else some ((1000 + ltr c) :: zO σ, zH σ, zB σ, 0, zC σ, 0))
  else if c = 41 then
    (if zB σ < 1 then none else some ((rls 1 (zO σ) (zH σ)).1, (rls 1 (zO σ) (zH σ)).2.tail, zB σ - 1, 0, zC σ, 0))
  else if stg c < 1 then none
  else if stg c = 1 then (if zC σ (zB σ) = 0 then some ((rls 1 (zO σ) (zH σ)).1, c :: (rls 1 (zO σ) (zH σ)).2, zB σ, 0, updR (zC σ) (zB σ) 1, 1) else none)
  else some ((rls (stg c) (zO σ) (zH σ)).1, c :: (rls (stg c) (zO σ) (zH σ)).2, zB σ, 0, zC σ, 1)
def rn (t : Int → Int) : Nat → Int → PSt → Option PSt
  | 0, _, σ => some σ
  | n + 1, p, σ => (spt σ (t p)).bind (rn t n (p + 1))
def RNn (t : Int → Int) (p p' : Int) (σ σ' : PSt) : Prop := p ≤ p' ∧ rn t (p' - p).toNat p σ = some σ'
def HSt : Int → List Int → Prop
  | _, [] => True
  | r, c :: _ => stg c ≤ r
/-- what can't go on behind an EXPRESSION of rank r -/
def NG (t : Int → Int) (L p r : Int) (σ : PSt) : Prop := p < L → (48 ≤ t p → t p ≤ 57 → zD σ < 1 ∨ 2 < zD σ) ∧ (r + 1 ≤ stg (t p) → r = 0 ∧ stg (t p) = 1 ∧ zC σ (zB σ) ≠ 0)
def OKP (t : Int → Int) (L p r b : Int) (σ σ' : PSt) (cs : List Int) : Prop := ∃ pend, zH σ' = pend ++ zH σ ∧ (∀ c ∈ pend, r + 1 ≤ stg c) ∧ fl (zO σ') pend = cs.map tk ++ zO σ ∧ zA σ' = 0 ∧ zB σ' = b ∧ (∀ j, (j < b ∨ j ≤ b ∧ 1 ≤ r) → zC σ' j = zC σ j) ∧ NG t L p r σ'
def BAD (t : Int → Int) (L p : Int) (σ : PSt) : Prop := (p < L → spt σ (t p) = none) ∧ (¬ p < L → zA σ = 1 ∨ 0 < zB σ)
def CLm (t : Int → Int) (L p p' r b ok : Int) (cs : List Int) : Prop := ∀ σ : PSt, zA σ = 1 → zB σ = b → (r < 3 → HSt r (zH σ)) → (r = 0 → zC σ b = 0) → ∃ σ', RNn t p p' σ σ' ∧ (ok = 1 → OKP t L p' r b σ σ' cs) ∧ (ok = 0 → BAD t L p' σ')
/-- codes that make one thing more of what lies on the stack -/
def okR : List Int → Nat → Nat → Prop
  | [], t, t' => t' = t
  | c :: r, t, t' => ∃ u, okR r t u ∧ (if c = 3000 then 1 ≤ u ∧ t' = u else if c < 2000 then 0 ≤ c ∧ c < 1007 ∧ t' = u + 1 else c < 2007 ∧ 2 ≤ u ∧ t' + 1 = u)
section ra02
variable {t : Int → Int} {L p p' q r b s c ok : Int} {σ σ' σ'' : PSt} {cs : List Int}
theorem ltr_eq (c : Int) : ltr c = if c = 111 then 0 else if c = 98 then 1 else if c = 118 then 2 else if c = 113 then 3 else if c = 99 then 4 else if c = 100 then 5 else if c = 110 then 6 else -1 := by
  show (if ((111 : Nat) : Int) = c then (0 : Int) else if ((98 : Nat) : Int) = c then 0 + 1 else if ((118 : Nat) : Int) = c then 0 + 1 + 1 else if ((113 : Nat) : Int) = c then 0 + 1 + 1 + 1 else if ((99 : Nat) : Int) = c then 0 + 1 + 1 + 1 + 1 else if ((100 : Nat) : Int) = c then 0 + 1 + 1 + 1 + 1 + 1 else if ((110 : Nat) : Int) = c then 0 + 1 + 1 + 1 + 1 + 1 + 1 else -1) = _
  repeat' split
  all_goals omega
theorem ltr_no (h : c < 98 ∨ 118 < c) : ltr c = -1 := by
  rw [ltr_eq]
  repeat' split
  all_goals omega
theorem ltr_b (c : Int) : -1 ≤ ltr c ∧ ltr c ≤ 6 := by
  rw [ltr_eq]
  repeat' split
  all_goals omega
theorem ops7 (c : Int) : ix (txt 7) c 3 0 = if c = 60 then 0 else if c = 62 then 1 else if c = 61 then 2 else -1 := by
  show (if ((60 : Nat) : Int) = c then (0 : Int) else if ((62 : Nat) : Int) = c then 0 + 1 else if ((61 : Nat) : Int) = c then 0 + 1 + 1 else -1) = _
  repeat' split
  all_goals omega
theorem ops8 (c : Int) : ix (txt 8) c 2 0 = if c = 43 then 0 else if c = 45 then 1 else -1 := by
  show (if ((43 : Nat) : Int) = c then (0 : Int) else if ((45 : Nat) : Int) = c then 0 + 1 else -1) = _
  repeat' split
  all_goals omega
theorem ops9 (c : Int) : ix (txt 9) c 2 0 = if c = 42 then 0 else if c = 47 then 1 else -1 := by
  show (if ((42 : Nat) : Int) = c then (0 : Int) else if ((47 : Nat) : Int) = c then 0 + 1 else -1) = _
  repeat' split
  all_goals omega
theorem stg_b (c : Int) : 0 ≤ stg c ∧ stg c ≤ 4 ∧ (c < 256 → stg c ≤ 3) ∧ (1 ≤ stg c → c < 256 → (c = 42 ∨ c = 43 ∨ c = 45 ∨ c = 47 ∨ c = 60 ∨ c = 61 ∨ c = 62)) := by
  unfold stg
  repeat' split
  all_goals omega
theorem rls_fl : ∀ (pend h o : List Int), (∀ c ∈ pend, s ≤ stg c) → HSt (s - 1) h → rls s o (pend ++ h) = (fl o pend, h) := by
  intro pend
  induction pend with
  | nil =>
    intro h o _ hh
    cases h with
    | nil => rfl
    | cons c h =>
      have : stg c ≤ s - 1 := hh
      show rls s o (c :: h) = _
      unfold rls
      rw [if_neg (by omega)]
      rfl
  | cons c pend ih =>
    intro h o hp hh
    show rls s o (c :: (pend ++ h)) = _
    unfold rls
    rw [if_pos (hp c List.mem_cons_self)]
    exact ih h _ (fun x hx => hp x (List.mem_cons_of_mem _ hx)) hh
theorem fl_app : ∀ (pend o : List Int), fl o (pend ++ [c]) = (2000 + c) :: fl o pend := by
  intro pend
  induction pend with
  | nil => intro o; rfl
  | cons x pend ih => intro o; exact ih _
theorem HS_le {h : List Int} (hh : HSt r h) (hr : r ≤ s) : HSt s h := by
  cases h with
  | nil => trivial
  | cons c h =>
    have : stg c ≤ r := hh
    show stg c ≤ s
    omega
theorem rn_add : ∀ (n m : Nat) (p : Int) (σ : PSt), rn t (n + m) p σ = (rn t n p σ).bind (rn t m (p + n)) := by
  intro n
  induction n with
  | zero => intro m p σ; rw [Nat.zero_add, Int.natCast_zero, Int.add_zero]; rfl
  | succ n ih =>
    intro m p σ
    rw [show n + 1 + m = (n + m) + 1 by omega]
    show (spt σ (t p)).bind (rn t (n + m) (p + 1)) = ((spt σ (t p)).bind (rn t n (p + 1))).bind (rn t m (p + ((n + 1 : Nat) : Int)))
    cases spt σ (t p) with
    | none => rfl
    | some x =>
      show rn t (n + m) (p + 1) x = (rn t n (p + 1) x).bind (rn t m (p + ((n + 1 : Nat) : Int)))
      rw [ih, show p + ((n + 1 : Nat) : Int) = p + 1 + (n : Int) by omega]
theorem RN_refl : RNn t p p σ σ := ⟨Int.le_refl _, by rw [Int.sub_self]; rfl⟩
theorem RN_one (h : spt σ (t p) = some σ') : RNn t p (p + 1) σ σ' := by
  refine ⟨by omega, ?_⟩
  rw [show (p + 1 - p).toNat = 0 + 1 by omega]
  show (spt σ (t p)).bind (rn t 0 (p + 1)) = _
  rw [h]; rfl
theorem RN_trans (h : RNn t p p' σ σ') (g : RNn t p' q σ' σ'') : RNn t p q σ σ'' := by
  refine ⟨Int.le_trans h.1 g.1, ?_⟩
  have h0 := h.1
  have g0 := g.1
  rw [show (q - p).toNat = (p' - p).toNat + (q - p').toNat by omega, rn_add, h.2]
  show rn t (q - p').toNat (p + ((p' - p).toNat : Int)) σ' = _
  rw [show p + ((p' - p).toNat : Int) = p' by omega]
  exact g.2
/-- a sign that stops an EXPRESSION is refused -/
theorem spt_stop (hc : t p < 256) (hA : zA σ = 0) (h : NG t L p 0 σ) (hp : p < L) (h41 : t p ≠ 41 ∨ zB σ < 1) : spt σ (t p) = none := by
  obtain ⟨n1, n2⟩ := h hp
  have sb := stg_b (t p)
  unfold spt
  by_cases d : 48 ≤ t p ∧ t p ≤ 57
  · rw [if_pos d, if_neg (by rw [hA]; decide), if_pos (n1 d.1 d.2)]
  rw [if_neg d, if_neg (by rw [hA]; decide)]
  by_cases e : t p = 41
  · rw [if_pos e, if_pos (by omega)]
  rw [if_neg e]
  by_cases f : stg (t p) < 1
  · rw [if_pos f]
  obtain ⟨_, m1, m2⟩ := n2 (by omega)
  rw [if_neg f, if_pos m1, if_neg m2]
theorem spt_aw (hA : zA σ = 1) (d : ¬ (48 ≤ c ∧ c ≤ 57)) : spt σ c = if c = 45 then some (zO σ, 256 :: zH σ, zB σ, 0, zC σ, 1)
     else if c = 40 then (if zB σ < 4 then some (zO σ, 40 :: zH σ, zB σ + 1, 0, updR (zC σ) (zB σ + 1) 0, 1) else none)
     else if ltr c < 0 then none else some ((1000 + ltr c) :: zO σ, zH σ, zB σ, 0, zC σ, 0) := by
  unfold spt
  rw [if_neg d, if_pos hA]
theorem spt_dig (hA : zA σ = 1) (d : 48 ≤ c ∧ c ≤ 57) : spt σ c = some ((c - 48) :: zO σ, zH σ, zB σ, 1, zC σ, 0) := by
  unfold spt
  rw [if_pos d, if_pos hA]
theorem spt_op {pend H : List Int} (hA : zA σ = 0) (hH : zH σ = pend ++ H) (hp : ∀ c ∈ pend, s ≤ stg c) (hh : HSt (s - 1) H) (hs : stg c = s) (s1 : 1 ≤ s) (hc : c < 256) (h1 : s = 1 → zC σ (zB σ) = 0) : spt σ c = some (fl (zO σ) pend, c :: H, zB σ, 0, (if s = 1 then updR (zC σ) (zB σ) 1 else zC σ), 1) := by
  have sc := (stg_b c).2.2.2 (by omega) hc
  have rr := rls_fl (s := s) pend H (zO σ) hp hh
  unfold spt
  rw [if_neg (by omega), if_neg (by rw [hA]; decide), if_neg (by omega), if_neg (by omega), hs]
  by_cases g : s = 1
  · subst g
    rw [if_pos rfl, if_pos (h1 rfl), hH, rr, if_pos rfl]
  · rw [if_neg g, hH, rr, if_neg g]
theorem spt_close {pend H : List Int} (hA : zA σ = 0) (hB : 1 ≤ zB σ) (hH : zH σ = pend ++ 40 :: H) (hp : ∀ c ∈ pend, 1 ≤ stg c) : spt σ 41 = some (fl (zO σ) pend, H, zB σ - 1, 0, zC σ, 0) := by
  have rr := rls_fl (s := 1) pend (40 :: H) (zO σ) hp (by show stg 40 ≤ 1 - 1; decide)
  unfold spt
  rw [if_neg (by omega), if_neg (by rw [hA]; decide), if_pos rfl, if_neg (by omega), hH, rr]
  rfl
/-! the claims, put together -/
theorem CL_minus (hp : t p = 45) (h : CLm t L (p + 1) p' 3 b ok cs) : CLm t L p p' 3 b ok (3000 :: cs) := by
  intro σ hA hB _ _
  have e := spt_aw (c := t p) hA (by omega)
  rw [if_pos hp] at e
  obtain ⟨σ', r1, r2, r3⟩ := h _ (rfl : zA ((zO σ, 256 :: zH σ, zB σ, 0, zC σ, 1) : PSt) = 1) hB (fun x => by omega) (fun x => by omega)
  refine ⟨σ', RN_trans (RN_one e) r1, fun ho => ?_, r3⟩
  obtain ⟨pend, p1, p2, p3, p4, p5, p6, p7⟩ := r2 ho
  refine ⟨pend ++ [256], ?_, ?_, ?_, p4, p5, p6, p7⟩
  · rw [p1, List.append_assoc]; rfl
  · intro c hc
    rcases List.mem_append.mp hc with hc | hc
    · exact p2 c hc
    · rw [List.mem_singleton.mp hc]; decide
  · rw [fl_app, p3]; rfl
theorem CL_par0 (hp : t p = 40) (hb : b < 4) (ho : ok = 0) (h : CLm t L (p + 1) p' 0 (b + 1) ok cs) {cs' : List Int} : CLm t L p p' 3 b 0 cs' := by
  intro σ hA hB _ _
  have e := spt_aw (c := t p) hA (by omega)
  rw [if_neg (by omega), if_pos hp, if_pos (by omega)] at e
  obtain ⟨σ', r1, r2, r3⟩ := h _ (rfl : zA ((zO σ, 40 :: zH σ, zB σ + 1, 0, updR (zC σ) (zB σ + 1) 0, 1) : PSt) = 1) (by show zB σ + 1 = b + 1; omega) (fun _ => by show stg 40 ≤ 0; decide) (fun _ => by rw [← hB]; exact updR_hit rfl)
  exact ⟨σ', RN_trans (RN_one e) r1, fun x => absurd x (by decide), fun _ => r3 ho⟩
theorem CL_par1 (hp : t p = 40) (ht : ∀ j, p' ≤ j → j < L → t j < 256) (hb0 : 0 ≤ b) (hb : b < 4) (ho : ok = 1) (h : CLm t L (p + 1) p' 0 (b + 1) ok cs) (hn : ¬ (p' < L ∧ t p' = 41)) {cs' : List Int} : CLm t L p p' 3 b 0 cs' := by
  intro σ hA hB _ _
  have e := spt_aw (c := t p) hA (by omega)
  rw [if_neg (by omega), if_pos hp, if_pos (by omega)] at e
  obtain ⟨σ', r1, r2, r3⟩ := h _ (rfl : zA ((zO σ, 40 :: zH σ, zB σ + 1, 0, updR (zC σ) (zB σ + 1) 0, 1) : PSt) = 1) (by show zB σ + 1 = b + 1; omega) (fun _ => by show stg 40 ≤ 0; decide) (fun _ => by rw [← hB]; exact updR_hit rfl)
  refine ⟨σ', RN_trans (RN_one e) r1, fun x => absurd x (by decide), fun _ => ?_⟩
  obtain ⟨pend, p1, p2, p3, p4, p5, p6, p7⟩ := r2 ho
  exact ⟨fun x => spt_stop (ht p' (Int.le_refl _) x) p4 p7 x (Or.inl (fun y => hn ⟨x, y⟩)), fun _ => Or.inr (by omega)⟩
theorem CL_par2 (hp : t p = 40) (ht : ∀ j, p' ≤ j → j < L → t j < 256) (hb0 : 0 ≤ b) (hb : b < 4) (ho : ok = 1) (h : CLm t L (p + 1) p' 0 (b + 1) ok cs) (hn : t p' = 41) : CLm t L p (p' + 1) 3 b 1 cs := by
  intro σ hA hB _ _
  have e := spt_aw (c := t p) hA (by omega)
  rw [if_neg (by omega), if_pos hp, if_pos (by omega)] at e
  obtain ⟨σ', r1, r2, r3⟩ := h _ (rfl : zA ((zO σ, 40 :: zH σ, zB σ + 1, 0, updR (zC σ) (zB σ + 1) 0, 1) : PSt) = 1) (by show zB σ + 1 = b + 1; omega) (fun _ => by show stg 40 ≤ 0; decide) (fun _ => by rw [← hB]; exact updR_hit rfl)
  obtain ⟨pend, p1, p2, p3, p4, p5, p6, p7⟩ := r2 ho
  have e2 := spt_close (H := zH σ) p4 (by omega) p1 p2
  rw [← hn] at e2
  refine ⟨_, RN_trans (RN_trans (RN_one e) r1) (RN_one e2), fun _ => ⟨[], rfl, fun c hc => absurd hc List.not_mem_nil, p3, rfl, by show zB σ' - 1 = b; omega, fun j hj => ?_, fun x => ⟨fun _ _ => Or.inl (by show (0 : Int) < 1; decide), fun y => ?_⟩⟩, fun x => absurd x (by decide)⟩
  · rw [show zC ((fl (zO σ') pend, zH σ, zB σ' - 1, 0, zC σ', 0) : PSt) j = zC σ' j from rfl, p6 j (Or.inl (by omega))]
    exact updR_miss (by omega)
  · have := (stg_b (t (p' + 1))).2.2.1 (ht _ (by omega) x)
    omega
theorem CL_ltr (hp : 0 ≤ ltr (t p)) (ht : ∀ j, p < j → j < L → t j < 256) : CLm t L p (p + 1) 3 b 1 [1000 + ltr (t p)] := by
  intro σ hA hB _ _
  have l1 : ¬ (t p < 98 ∨ 118 < t p) := fun x => by have := ltr_no x; omega
  have lb := ltr_b (t p)
  have e := spt_aw (c := t p) hA (by omega)
  rw [if_neg (by omega), if_neg (by omega), if_neg (by omega)] at e
  refine ⟨_, RN_one e, fun _ => ⟨[], rfl, fun c hc => absurd hc List.not_mem_nil, ?_, rfl, hB, fun j _ => rfl, fun x => ⟨fun _ _ => Or.inl (by show (0 : Int) < 1; decide), fun y => ?_⟩⟩, fun x => absurd x (by decide)⟩
  · show (1000 + ltr (t p)) :: zO σ = tk (1000 + ltr (t p)) :: zO σ
    unfold tk
    rw [if_neg (by omega), if_pos (by omega)]
  · have := (stg_b (t (p + 1))).2.2.1 (ht _ (by omega) x)
    omega
theorem CL_none (h1 : p < L → ¬ (48 ≤ t p ∧ t p ≤ 57)) (h2 : p < L → t p ≠ 45) (h3 : p < L → ltr (t p) < 0) (h4 : p < L → t p = 40 → 4 ≤ b) : CLm t L p p 3 b 0 cs := by
  intro σ hA hB _ _
  refine ⟨σ, RN_refl, fun x => absurd x (by decide), fun _ => ⟨fun x => ?_, fun _ => Or.inl hA⟩⟩
  rw [spt_aw hA (h1 x), if_neg (h2 x)]
  by_cases g : t p = 40
  · rw [if_pos g, if_neg (by have := h4 x g; omega)]
  · rw [if_neg g, if_pos (h3 x)]
theorem CL_num1 (d1 : 48 ≤ t p ∧ t p ≤ 57) (hn : ¬ (p + 1 < L ∧ 48 ≤ t (p + 1) ∧ t (p + 1) ≤ 57)) (ht : ∀ j, p < j → j < L → t j < 256) : CLm t L p (p + 1) 3 b 1 [t p - 48] := by
  intro σ hA hB _ _
  have e := spt_dig hA d1
  refine ⟨_, RN_one e, fun _ => ⟨[], rfl, fun c hc => absurd hc List.not_mem_nil, ?_, rfl, hB, fun j _ => rfl, fun x => ⟨fun y z => absurd ⟨x, y, z⟩ hn, fun y => ?_⟩⟩, fun x => absurd x (by decide)⟩
  · show (t p - 48) :: zO σ = tk (t p - 48) :: zO σ
    unfold tk
    rw [if_neg (by omega), if_pos (by omega)]
  · have := (stg_b (t (p + 1))).2.2.1 (ht _ (by omega) x)
    omega
theorem spt_more {x : Int} {o : List Int} (hA : zA σ = 0) (d : 48 ≤ c ∧ c ≤ 57) (hD : 1 ≤ zD σ) (hD2 : zD σ ≤ 2) (ho : zO σ = x :: o) : spt σ c = some ((10 * x + (c - 48)) :: o, zH σ, zB σ, zD σ + 1, zC σ, 0) := by
  unfold spt
  rw [if_pos d, if_neg (by rw [hA]; decide), if_neg (by omega), ho]
theorem CL_num2 (d1 : 48 ≤ t p ∧ t p ≤ 57) (d2 : 48 ≤ t (p + 1) ∧ t (p + 1) ≤ 57) (hn : ¬ (p + 1 + 1 < L ∧ 48 ≤ t (p + 1 + 1) ∧ t (p + 1 + 1) ≤ 57)) (ht : ∀ j, p < j → j < L → t j < 256) : CLm t L p (p + 1 + 1) 3 b 1 [10 * (t p - 48) + (t (p + 1) - 48)] := by
  intro σ hA hB _ _
  have e := spt_dig hA d1
  have e2 := spt_more (σ := ((t p - 48) :: zO σ, zH σ, zB σ, 1, zC σ, 0)) (x := t p - 48) (o := zO σ) rfl d2 (by show (1 : Int) ≤ 1; decide) (by show (1 : Int) ≤ 2; decide) rfl
  refine ⟨_, RN_trans (RN_one e) (RN_one e2), fun _ => ⟨[], rfl, fun c hc => absurd hc List.not_mem_nil, ?_, rfl, hB, fun j _ => rfl, fun x => ⟨fun y z => absurd ⟨x, y, z⟩ hn, fun y => ?_⟩⟩, fun x => absurd x (by decide)⟩
  · show (10 * (t p - 48) + (t (p + 1) - 48)) :: zO σ = tk (10 * (t p - 48) + (t (p + 1) - 48)) :: zO σ
    unfold tk
    rw [if_neg (by omega), if_pos (by omega)]
  · have := (stg_b (t (p + 1 + 1))).2.2.1 (ht _ (by omega) x)
    omega
theorem CL_num3 (d1 : 48 ≤ t p ∧ t p ≤ 57) (d2 : 48 ≤ t (p + 1) ∧ t (p + 1) ≤ 57) (d3 : 48 ≤ t (p + 1 + 1) ∧ t (p + 1 + 1) ≤ 57) (ht : ∀ j, p < j → j < L → t j < 256) : CLm t L p (p + 1 + 1 + 1) 3 b 1 [10 * (10 * (t p - 48) + (t (p + 1) - 48)) + (t (p + 1 + 1) - 48)] := by
  intro σ hA hB _ _
  have e := spt_dig hA d1
  have e2 := spt_more (σ := ((t p - 48) :: zO σ, zH σ, zB σ, 1, zC σ, 0)) (x := t p - 48) (o := zO σ) rfl d2 (by show (1 : Int) ≤ 1; decide) (by show (1 : Int) ≤ 2; decide) rfl
  have e3 := spt_more (σ := ((10 * (t p - 48) + (t (p + 1) - 48)) :: zO σ, zH σ, zB σ, 1 + 1, zC σ, 0)) (x := 10 * (t p - 48) + (t (p + 1) - 48)) (o := zO σ) rfl d3 (by show (1 : Int) ≤ 1 + 1; decide) (by show (1 : Int) + 1 ≤ 2; decide) rfl
  refine ⟨_, RN_trans (RN_trans (RN_one e) (RN_one e2)) (RN_one e3), fun _ => ⟨[], rfl, fun c hc => absurd hc List.not_mem_nil, ?_, rfl, hB, fun j _ => rfl, fun x => ⟨fun y z => Or.inr (by show (2 : Int) < 1 + 1 + 1; decide), fun y => ?_⟩⟩, fun x => absurd x (by decide)⟩
  · show (10 * (10 * (t p - 48) + (t (p + 1) - 48)) + (t (p + 1 + 1) - 48)) :: zO σ = tk (10 * (10 * (t p - 48) + (t (p + 1) - 48)) + (t (p + 1 + 1) - 48)) :: zO σ
    unfold tk
    rw [if_neg (by omega), if_pos (by omega)]
  · have := (stg_b (t (p + 1 + 1 + 1))).2.2.1 (ht _ (by omega) x)
    omega
theorem CL_up (r0 : 0 ≤ r) (r1 : r < 3) (ho : ok = 0) (h : CLm t L p p' (r + 1) b ok cs) {cs' : List Int} : CLm t L p p' r b 0 cs' := by
  intro σ hA hB hs hc
  obtain ⟨σ', e1, e2, e3⟩ := h σ hA hB (fun _ => HS_le (hs r1) (by omega)) (fun x => by omega)
  exact ⟨σ', e1, fun x => absurd x (by decide), fun _ => e3 ho⟩
/-- where the loop over signs of rank r stands -/
def OKL (t : Int → Int) (L p r b f : Int) (σ σ' : PSt) (cs : List Int) : Prop := ∃ pend, zH σ' = pend ++ zH σ ∧ (∀ c ∈ pend, r + 1 ≤ stg c) ∧ fl (zO σ') pend = cs.map tk ++ zO σ ∧ zA σ' = 0 ∧ zB σ' = b ∧ (∀ j, (j < b ∨ j ≤ b ∧ 1 ≤ r) → zC σ' j = zC σ j) ∧ NG t L p (r + 1) σ' ∧ (r = 0 → (f = 1 → zC σ' b = 0) ∧ (f ≠ 1 → zC σ' b ≠ 0))
def LOP (t : Int → Int) (L p p' r b f : Int) (cs : List Int) : Prop := ∀ σ : PSt, zA σ = 1 → zB σ = b → HSt r (zH σ) → (r = 0 → zC σ b = 0) → ∃ σ', RNn t p p' σ σ' ∧ OKL t L p' r b f σ σ' cs
theorem LOP_start (r0 : 0 ≤ r) (r1 : r < 3) (ho : ok = 1) (h : CLm t L p p' (r + 1) b ok cs) : LOP t L p p' r b 1 cs := by
  intro σ hA hB hs hc
  obtain ⟨σ', e1, e2, e3⟩ := h σ hA hB (fun _ => HS_le hs (by omega)) (fun x => by omega)
  obtain ⟨pend, p1, p2, p3, p4, p5, p6, p7⟩ := e2 ho
  exact ⟨σ', e1, pend, p1, fun c hc => by have := p2 c hc; omega, p3, p4, p5, fun j hj => p6 j (by omega), p7, fun x => ⟨fun _ => by rw [p6 b (Or.inr ⟨Int.le_refl _, by omega⟩)]; exact hc x, fun y => absurd rfl y⟩⟩
theorem LOP_end0 {f : Int} (r0 : r = 0) (hf : f ≠ 1) (h : LOP t L p p' r b f cs) : CLm t L p p' r b 1 cs := by
  intro σ hA hB hs hc
  obtain ⟨σ', e1, pend, p1, p2, p3, p4, p5, p6, p7, p8⟩ := h σ hA hB (hs (by omega)) hc
  refine ⟨σ', e1, fun _ => ⟨pend, p1, p2, p3, p4, p5, p6, fun x => ⟨(p7 x).1, fun y => ?_⟩⟩, fun x => absurd x (by decide)⟩
  have q := (p7 x).2
  refine ⟨r0, ?_, by rw [p5]; exact (p8 r0).2 hf⟩
  rcases (by omega : stg (t p') = 1 ∨ r + 1 + 1 ≤ stg (t p')) with z | z
  · exact z
  · exact absurd (q z).1 (by omega)
theorem LOP_end {f : Int} (r0 : 0 ≤ r) (r1 : r < 3) (h : LOP t L p p' r b f cs) (hn : p' < L → stg (t p') ≠ r + 1) : CLm t L p p' r b 1 cs := by
  intro σ hA hB hs hc
  obtain ⟨σ', e1, pend, p1, p2, p3, p4, p5, p6, p7, p8⟩ := h σ hA hB (hs r1) hc
  refine ⟨σ', e1, fun _ => ⟨pend, p1, p2, p3, p4, p5, p6, fun x => ⟨(p7 x).1, fun y => ?_⟩⟩, fun x => absurd x (by decide)⟩
  have := hn x
  exact absurd ((p7 x).2 (by omega)).1 (by omega)
theorem LOP_op {q a : Int} {cs2 : List Int} (r0 : 0 ≤ r) (r1 : r < 3) (h : LOP t L p p' r b 1 cs) (hs : stg (t p') = r + 1) (ht : t p' < 256) (h2 : CLm t L (p' + 1) q (r + 1) b ok cs2) (ha : tk a = 2000 + t p') :
    (ok = 0 → ∀ cs', CLm t L p q r b 0 cs') ∧ (ok = 1 → LOP t L p q r b (if 0 < r then 1 else 0) (a :: (cs2 ++ cs))) := by
  have key : ∀ σ : PSt, zA σ = 1 → zB σ = b → HSt r (zH σ) → (r = 0 → zC σ b = 0) → ∃ σ1 σ2 : PSt, RNn t p (p' + 1) σ σ1 ∧ RNn t (p' + 1) q σ1 σ2 ∧ (ok = 1 → OKP t L q (r + 1) b σ1 σ2 cs2) ∧ (ok = 0 → BAD t L q σ2) ∧ zH σ1 = t p' :: zH σ ∧ zO σ1 = cs.map tk ++ zO σ ∧ (∀ j, (j < b ∨ j ≤ b ∧ 1 ≤ r) → zC σ1 j = zC σ j) ∧ (r = 0 → zC σ1 b = 1) := by
    intro σ hA hB hh hc
    obtain ⟨σ', e1, pend, p1, p2, p3, p4, p5, p6, p7, p8⟩ := h σ hA hB hh hc
    have e2 := spt_op (c := t p') (s := r + 1) p4 p1 p2 (by rw [show r + 1 - 1 = r by omega]; exact hh) hs (by omega) ht (fun x => by rw [p5]; exact (p8 (by omega)).1 rfl)
    obtain ⟨σ2, g1, g2, g3⟩ := h2 (fl (zO σ') pend, t p' :: zH σ, zB σ', 0, (if r + 1 = 1 then updR (zC σ') (zB σ') 1 else zC σ'), 1) rfl p5 (fun _ => by show stg (t p') ≤ r + 1; omega) (fun x => by omega)
    refine ⟨_, σ2, RN_trans e1 (RN_one e2), g1, g2, g3, rfl, p3, fun j hj => ?_, fun x => ?_⟩
    · show (if r + 1 = 1 then updR (zC σ') (zB σ') 1 else zC σ') j = zC σ j
      by_cases x : r + 1 = 1
      · rw [if_pos x, updR_miss (by omega)]; exact p6 j hj
      · rw [if_neg x]; exact p6 j hj
    · show (if r + 1 = 1 then updR (zC σ') (zB σ') 1 else zC σ') b = 1
      rw [if_pos (by omega), updR_hit p5.symm]
  constructor
  · intro ho cs' σ hA hB hh hc
    obtain ⟨σ1, σ2, k1, k2, k3, k4, _⟩ := key σ hA hB (hh r1) hc
    exact ⟨σ2, RN_trans k1 k2, fun x => absurd x (by decide), fun _ => k4 ho⟩
  · intro ho σ hA hB hh hc
    obtain ⟨σ1, σ2, k1, k2, k3, k4, k5, k6, k7, k8⟩ := key σ hA hB hh hc
    obtain ⟨pend, p1, p2, p3, p4, p5, p6, p7⟩ := k3 ho
    refine ⟨σ2, RN_trans k1 k2, pend ++ [t p'], ?_, ?_, ?_, p4, p5, fun j hj => by rw [p6 j (by omega)]; exact k7 j hj, p7, fun x => ⟨fun y => ?_, fun _ => ?_⟩⟩
    · rw [p1, k5, List.append_assoc]; rfl
    · intro c hc
      rcases List.mem_append.mp hc with hc | hc
      · have := p2 c hc; omega
      · rw [List.mem_singleton.mp hc]; omega
    · rw [fl_app, p3, k6, List.map_cons, ha, List.map_append, List.cons_append, List.append_assoc]
    · rw [if_neg (by omega)] at y; exact absurd y (by decide)
    · rw [p6 b (Or.inr ⟨Int.le_refl _, by omega⟩), k8 x]; decide
/-! codes are in order -/
theorem okR_app : ∀ (a c : List Int) (u v : Nat), okR (a ++ c) u v ↔ ∃ x, okR c u x ∧ okR a x v := by
  intro a
  induction a with
  | nil =>
    intro c u v
    constructor
    · intro h; exact ⟨v, h, rfl⟩
    · rintro ⟨x, h1, h2⟩
      have : v = x := h2
      rw [this]; exact h1
  | cons y a ih =>
    intro c u v
    constructor
    · rintro ⟨x, h1, h2⟩
      obtain ⟨z, z1, z2⟩ := (ih c u x).mp h1
      exact ⟨z, z1, x, z2, h2⟩
    · rintro ⟨z, z1, x, z2, h2⟩
      exact ⟨x, (ih c u x).mpr ⟨z, z1, z2⟩, h2⟩
theorem SK_app {st : RW} : ∀ (a c : List Int), SK st (a ++ c) → SK st c := by
  intro a
  induction a with
  | nil => intro c h; exact h
  | cons y a ih => intro c h; exact ih c h.2
theorem okR_E {st : RW} : ∀ (n : Nat) (a c : List Int) (u : Nat), a.length = n → okR a u 1 → SK st (a ++ c) → u + n ≤ 40 → okE st n (c.length : Int) u := by
  intro n
  induction n with
  | zero =>
    intro a c u ha h _ _
    have : a = [] := List.length_eq_zero_iff.mp ha
    subst this
    have e : 1 = u := h
    exact e.symm
  | succ n ih =>
    intro a c u ha h hs hu
    obtain ⟨a', x, rfl⟩ : ∃ a' x, a = a' ++ [x] := by
      rcases List.eq_nil_or_concat a with e | ⟨a', x, e⟩
      · rw [e] at ha; simp at ha
      · exact ⟨a', x, by rw [e, List.concat_eq_append]⟩
    obtain ⟨v, h1, h2⟩ := (okR_app a' [x] u 1).mp h
    obtain ⟨z, z1, z2⟩ := h1
    have z1' : z = u := z1
    subst z1'
    have hs' := SK_app a' ([x] ++ c) (by rw [← List.append_assoc]; exact hs)
    have e1 : st (c.length : Int) = x := hs'.1
    have ha' : a'.length = n := by simpa using ha
    have nx : ∀ w', okR a' w' 1 → w' + n ≤ 40 → okE st n ((c.length : Int) + 1) w' := fun w' hw hl => by
      have := ih a' (x :: c) w' ha' hw (by rw [List.append_assoc] at hs; exact hs) hl
      rw [List.length_cons, Int.natCast_add, Int.natCast_one] at this
      exact this
    unfold okE
    rw [e1]
    by_cases g : x = 3000
    · rw [if_pos g] at z2 ⊢
      exact ⟨z2.1, nx z (by rw [← z2.2]; exact h2) (by omega)⟩
    rw [if_neg g] at z2 ⊢
    by_cases g2 : x < 2000
    · rw [if_pos g2] at z2 ⊢
      exact ⟨z2.1, z2.2.1, by omega, nx (z + 1) (by rw [← z2.2.2]; exact h2) (by omega)⟩
    · rw [if_neg g2] at z2 ⊢
      exact ⟨z2.1, z2.2.1, nx (z - 1) (by rw [show z - 1 = v by omega]; exact h2) (by omega)⟩
theorem SK_tk {st su : RW} : ∀ (l : List Int), SK st (l.map tk) → SK su l → ∀ j, 0 ≤ j → j < (l.length : Int) → st j = tk (su j) := by
  intro l
  induction l with
  | nil => intro _ _ j j0 j1; simp at j1; omega
  | cons x l ih =>
    intro h g j j0 j1
    rw [List.length_cons, Int.natCast_add, Int.natCast_one] at j1
    by_cases e : j = (l.length : Int)
    · have h1 : st (((l.map tk).length : Nat) : Int) = tk x := h.1
      rw [List.length_map] at h1
      have g1 : su (l.length : Int) = x := g.1
      rw [e, h1, g1]
    · exact ih h.2 g.2 j j0 (by omega)
end ra02
