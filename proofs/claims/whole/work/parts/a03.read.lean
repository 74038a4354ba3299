/-! the class reads a rule */ -/
def cb : List Int → Int
  | [] => 0
  | c :: h => (if c = 40 then 1 else 0) + cb h
def URu (I : II) (u : Int) (σ : PSt) : Prop := I u 1 = ((zO σ).length : Int) ∧ SK (I (u + 1)) (zO σ) ∧ I u 3 = ((zH σ).length : Int) ∧ SK (I (u + 2)) (zH σ) ∧ I u 5 = zB σ ∧ I u 6 = zD σ ∧ (∀ j, 0 ≤ j → j ≤ 4 → I (u + 3) j = zC σ j) ∧ I u 7 = zA σ
def INV (p : Int) (σ : PSt) : Prop := ((zO σ).length : Int) + ((zH σ).length : Int) ≤ p ∧ 0 ≤ zB σ ∧ zB σ ≤ 4 ∧ 0 ≤ zD σ ∧ zD σ ≤ 3 ∧ (1 ≤ zD σ → zO σ ≠ []) ∧ (∀ j, 0 ≤ j → j ≤ zB σ → zC σ j = 0 ∨ zC σ j = 1) ∧ (zA σ = 0 ∨ zA σ = 1) ∧ (∀ c ∈ zH σ, 0 ≤ c ∧ c ≤ 256 ∧ (c = 40 ∨ 1 ≤ stg c)) ∧ cb (zH σ) = zB σ
/-- the place of the fault, as it is answered -/
def fau (n L ok p : Int) : Int := if 40 < n ∧ (ok = 1 ∧ p = L ∨ 40 ≤ p) then -41 else if ok = 1 ∧ p = L then 0 else -1 - p
section ra03
variable {d : Nat} {S : SS} {I J G : II} {t : Int → Int} {L p p' q r b s c ok u v n a k : Int} {σ σ' σ'' : PSt} {cs : List Int}
theorem rls_p : ∀ (h o : List Int), (((rls s o h).1.length : Int) + ((rls s o h).2.length : Int) = (o.length : Int) + (h.length : Int)) ∧ (∀ c ∈ (rls s o h).2, c ∈ h) ∧ (1 ≤ s → cb (rls s o h).2 = cb h) ∧ HSt (s - 1) (rls s o h).2 := by
  intro h
  induction h with
  | nil => intro o; exact ⟨rfl, fun c hc => hc, fun _ => rfl, trivial⟩
  | cons c h ih =>
    intro o
    unfold rls
    by_cases g : s ≤ stg c
    · rw [if_pos g]
      obtain ⟨h1, h2, h3, h4⟩ := ih ((2000 + c) :: o)
      refine ⟨by rw [h1, List.length_cons, List.length_cons]; omega, fun x hx => List.mem_cons_of_mem _ (h2 x hx), fun hs => ?_, h4⟩
      have : c ≠ 40 := fun e => by subst e; have : stg 40 = 0 := by decide
                                   omega
      rw [h3 hs]
      show cb h = (if c = 40 then 1 else 0) + cb h
      rw [if_neg this, Int.zero_add]
    · rw [if_neg g]
      exact ⟨rfl, fun x hx => hx, fun _ => rfl, by show stg c ≤ s - 1; omega⟩
theorem rls_m (h : ∀ c ∈ zH σ, 0 ≤ c ∧ c ≤ 256 ∧ (c = 40 ∨ 1 ≤ stg c)) : ∀ c ∈ (rls s (zO σ) (zH σ)).2, 0 ≤ c ∧ c ≤ 256 ∧ (c = 40 ∨ 1 ≤ stg c) := fun c hc => h c ((rls_p (zH σ) (zO σ)).2.1 c hc)
theorem INV_spt (hi : INV p σ) (hc0 : 0 ≤ c) (hc : c < 256) (h : spt σ c = some σ') : INV (p + 1) σ' := by
  obtain ⟨i1, i2, i3, i4, i5, i6, i7, i8, i9, i10⟩ := hi
  have sb := stg_b c
  unfold spt at h
  split at h
  · rename_i g
    split at h
    · cases h
      exact ⟨by show (((c - 48) :: zO σ).length : Int) + ((zH σ).length : Int) ≤ p + 1; rw [List.length_cons]; omega, i2, i3, by show (0 : Int) ≤ 1; decide, by show (1 : Int) ≤ 3; decide, fun _ => List.cons_ne_nil _ _, i7, Or.inl rfl, i9, i10⟩
    · split at h
      · cases h
      · rename_i gd
        split at h
        · cases h
        · rename_i x o ho
          cases h
          have e : ((zO σ).length : Int) = (o.length : Int) + 1 := by rw [show zO σ = x :: o from ho, List.length_cons]; omega
          exact ⟨by show (((10 * x + (c - 48)) :: o).length : Int) + ((zH σ).length : Int) ≤ p + 1; rw [List.length_cons]; omega, i2, i3, by show 0 ≤ zD σ + 1; omega, by show zD σ + 1 ≤ 3; omega, fun _ => List.cons_ne_nil _ _, i7, Or.inl rfl, i9, i10⟩
  · split at h
    · split at h
      · cases h
        refine ⟨by show ((zO σ).length : Int) + ((256 :: zH σ).length : Int) ≤ p + 1; rw [List.length_cons]; omega, i2, i3, by show (0 : Int) ≤ 0; decide, by show (0 : Int) ≤ 3; decide, fun x => absurd x (by show ¬ (1 : Int) ≤ 0; decide), i7, Or.inr rfl, fun x hx => ?_, ?_⟩
        · rcases List.mem_cons.mp hx with e | e
          · rw [e]; exact ⟨by decide, by decide, Or.inr (by decide)⟩
          · exact i9 x e
        · show (if (256 : Int) = 40 then 1 else 0) + cb (zH σ) = zB σ
          rw [if_neg (by decide), Int.zero_add]; exact i10
      · split at h
        · split at h
          · cases h
            refine ⟨by show ((zO σ).length : Int) + ((40 :: zH σ).length : Int) ≤ p + 1; rw [List.length_cons]; omega, by show 0 ≤ zB σ + 1; omega, by show zB σ + 1 ≤ 4; omega, by show (0 : Int) ≤ 0; decide, by show (0 : Int) ≤ 3; decide, fun x => absurd x (by show ¬ (1 : Int) ≤ 0; decide), fun j j0 j1 => ?_, Or.inr rfl, fun x hx => ?_, ?_⟩
            · have j1' : j ≤ zB σ + 1 := j1
              show updR (zC σ) (zB σ + 1) 0 j = 0 ∨ updR (zC σ) (zB σ + 1) 0 j = 1
              by_cases e : j = zB σ + 1
              · rw [updR_hit e]; exact Or.inl rfl
              · rw [updR_miss e]; exact i7 j j0 (by omega)
            · rcases List.mem_cons.mp hx with e | e
              · rw [e]; exact ⟨by decide, by decide, Or.inl rfl⟩
              · exact i9 x e
            · show (if (40 : Int) = 40 then 1 else 0) + cb (zH σ) = zB σ + 1
              rw [if_pos rfl]; omega
          · cases h
        · split at h
          · cases h
          · cases h
            exact ⟨by show (((1000 + ltr c) :: zO σ).length : Int) + ((zH σ).length : Int) ≤ p + 1; rw [List.length_cons]; omega, i2, i3, by show (0 : Int) ≤ 0; decide, by show (0 : Int) ≤ 3; decide, fun x => absurd x (by show ¬ (1 : Int) ≤ 0; decide), i7, Or.inl rfl, i9, i10⟩
    · split at h
      · split at h
        · cases h
        · rename_i gb
          cases h
          obtain ⟨r1, r2, r3, r4⟩ := rls_p (s := 1) (zH σ) (zO σ)
          have r3' := r3 (by decide)
          have rm := rls_m (s := 1) i9
          generalize (rls 1 (zO σ) (zH σ)).1 = o at *
          generalize (rls 1 (zO σ) (zH σ)).2 = hh at *
          match hh, r1, r2, r3', r4, rm with
          | [], r1, r2, r3', r4, rm =>
            have : (0 : Int) = cb (zH σ) := r3'
            omega
          | y :: hh, r1, r2, r3', r4, rm =>
            have y1 : stg y ≤ 1 - 1 := r4
            have y2 := rm y List.mem_cons_self
            have y3 : y = 40 := by omega
            have r3'' : (if y = 40 then 1 else 0) + cb hh = cb (zH σ) := r3'
            rw [if_pos y3] at r3''
            rw [List.length_cons] at r1
            exact ⟨by show (o.length : Int) + (hh.length : Int) ≤ p + 1; omega, by show 0 ≤ zB σ - 1; omega, by show zB σ - 1 ≤ 4; omega, by show (0 : Int) ≤ 0; decide, by show (0 : Int) ≤ 3; decide, fun x => absurd x (by show ¬ (1 : Int) ≤ 0; decide), fun j j0 j1 => i7 j j0 (by have : j ≤ zB σ - 1 := j1; omega), Or.inl rfl, fun x hx => rm x (List.mem_cons_of_mem _ hx), by show cb hh = zB σ - 1; omega⟩
      · split at h
        · cases h
        · rename_i g41 gs
          have c40 : c ≠ 40 := fun e => by subst e; have : stg 40 = 0 := by decide
                                           omega
          split at h
          · split at h
            · cases h
              obtain ⟨r1, r2, r3, r4⟩ := rls_p (s := 1) (zH σ) (zO σ)
              refine ⟨by show ((rls 1 (zO σ) (zH σ)).1.length : Int) + ((c :: (rls 1 (zO σ) (zH σ)).2).length : Int) ≤ p + 1; rw [List.length_cons]; omega, i2, i3, by show (0 : Int) ≤ 0; decide, by show (0 : Int) ≤ 3; decide, fun x => absurd x (by show ¬ (1 : Int) ≤ 0; decide), fun j j0 j1 => ?_, Or.inr rfl, fun x hx => ?_, ?_⟩
              · have j1' : j ≤ zB σ := j1
                show updR (zC σ) (zB σ) 1 j = 0 ∨ updR (zC σ) (zB σ) 1 j = 1
                by_cases e : j = zB σ
                · rw [updR_hit e]; exact Or.inr rfl
                · rw [updR_miss e]; exact i7 j j0 j1'
              · rcases List.mem_cons.mp hx with e | e
                · rw [e]; exact ⟨hc0, by omega, Or.inr (by omega)⟩
                · exact rls_m i9 x e
              · show (if c = 40 then 1 else 0) + cb (rls 1 (zO σ) (zH σ)).2 = zB σ
                rw [if_neg c40, r3 (by decide), Int.zero_add]; exact i10
            · cases h
          · cases h
            obtain ⟨r1, r2, r3, r4⟩ := rls_p (s := stg c) (zH σ) (zO σ)
            refine ⟨by show ((rls (stg c) (zO σ) (zH σ)).1.length : Int) + ((c :: (rls (stg c) (zO σ) (zH σ)).2).length : Int) ≤ p + 1; rw [List.length_cons]; omega, i2, i3, by show (0 : Int) ≤ 0; decide, by show (0 : Int) ≤ 3; decide, fun x => absurd x (by show ¬ (1 : Int) ≤ 0; decide), i7, Or.inr rfl, fun x hx => ?_, ?_⟩
            · rcases List.mem_cons.mp hx with e | e
              · rw [e]; exact ⟨hc0, by omega, Or.inr (by omega)⟩
              · exact rls_m i9 x e
            · show (if c = 40 then 1 else 0) + cb (rls (stg c) (zO σ) (zH σ)).2 = zB σ
              rw [if_neg c40, r3 (by omega), Int.zero_add]; exact i10
/-! the JDK's texts -/
theorem t_len (h : isT (-10 - a)) (hl : ((txt (-10 - a)).length : Int) < 100) : ev (d + 1) 315 0 [(2, a)] [] S I = some ((0, ((txt (-10 - a)).length : Int)), S, I) := by
  rw [E315_0 h, E316_0 h, if_neg (by decide), E316_14 (by decide)]
  simp only [Option.bind_some, psh_i]
  rw [E315_9, show -100 - (-90 + a) = -10 - a by omega]
  have e : ∀ z : Int, 0 ≤ z → z < 100 → iShr z 0 = z := by
    intro z z0 z1
    unfold iShr
    rw [show (Int32.ofInt 0 &&& 31) = 0 by decide, show Int32.ofInt z >>> (0 : Int32) = Int32.ofInt z from Int32.shiftRight_zero]
    exact w_small (by omega) (by omega)
  rw [e _ (by omega) hl]
theorem iB_pos (h0 : 0 ≤ c) (h1 : c < 128) : iB c = c := by
  unfold iB
  have h : (Int32.ofInt c).toInt = c := w_small (by omega) (by omega)
  have e : (Int32.ofInt c).toInt8 = Int8.ofInt c := by
    apply Int8.toInt_inj.mp
    rw [Int32.toInt_toInt8, h, Int8.toInt_ofInt]
  rw [e, Int8.toInt_toInt32, Int8.toInt_ofInt_of_le (by omega) (by omega)]
theorem iB_neg (h0 : 128 ≤ c) (h1 : c < 256) : iB c < 0 := by
  unfold iB
  have h : (Int32.ofInt c).toInt = c := w_small (by omega) (by omega)
  rw [Int8.toInt_toInt32, Int32.toInt_toInt8, h]
  have e : Int.bmod c (2 ^ 8) = c - 256 := by
    rw [Int.bmod_def]
    have : c % ((2 ^ 8 : Nat) : Int) = c := Int.emod_eq_of_lt (by omega) (by omega)
    rw [this, if_neg (by omega)]
    omega
  rw [e]; omega
theorem t_ix1 {l : List Nat} (hT : isT (-100 - a)) (hl : txt (-100 - a) = l) (c0 : 0 ≤ c) (c1 : c < 256) (hs : ∀ x ∈ l, x < 128) : ∀ (m : Nat) (k : Int), 0 ≤ k → k + m = (l.length : Int) → (l.length : Int) < 100 → ev d 321 7 [(2, a), (0, b), (0, v), (0, (l.length : Int)), (0, iB c), (0, k)] [] S I = some ((0, ix l c m k), S, I) := by
  have hib : -128 ≤ iB c ∧ iB c < 256 := by
    by_cases g : c < 128
    · rw [iB_pos c0 g]; omega
    · have := iB_neg (c := c) (by omega) c1
      unfold iB at *
      have h8 := Int8.le_toInt (Int32.ofInt c).toInt8
      rw [Int8.toInt_toInt32] at *
      omega
  intro m
  induction m with
  | zero =>
    intro k k0 hk hl1
    rw [E321_7 hT, hl, w_small (z := k) (by omega) (by omega), w_small (z := (l.length : Int)) (by omega) (by omega), if_neg (by omega)]
    rfl
  | succ m ih =>
    intro k k0 hk hl1
    have hx : l.getD k.toNat 0 < 128 := by
      have hlt : k.toNat < l.length := by omega
      rw [List.getD_eq_getElem?_getD, List.getElem?_eq_getElem hlt]
      exact hs _ (List.getElem_mem hlt)
    rw [E321_7 hT, hl, w_small (z := k) (by omega) (by omega), w_small (z := (l.length : Int)) (by omega) (by omega), if_pos (by omega), gdR_pos (by omega), w_small (z := ((l.getD k.toNat 0 : Nat) : Int)) (by omega) (by omega), w_small (z := iB c) (by omega) (by omega)]
    unfold ix
    by_cases g : ((l.getD k.toNat 0 : Nat) : Int) = c
    · rw [if_pos (by rw [g, iB_pos c0 (by omega)]), if_pos g]
    · rw [if_neg g, if_neg (fun e => ?_), ih (k + 1) (by omega) (by omega) hl1]
      by_cases h128 : c < 128
      · rw [iB_pos c0 h128] at e; exact g e
      · have := iB_neg (c := c) (by omega) c1; omega
theorem t_ix {l : List Nat} (hT : isT (-10 - a)) (hl : txt (-10 - a) = l) (c0 : 0 ≤ c) (c1 : c < 256) (hs : ∀ x ∈ l, x < 128) (h100 : (l.length : Int) < 100) (h1 : 0 < (l.length : Int)) : ev (d + 4) 312 0 [(2, a), (0, c)] [] S I = some ((0, ix l c l.length 0), S, I) := by
  have hT' : isT (-100 - (-90 + a)) := by rw [show -100 - (-90 + a) = -10 - a by omega]; exact hT
  have hl' : txt (-100 - (-90 + a)) = l := by rw [show -100 - (-90 + a) = -10 - a by omega]; exact hl
  rw [E312_0 hT, E313_0 hT, E314_0 hT, if_neg (by decide), if_pos rfl, E314_18 (Or.inr rfl)]
  simp only [Option.bind_some, psh_i]
  rw [E313_4 hT, if_neg (by decide), t_len (d := d + 1) hT (by rw [hl]; exact h100), hl]
  simp only [Option.bind_some, psh_i]
  rw [E313_17, E319_0, E320_0, w_small (z := c) (by omega) (by omega), if_neg (by omega), if_neg (by omega), E320_16 (Or.inr rfl)]
  simp only [Option.bind_some, psh_i]
  rw [E319_4 hT', hl', if_neg (by decide), w_small (z := (l.length : Int)) (by omega) (by omega), show w 0 = 0 by decide, if_neg (show ¬ (0 : Int) < 0 by decide), if_neg (show ¬ (l.length : Int) < (l.length : Int) by omega), if_pos h1, E321_0, t_ix1 hT' hl' c0 c1 hs l.length 0 (by decide) (by omega) h100]
  simp only [Option.bind_some, psh_i]
  rw [E319_36]
  simp only [Option.bind_some, psh_i]
  rw [E313_20, E313_36]
  simp only [Option.bind_some, psh_i]
  rw [E312_6]
theorem t_at (hT : isT (-10 - a)) (h0 : 0 ≤ k) (h1 : k < ((txt (-10 - a)).length : Int)) (h100 : ((txt (-10 - a)).length : Int) < 100) (hs : (txt (-10 - a)).getD k.toNat 0 < 128) : ev (d + 3) 317 0 [(2, a), (0, k)] [] S I = some ((0, (((txt (-10 - a)).getD k.toNat 0 : Nat) : Int)), S, I) := by
  have e0 : -100 - (-90 + a) = -10 - a := by omega
  have hT' : isT (-100 - (-90 + a)) := by rw [e0]; exact hT
  have ec : iC (iAnd (((txt (-10 - a)).getD k.toNat 0 : Nat) : Int) 255) = (((txt (-10 - a)).getD k.toNat 0 : Nat) : Int) := by
    rw [and255, Int.emod_eq_of_lt (by omega) (by omega)]
    exact iC_small (by omega) (by omega)
  rw [E317_0 hT, E314_0 hT, if_neg (by decide), if_pos rfl, E314_18 (Or.inr rfl)]
  simp only [Option.bind_some, psh_i]
  rw [E317_4 hT, if_neg (by decide), E322_0 hT', e0, E318_0, E324_0, w_small (z := k) (by omega) (by omega), if_neg (by omega), w_small (z := ((txt (-10 - a)).length : Int)) (by omega) (by omega), if_pos h1]
  simp only [Option.bind_some, psh_i]
  rw [E318_8]
  simp only [Option.bind_some, psh_u]
  rw [E322_6 hT' (by rw [e0, w_small (z := k) (by omega) (by omega), ec]; omega), e0, w_small (z := k) (by omega) (by omega), gdR_pos ⟨h0, h1⟩, ec]
  simp only [Option.bind_some, psh_i]
  rw [E317_15 (by omega)]
end ra03
