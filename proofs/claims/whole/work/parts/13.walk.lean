/-! one step of the abstract machine is one of the machine's: Object(), Math.max, Math.min, arraycopy; and all steps together -/
theorem lkm_ok {c i : Nat} {q : Nat × Nat × Nat} (h : lkm c i = some q) (h20 : q.1 < 20) : (q.1 < 3 ∨ 10 ≤ q.1 → mW ((c, i), q) ∈ GW) ∧ (3 ≤ q.1 ∧ q.1 < 10 → mW ((c, i), q) ∈ NW) ∧ (10 ≤ q.1 ∨ (q.1 < 6 ∧ mK q.2.1 = q.1 % 3 ∧ q.2.1 < 325)) := by
  have h1 := List.all_eq_true.mp lml_ok _ (find_in h)
  simp only [mOk, Bool.or_eq_true, Bool.and_eq_true, decide_eq_true_eq] at h1
  have h2 := h1.resolve_left (by omega)
  obtain ⟨⟨h2, h3⟩, h4⟩ := h2
  refine ⟨fun hq => ?_, fun hq => ?_, ?_⟩
  · rw [if_pos hq] at h3
    exact gw_at h2 h3
  · rw [if_neg (by omega)] at h3
    exact nw_at h2 h3
  · rcases h4 with h4 | h4
    · exact Or.inl h4
    · exact Or.inr ⟨h4.1.1, h4.1.2, h4.2⟩
theorem w_map_cat (X : XX) (r : List AV) (n : Nat) (h : (r.map cat).sum ≤ n) : (((r.map (cv X)).map fun v => v.category)).sum ≤ n := by
  rw [cv_cats]
  exact h
section GC
variable {X : XX} {mi d : Nat} {p : Program} {l : Launch} {e : Env} {R : Room} {s : State} {m : MethodId} {args : Array Value} {below : List Frame} {meth : Method} {c : Code} {Q : State → Prop}
variable {pc pc' ln : Nat} {al al' st st' : List AV} {S S' : SS} {I I' : II}
theorem go_acpy (hC : Ctx X mi d p R s m args meth c) {idx : Nat} (hlink : (Cond.methodLink (cN (mC mi)) idx arraycopyName).before args s = true) (hd : decode (mB mi) pc = .ok (.invokestatic idx, 3)) (h : acpy pc al st S I = some (.inl (pc', al', st', S', I'))) : GO X mi p l e R s m args below meth c Q pc al st S I pc' al' st' S' I' := by
  obtain ⟨hx, hb, hml, hown, hts, hin, hr, hlk, hK, hH, hf, hlo⟩ := hC
  unfold acpy at h
  split at h
  · rename_i n dp b sp a r
    have hg := gd_some h
    clear h
    obtain ⟨⟨hKa, hKb, h1, h2, h3, h4, h5, h6⟩, h⟩ := hg
    obtain ⟨rfl, rfl, rfl, rfl, rfl⟩ := nx_some h
    refine .write rfl rfl fun H locs ls cells slots hR hS hl kk => ?_
    obtain ⟨qa, ha⟩ := rel_at (X := X) (I := I) hKa (by omega)
    rw [ce_int hKa.2.2 (Or.inl rfl)] at ha
    obtain ⟨qb, hb0⟩ := rel_at (X := X) (I := I) hKb (by omega)
    have hb' := hb0
    rw [ce_int hKb.2.2 (Or.inl rfl)] at hb'
    rw [List.map_cons, List.map_cons, List.map_cons, List.map_cons, List.map_cons, cv_i, cv_i, cv_i, cv_r, cv_r, crO_cell X hKa.1, crO_cell X hKb.1]
    have nn : ∀ z : Int, 0 ≤ w z → (Int32.ofInt z).toInt = ((Int32.ofInt z).toNatClampNeg : Int) := fun z hz => by
      show w z = ((w z).toNat : Int)
      omega
    have f1 : ¬ Int32.ofInt sp < 0 := by rw [w_lt0]; omega
    have f2 : ¬ Int32.ofInt dp < 0 := by rw [w_lt0]; omega
    have f3 : ¬ Int32.ofInt n < 0 := by rw [w_lt0]; omega
    have f4 : (Int32.ofInt sp).toNatClampNeg + (Int32.ofInt n).toNatClampNeg ≤ (sH S a).2.toNat := by rw [w_clamp, w_clamp]; omega
    have f5 : (Int32.ofInt dp).toNatClampNeg + (Int32.ofInt n).toNatClampNeg ≤ (sH S b).2.toNat := by rw [w_clamp, w_clamp]; omega
    intro T hT XX
    have hc0 : H[xB X + a.toNat]? = some (vp_cell (xC X 20) ((sH S a).2.toNat, .inl (fun i => Int32.ofInt (I a i)))) := hR.2.1 qa _ ha
    have hc1 : H[xB X + b.toNat]? = some (vp_cell (xC X 20) ((sH S b).2.toNat, .inl (fun i => Int32.ofInt (I b i)))) := hR.2.1 qb _ hb'
    obtain ⟨-, k0, hk0, cm0, hkk0⟩ := (hK.1.2 0 _ rfl).1 (sH S a).2.toNat (fun j => .int (Int32.ofInt (I a j)))
    obtain ⟨-, k1, hk1, cm1, hkk1⟩ := (hK.1.2 0 _ rfl).1 (sH S b).2.toNat (fun j => .int (Int32.ofInt (I b j)))
    obtain ⟨vm', X', step⟩ := XX.arraycopy hx hown hlink (hts _ (gw_at (i := 502) (by decide +kernel) (by decide +kernel))) (hts _ (gw_at (x := .static arraycopyName) (i := 501) (by decide +kernel) (by decide +kernel))) (hts _ (gw_at (x := .initialized "java/lang/System") (i := 17) (by decide +kernel) (by decide +kernel))) (src := xB X + a.toNat) (dst := xB X + b.toNat) (cs := vp_cell (xC X 20) ((sH S a).2.toNat, .inl (fun i => Int32.ofInt (I a i)))) (cd := vp_cell (xC X 20) ((sH S b).2.toNat, .inl (fun i => Int32.ofInt (I b i)))) (srcPos := Int32.ofInt sp) (destPos := Int32.ofInt dp) (n := Int32.ofInt n) (by rw [hT]; exact hc0) (by rw [hT]; exact hc1)
      (fun _ h => by cases h) (fun _ h => by cases h) (fun h => by cases h) (fun h => by cases h) hk0 hk1 hkk0 hkk1 (by simp [refKind]) f1 f2 f3
      (by rw [nn sp h1, nn n h3]; show ¬ _ > ((arrV _ _ _).slots.size : Int); rw [arrV_size]; omega)
      (by rw [nn dp h2, nn n h3]; show ¬ _ > ((arrV _ _ _).slots.size : Int); rw [arrV_size]; omega)
      (fun vm₁ _ i hi => by
        have e : (vp_cell (xC X 20) ((sH S a).2.toNat, .inl (fun i => Int32.ofInt (I a i)))).slots.getD ((Int32.ofInt sp).toNatClampNeg + i) .null = .int (Int32.ofInt (I a ((Int32.ofInt sp).toNatClampNeg + i : Nat))) := by
          show (arrV _ _ _).slots.getD _ _ = _
          rw [Array.getD_eq_getD_getElem?, arrV_read _ _ (by omega)]
          rfl
        refine ⟨?_, ?_⟩
        · rw [e]
          rfl
        · rw [e]
          exact trivial)
      (g := F0 m pc ls (.int (Int32.ofInt n) :: .int (Int32.ofInt dp) :: .ref (xB X + b.toNat) :: .int (Int32.ofInt sp) :: .ref (xB X + a.toNat) :: r.map (cv X))) rfl (by rw [hml]; exact hl.1) (rest := r.map (cv X)) rfl (by rw [hb]; exact hd) (by omega) (by
        show 2 * 0 + _ + _ ≤ _
        have := w_map_cat X r 8 h6
        have h7 : nativeFrameWords "java/lang/System" "arraycopy" 5 ≤ 60 := by decide
        omega)
    have e1 : copied (vp_cell (xC X 20) ((sH S a).2.toNat, .inl (fun i => Int32.ofInt (I a i)))) (vp_cell (xC X 20) ((sH S b).2.toNat, .inl (fun i => Int32.ofInt (I b i)))) (Int32.ofInt sp) (Int32.ofInt dp) (Int32.ofInt n) = vp_cell (xC X 20) ((sH S b).2.toNat, .inl (va_cpy (fun i : Nat => Int32.ofInt (I a i)) (fun i : Nat => Int32.ofInt (I b i)) (Int32.ofInt sp).toNatClampNeg (Int32.ofInt dp).toNatClampNeg (Int32.ofInt n).toNatClampNeg)) := va_copied (n1 := (sH S b).2.toNat) (dp := (Int32.ofInt dp).toNatClampNeg) (fun z => .int z) (xC X 20) (xC X 20) (fun i : Nat => Int32.ofInt (I a i)) (fun i : Nat => Int32.ofInt (I b i)) f4
    rw [e1] at X' step
    generalize hcell : vp_cell (xC X 20) ((sH S b).2.toNat, .inl (va_cpy (fun i : Nat => Int32.ofInt (I a i)) (fun i : Nat => Int32.ofInt (I b i)) (Int32.ofInt sp).toNatClampNeg (Int32.ofInt dp).toNatClampNeg (Int32.ofInt n).toNatClampNeg)) = cell at X' step
    have hlt : xB X + b.toNat < H.size := (Array.getElem?_eq_some_iff.mp hc1).1
    have hheap : ((T.setVm vm').setCell (xB X + b.toNat) cell).heap = H.setIfInBounds (xB X + b.toNat) cell := by rw [← hT]; rfl
    have oq : ∀ q : Nat, q ≠ xB X + b.toNat → (H.setIfInBounds (xB X + b.toNat) cell)[q]? = H[q]? := fun q hq => by simp [Array.getElem?_setIfInBounds, Ne.symm hq]
    have hat : (H.setIfInBounds (xB X + b.toNat) cell)[xB X + b.toNat]? = some cell := by simp [Array.getElem?_setIfInBounds, hlt]
    have hA : aX X (xB X + b.toNat) := Nat.le_add_right _ _
    obtain ⟨t, a1, b1⟩ := kk _ _ (rel_put (I' := fun x k => if x = b ∧ w dp ≤ k ∧ k < w dp + w n then I a (w sp + (k - w dp)) else I x k) (e1 := ce X S (fun x k => if x = b ∧ w dp ≤ k ∧ k < w dp + w n then I a (w sp + (k - w dp)) else I x k) b) hR hKb (by omega) hb0 (H1 := H.setIfInBounds (xB X + b.toNat) cell) (by
        rw [ce_int (I := fun x k => if x = b ∧ w dp ≤ k ∧ k < w dp + w n then I a (w sp + (k - w dp)) else I x k) hKb.2.2 (Or.inl rfl)]
        show (H.setIfInBounds _ cell)[_]? = some (vp_cell _ _)
        rw [hat, ← hcell]
        congr 3
        congr 1
        funext k
        unfold va_cpy
        rw [w_clamp, w_clamp, w_clamp]
        by_cases hk : (w dp).toNat ≤ k ∧ k < (w dp).toNat + (w n).toNat
        · rw [if_pos hk, if_pos (by omega)]
          exact congrArg (fun z => Int32.ofInt (I a z)) (by omega)
        · rw [if_neg hk, if_neg (by omega)]) (by simp) oq rfl rfl rfl (fun j hj => by
        have h1 : ∀ i, (fun x k => if x = b ∧ w dp ≤ k ∧ k < w dp + w n then I a (w sp + (k - w dp)) else I x k : II) j i = I j i := fun i => if_neg (fun z => hj z.1)
        unfold ce fV
        simp only [h1]) (fun i => if_neg (fun z => by have := hKb.1; omega))) ⟨by simp; exact hS.1, fun q g1 g2 => by
        rw [oq q (fun e => g2 (by rw [e]; exact hA))]
        exact hS.2.1 q g1 g2, fun q hq => by
        rcases List.mem_append.mp hq with h | h
        · exact hS.2.2 q h
        · obtain ⟨z, -, hz⟩ := List.mem_map.mp h
          rw [← hz]
          exact hA⟩ _ hheap X'
    exact ⟨t, step t a1, b1⟩
  · cases h
/-- a call that is walked where it stands -/
theorem go_call (hC : Ctx X mi d p R s m args meth c) {vk idx : Nat} {i : Instr} (hi : (vk = 0 ∧ i = .invokestatic idx) ∨ (vk = 1 ∧ i = .invokevirtual idx) ∨ (vk = 2 ∧ i = .invokespecial idx)) (hd : decode (mB mi) pc = .ok (i, ln)) (h : gd (ln = 3) (call vk mi idx pc al st S I) = some (.inl (pc', al', st', S', I'))) : GO X mi p l e R s m args below meth c Q pc al st S I pc' al' st' S' I' := by
  have hC' := hC
  obtain ⟨hx, hb, hml, hown, hts, hin, hr, hlk, hK, hH, hf, hlo⟩ := hC
  have hg := gd_some h
  clear h
  obtain ⟨hln, h⟩ := hg
  subst hln
  unfold call at h
  split at h
  · rename_i q hq
    split at h
    · rename_i h10
      have hw := (lkm_ok hq (by omega)).1 (Or.inr (by omega))
      unfold mW at hw
      rw [if_pos (show q.1 = 10 from h10)] at hw
      split at h
      · rename_i a r
        split at h
        · rename_i h2
          obtain ⟨rfl, ha, h8⟩ := h2
          obtain ⟨rfl, rfl, rfl, rfl, rfl⟩ := nx_some h
          have hii : i = .invokespecial idx := by
            rcases hi with z | z | z <;> first | exact z.2 | (exact absurd z.1 (by decide))
          subst hii
          refine .pure fun H locs ls cells slots hl kk => ?_
          rw [List.map_cons, cv_ref X ha]
          refine W.objInit hx hb hown (hts _ hw) (hts _ (gw_at (x := .instanceMethod objectInit) (i := 32) (by decide +kernel) (by decide +kernel))) (hts _ (gw_tbl (List.mem_of_getElem? (i := 33) rfl) (by decide +kernel))) rfl (by rw [hml]; exact hl.1) rfl hd (by omega) ?_ (kk ls hl)
          show 2 * 0 + _ + 12 ≤ _
          have := w_map_cat X r 8 h8
          omega
        · cases h
      · cases h
    split at h
    · rename_i h11
      have hw := (lkm_ok hq (by omega)).1 (Or.inr (by omega))
      unfold mW at hw
      rw [if_neg (show ¬ q.1 = 10 by omega), if_pos (show q.1 = 11 from h11)] at hw
      split at h
      · rename_i h2
        subst h2
        have hii : i = .invokestatic idx := by
          rcases hi with z | z | z <;> first | exact z.2 | (exact absurd z.1 (by decide))
        subst hii
        exact go_acpy hC' (hts _ hw) hd h
      · cases h
    split at h
    · rename_i h12
      have hw := (lkm_ok hq (by omega)).1 (Or.inr (by omega))
      unfold mW at hw
      rw [if_neg (show ¬ q.1 = 10 by omega), if_neg (show ¬ q.1 = 11 by omega), if_pos (show q.1 = 12 from h12)] at hw
      split at h
      · rename_i y x r
        split at h
        · rename_i h2
          obtain ⟨rfl, h8⟩ := h2
          obtain ⟨rfl, rfl, rfl, rfl, rfl⟩ := nx_some h
          have hii : i = .invokestatic idx := by
            rcases hi with z | z | z <;> first | exact z.2 | (exact absurd z.1 (by decide))
          subst hii
          refine ⟨0, 0, rfl, rfl, fun H locs ls cells slots hR hS hl hc1 hc2 kk => ?_⟩
          refine va_mmax hx hb (by rw [hml]; exact hl.1.symm) hown (hts _ hw) (hts _ (gw_at (x := .static Lib.Math.max.name) (i := 426) (by decide +kernel) (by decide +kernel))) (hts _ (gw_at (x := .initialized "java/lang/Math") (i := 11) (by decide +kernel) (by decide +kernel))) (hts _ (gw_tbl (List.mem_of_getElem? (i := 427) rfl) (by decide +kernel))) (by omega) ?_ hc1 hc2 hd ?_
          · have := w_map_cat X r 8 h8
            omega
          · have h1 := kk H locs ls hR hS hl
            rw [List.map_cons, cv_i] at h1
            have e : (if Int32.ofInt x < Int32.ofInt y then Int32.ofInt y else Int32.ofInt x) = Int32.ofInt (if w x < w y then w y else w x) := by
              by_cases hz : w x < w y
              · rw [if_pos hz, if_pos ((w_lt x y).mpr hz), of_w]
              · rw [if_neg hz, if_neg (fun z => hz ((w_lt x y).mp z)), of_w]
            rw [e]
            exact h1
        · cases h
      · cases h
    split at h
    · rename_i h13
      have hw := (lkm_ok hq (by omega)).1 (Or.inr (by omega))
      unfold mW at hw
      rw [if_neg (show ¬ q.1 = 10 by omega), if_neg (show ¬ q.1 = 11 by omega), if_neg (show ¬ q.1 = 12 by omega), if_pos (show q.1 = 13 from h13)] at hw
      split at h
      · rename_i y x r
        split at h
        · rename_i h2
          obtain ⟨rfl, h8⟩ := h2
          obtain ⟨rfl, rfl, rfl, rfl, rfl⟩ := nx_some h
          have hii : i = .invokestatic idx := by
            rcases hi with z | z | z <;> first | exact z.2 | (exact absurd z.1 (by decide))
          subst hii
          refine ⟨0, 0, rfl, rfl, fun H locs ls cells slots hR hS hl hc1 hc2 kk => ?_⟩
          refine va_mmin hx hb (by rw [hml]; exact hl.1.symm) hown (hts _ hw) (hts _ (gw_at (x := .static Lib.Math.min.name) (i := 369) (by decide +kernel) (by decide +kernel))) (hts _ (gw_at (x := .initialized "java/lang/Math") (i := 11) (by decide +kernel) (by decide +kernel))) (hts _ (gw_tbl (List.mem_of_getElem? (i := 370) rfl) (by decide +kernel))) (by omega) ?_ hc1 hc2 hd ?_
          · have := w_map_cat X r 8 h8
            omega
          · have h1 := kk H locs ls hR hS hl
            rw [List.map_cons, cv_i] at h1
            have e : (if Int32.ofInt y < Int32.ofInt x then Int32.ofInt y else Int32.ofInt x) = Int32.ofInt (if w y < w x then w y else w x) := by
              by_cases hz : w y < w x
              · rw [if_pos hz, if_pos ((w_lt y x).mpr hz), of_w]
              · rw [if_neg hz, if_neg (fun z => hz ((w_lt y x).mp z)), of_w]
            rw [e]
            exact h1
        · cases h
      · cases h
    split at h
    · split at h
      · split at h
        · cases h
        · cases h
      · split at h
        · split at h
          · cases h
          · cases h
        · cases h
    · cases h
  · cases h
theorem lki_ok {c i : Nat} {q : Int × Nat} (h : lki c i = some q) : Cond.constant (cN c) i (Int32.ofInt q.1) ∈ GW := by
  have h1 := List.all_eq_true.mp lil_ok _ (find_in h)
  simp only [iOk, Bool.and_eq_true] at h1
  exact gw_at h1.1 h1.2
theorem lkl_ok {c i : Nat} {q : Int × Nat} (h : lkl c i = some q) : Cond.constantLong (cN c) i (Int64.ofInt q.1) ∈ GW := by
  have h1 := List.all_eq_true.mp lll_ok _ (find_in h)
  simp only [lOk, Bool.and_eq_true] at h1
  exact gw_at h1.1 h1.2
theorem lks_ok {c i : Nat} {q : Nat × Nat} (h : lks c i = some q) : q.1 < 12 ∧ ((c, i), q) ∈ lsl := by
  have hm : ((c, i), q) ∈ lsl := find_in h
  have h1 := List.all_eq_true.mp lsl_ok _ hm
  simp only [sOk, Bool.and_eq_true, decide_eq_true_eq] at h1
  exact ⟨h1.2, hm⟩
theorem go_ldc (hC : Ctx X mi d p R s m args meth c) {idx : Nat} (hd : decode (mB mi) pc = .ok (.ldc idx, ln)) (h : gd (ln = 2) (match lki (mC mi) idx with | some q => nx (pc + 2) al ((0, q.1) :: st) S I | none => match lks (mC mi) idx with | some q => nx (pc + 2) al ((2, -10 - (q.1 : Int)) :: st) S I | none => none) = some (.inl (pc', al', st', S', I'))) : GO X mi p l e R s m args below meth c Q pc al st S I pc' al' st' S' I' := by
  obtain ⟨hx, hb, hml, hown, hts, hin, hr, hlk, hK, hH, hf, hlo⟩ := hC
  have hg := gd_some h
  clear h
  obtain ⟨hln, h⟩ := hg
  subst hln
  split at h
  · rename_i q hq
    obtain ⟨rfl, rfl, rfl, rfl, rfl⟩ := nx_some h
    exact .pure fun H locs ls cells slots hl kk => lv_ldc hx hb hown (hts _ (lki_ok hq)) hd (kk ls hl)
  · split at h
    · rename_i q hq
      obtain ⟨rfl, rfl, rfl, rfl, rfl⟩ := nx_some h
      obtain ⟨h1, h2⟩ := lks_ok hq
      refine .pure fun H locs ls cells slots hl kk => ?_
      have k1 := kk ls hl
      rw [List.map_cons, cv_r, crO_txt X (z := -10 - (q.1 : Int)) (by omega)] at k1
      have h3 := hK.2.2.1 _ h2
      have e : (-10 - (-10 - (q.1 : Int))).toNat = q.1 := by omega
      rw [e] at k1
      exact va_ldcS hx hb hown h3 hd k1
    · cases h
theorem va_ldcSw {p : Program} {l : Launch} {e : Env} {R : Room} {s : State} {m : MethodId} {args : Array Value} {below : List Frame} {meth : Method} {c : Code} {cc : ByteArray} {pc : Nat} {H : Heap} {locs : List Loc} {cells slots : Nat} {Q : State → Prop} {ls : Array Slot} {rest : List Value} (hexec : p.tables.exec = Jvm.exec) (hb : c.code = cc) {own tx : String} {index q : Nat} (hown : s.vm.findClass own = some m.cls) (hZ : vk_R own index tx q s) (hdg : decode cc pc = .ok (.ldc_w index, 3))
    (k : W p l e R s m args below meth c H locs cells slots Q (F0 m (pc + 3) ls (.ref q :: rest))) : W p l e R s m args below meth c H locs cells slots Q (F0 m pc ls rest) := by
  intro T hT X
  obtain ⟨t, a1, b1⟩ := k T hT X
  exact ⟨t, X.ldcStringW hexec hown (text := tx) (a := q) hZ.1 hZ.2 (g := F0 m pc ls rest) rfl (by rw [hb]; exact hdg) t a1, b1⟩
theorem go_ldcw (hC : Ctx X mi d p R s m args meth c) {idx : Nat} (hd : decode (mB mi) pc = .ok (.ldc_w idx, ln)) (h : gd (ln = 3) (match lki (mC mi) idx with | some q => nx (pc + 3) al ((0, q.1) :: st) S I | none => match lks (mC mi) idx with | some q => nx (pc + 3) al ((2, -10 - (q.1 : Int)) :: st) S I | none => none) = some (.inl (pc', al', st', S', I'))) : GO X mi p l e R s m args below meth c Q pc al st S I pc' al' st' S' I' := by
  obtain ⟨hx, hb, hml, hown, hts, hin, hr, hlk, hK, hH, hf, hlo⟩ := hC
  have hg := gd_some h
  clear h
  obtain ⟨hln, h⟩ := hg
  subst hln
  split at h
  · rename_i q hq
    obtain ⟨rfl, rfl, rfl, rfl, rfl⟩ := nx_some h
    exact .pure fun H locs ls cells slots hl kk => lv_ldcw hx hb hown (hts _ (lki_ok hq)) hd (kk ls hl)
  · split at h
    · rename_i q hq
      obtain ⟨rfl, rfl, rfl, rfl, rfl⟩ := nx_some h
      obtain ⟨h1, h2⟩ := lks_ok hq
      refine .pure fun H locs ls cells slots hl kk => ?_
      have k1 := kk ls hl
      rw [List.map_cons, cv_r, crO_txt X (z := -10 - (q.1 : Int)) (by omega)] at k1
      have h3 := hK.2.2.1 _ h2
      have e : (-10 - (-10 - (q.1 : Int))).toNat = q.1 := by omega
      rw [e] at k1
      exact va_ldcSw hx hb hown h3 hd k1
    · cases h
theorem go_ldc2 (hC : Ctx X mi d p R s m args meth c) {idx : Nat} (hd : decode (mB mi) pc = .ok (.ldc2_w idx, ln)) (h : gd (ln = 3) (match lkl (mC mi) idx with | some q => nx (pc + 3) al ((1, q.1) :: st) S I | none => none) = some (.inl (pc', al', st', S', I'))) : GO X mi p l e R s m args below meth c Q pc al st S I pc' al' st' S' I' := by
  obtain ⟨hx, hb, hml, hown, hts, hin, hr, hlk, hK, hH, hf, hlo⟩ := hC
  have hg := gd_some h
  clear h
  obtain ⟨hln, h⟩ := hg
  subst hln
  split at h
  · rename_i q hq
    obtain ⟨rfl, rfl, rfl, rfl, rfl⟩ := nx_some h
    exact .pure fun H locs ls cells slots hl kk => lv_ldc2 hx hb hown (hts _ (lkl_ok hq)) hd (kk ls hl)
  · cases h
theorem ret_nx {mi : Nat} (h : retI mi st S I = some (.inl (pc', al', st', S', I'))) : False := by
  unfold retI at h
  split at h
  · split at h
    · cases h
    · split at h
      · cases h
      · split at h <;> cases h
  · cases h
/-- every step -/
theorem go_st (hC : Ctx X mi d p R s m args meth c) (h : st1 mi pc al st S I = some (.inl (pc', al', st', S', I'))) : GO X mi p l e R s m args below meth c Q pc al st S I pc' al' st' S' I' := by
  unfold st1 at h
  split at h
  · rename_i q hd
    obtain ⟨i, ln⟩ := q
    cases i with
    | aaload => exact go_aaload hC hd h
    | aastore => exact go_aastore hC hd h
    | aconst_null => exact go_null hC hd h
    | aload n => exact go_aload hC hd h
    | aload_n n => exact go_aload_n hC hd h
    | anewarray n => exact go_anewarray hC hd h
    | areturn => exact absurd h (fun h => by
        obtain ⟨-, h⟩ := gd_some h
        split at h
        · split at h <;> cases h
        · cases h)
    | arraylength => exact go_alen hC hd h
    | astore n => exact go_astore hC hd h
    | astore_n n => exact go_astore_n hC hd h
    | baload => exact go_baload hC hd h
    | bastore => exact go_bastore hC hd h
    | bipush z => exact go_bipush hC hd h
    | caload => exact go_caload hC hd h
    | castore => exact go_castore hC hd h
    | dup => exact go_dup hC hd h
    | dup2 => exact go_dup2 hC hd h
    | getfield n => exact go_getfield hC hd h
    | getstatic n => exact go_getstatic hC hd h
    | goto o => exact go_goto hC hd h
    | i2b => exact go_i2b hC hd h
    | i2c => exact go_i2c hC hd h
    | i2l => exact go_i2l hC hd h
    | i2s => exact go_i2s hC hd h
    | iadd => exact go_iadd hC hd h
    | iaload => exact go_iaload hC hd h
    | iand => exact go_iand hC hd h
    | iastore => exact go_iastore hC hd h
    | iconst z => exact go_iconst hC hd h
    | idiv => exact go_idiv hC hd h
    | if_icmp cc o => exact go_icmp hC hd h
    | ifCond cc o => exact go_ifc hC hd h
    | ifnonnull o => exact go_ifnonnull hC hd h
    | ifnull o => exact go_ifnull hC hd h
    | iinc n z => exact go_iinc hC hd h
    | iload n => exact go_iload hC hd h
    | iload_n n => exact go_iload_n hC hd h
    | imul => exact go_imul hC hd h
    | ineg => exact go_ineg hC hd h
    | invokespecial n => exact go_call hC (vk := 2) (Or.inr (Or.inr ⟨rfl, rfl⟩)) hd h
    | invokestatic n => exact go_call hC (vk := 0) (Or.inl ⟨rfl, rfl⟩) hd h
    | invokevirtual n => exact go_call hC (vk := 1) (Or.inr (Or.inl ⟨rfl, rfl⟩)) hd h
    | ior => exact go_ior hC hd h
    | irem => exact go_irem hC hd h
    | ireturn => exact absurd h (fun h => ret_nx (gd_some h).2)
    | ishl => exact go_ishl hC hd h
    | ishr => exact go_ishr hC hd h
    | istore n => exact go_istore hC hd h
    | istore_n n => exact go_istore_n hC hd h
    | isub => exact go_isub hC hd h
    | iushr => exact go_iushr hC hd h
    | ixor => exact go_ixor hC hd h
    | laload => exact go_laload hC hd h
    | lastore => exact go_lastore hC hd h
    | lcmp => exact go_lcmp hC hd h
    | lconst z => exact go_lconst hC hd h
    | ldc n => exact go_ldc hC hd h
    | ldc_w n => exact go_ldcw hC hd h
    | ldc2_w n => exact go_ldc2 hC hd h
    | lload n => exact go_lload hC hd h
    | lload_n n => exact go_lload_n hC hd h
    | lookupswitch dd ps => exact go_lsw hC hd h
    | lreturn => exact absurd h (fun h => by
        obtain ⟨-, h⟩ := gd_some h
        split at h
        · split at h <;> cases h
        · cases h)
    | lstore n => exact go_lstore hC hd h
    | lstore_n n => exact go_lstore_n hC hd h
    | newarray t => exact go_newarray hC hd h
    | new n => exact go_new hC hd h
    | pop => exact go_pop hC hd h
    | putfield n => exact go_putfield hC hd h
    | return_ => exact absurd h (fun h => by
        obtain ⟨-, h⟩ := gd_some h
        split at h
        · split at h <;> cases h
        · cases h)
    | sipush z => exact go_sipush hC hd h
    | tableswitch dd lo hi os => exact go_tsw hC hd h
    | _ => cases h
  · cases h
end GC
