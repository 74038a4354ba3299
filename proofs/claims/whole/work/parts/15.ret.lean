/-! returns -/
section GR
variable {X : XX} {mi d : Nat} {p : Program} {l : Launch} {e : Env} {R : Room} {s : State} {m : MethodId} {args : Array Value} {below : List Frame} {meth : Method} {c : Code} {Q : State → Prop}
variable {pc pc' ln : Nat} {al al' st st' : List AV} {S S' : SS} {I I' : II}
theorem nar_byte {v : Int} (h0 : 0 ≤ v) (h1 : v < 128) : narrow .byte (.int (Int32.ofInt v)) = .int (Int32.ofInt v) := by
  have h2 : (Int32.ofInt v).toInt = v := w_small (by omega) (by omega)
  show Value.int _ = _
  have h3 := lg_i2b_small (v := Int32.ofInt v) (by rw [h2]; omega) (by rw [h2]; omega)
  exact congrArg Value.int h3
theorem go_ret (hC : Ctx X mi d p R s m args meth c) {v : AV} (h : st1 mi pc al st S I = some (.inr (.inl (v, S', I')))) : S = S' ∧ I = I' ∧ ∀ (H : Heap) (locs : List Loc) (ls : Array Slot) (cells slots : Nat), Rel X S I H → va_S (aX X) s.heap H locs → W p l e R s m args below meth c H locs cells slots (MQ below (QM X v S I) args s cells slots (aX X)) (F0 m pc ls (st.map (cv X))) := by
  have hC' := hC
  obtain ⟨hx, hb, hml, hown, hts, hin, hr, hlk, hK, hH, hf, hlo⟩ := hC
  have fin : ∀ (H : Heap) (locs : List Loc), Rel X S I H → va_S (aX X) s.heap H locs → ∀ (v : AV) (o : Option Value), o = rv X v → ∀ t : State, t.heap = H → s.WarmedH t.vm → QM X v S I args s (.returned o) t := fun H locs hR hS v o ho t ht _ => by
    subst ht
    exact ⟨by rw [ho], hR, hS.1, hS.2.1⟩
  unfold st1 at h
  split at h
  · rename_i q hd
    obtain ⟨i, ln⟩ := q
    cases i with
    | ireturn =>
      have hg := gd_some h
      clear h
      obtain ⟨hln, h⟩ := hg
      change ln = 1 at hln
      subst hln
      unfold retI at h
      split at h
      · rename_i z
        split at h
        · rename_i h1
          simp only [Option.some.injEq, Sum.inr.injEq, Sum.inl.injEq, Prod.mk.injEq] at h
          obtain ⟨rfl, h2, rfl⟩ := h
          refine ⟨h2, rfl, fun H locs ls cells slots hR hS => W.iret hx hb (by rw [hr, h1]) (fin H locs hR hS (0, z) _ rfl) hS.2.2 hd hlk⟩
        · split at h
          · rename_i h1
            simp only [Option.some.injEq, Sum.inr.injEq, Sum.inl.injEq, Prod.mk.injEq] at h
            obtain ⟨rfl, h2, rfl⟩ := h
            refine ⟨h2, rfl, fun H locs ls cells slots hR hS => W.zret (ty := .boolean) hx hb (by rw [hr, h1.1]) (by rcases h1.2 with rfl | rfl <;> rfl) (fin H locs hR hS (0, z) _ rfl) hS.2.2 hd hlk⟩
          · split at h
            · rename_i h1
              simp only [Option.some.injEq, Sum.inr.injEq, Sum.inl.injEq, Prod.mk.injEq] at h
              obtain ⟨rfl, h2, rfl⟩ := h
              obtain ⟨h1, h3, h4⟩ := h1
              rcases h1 with h1 | h1
              · exact ⟨h2, rfl, fun H locs ls cells slots hR hS => W.zret (ty := .byte) hx hb (by rw [hr, h1]) (nar_byte h3 h4) (fin H locs hR hS (0, z) _ rfl) hS.2.2 hd hlk⟩
              · exact ⟨h2, rfl, fun H locs ls cells slots hR hS => W.zret (ty := .char) hx hb (by rw [hr, h1]) (nar_char h3 (by omega)) (fin H locs hR hS (0, z) _ rfl) hS.2.2 hd hlk⟩
            · cases h
      · cases h
    | lreturn =>
      have hg := gd_some h
      clear h
      obtain ⟨hln, h⟩ := hg
      change ln = 1 at hln
      subst hln
      split at h
      · rename_i z
        split at h
        · rename_i h1
          simp only [Option.some.injEq, Sum.inr.injEq, Sum.inl.injEq, Prod.mk.injEq] at h
          obtain ⟨rfl, h2, rfl⟩ := h
          exact ⟨h2, rfl, fun H locs ls cells slots hR hS => W.lret hx hb (by rw [hr, h1]) (fin H locs hR hS (1, z) _ rfl) hS.2.2 hd hlk⟩
        · cases h
      · cases h
    | areturn =>
      have hg := gd_some h
      clear h
      obtain ⟨hln, h⟩ := hg
      change ln = 1 at hln
      subst hln
      split at h
      · rename_i z
        have hv : cv X (2, z) = .null ∨ ∃ a, cv X (2, z) = .ref a := by
          rw [cv_r]
          cases crO X z with
          | none => exact Or.inl rfl
          | some a => exact Or.inr ⟨a, rfl⟩
        split at h
        · rename_i nm h1
          simp only [Option.some.injEq, Sum.inr.injEq, Sum.inl.injEq, Prod.mk.injEq] at h
          obtain ⟨rfl, h2, rfl⟩ := h
          exact ⟨h2, rfl, fun H locs ls cells slots hR hS => W.aret hx hb (by rw [hr, h1]) (Or.inl ⟨nm, rfl⟩) hv (fin H locs hR hS (2, z) _ rfl) hS.2.2 hd hlk⟩
        · rename_i h1
          simp only [Option.some.injEq, Sum.inr.injEq, Sum.inl.injEq, Prod.mk.injEq] at h
          obtain ⟨rfl, h2, rfl⟩ := h
          exact ⟨h2, rfl, fun H locs ls cells slots hR hS => W.aret hx hb (by rw [hr, h1]) (Or.inr ⟨.int, rfl⟩) hv (fin H locs hR hS (2, z) _ rfl) hS.2.2 hd hlk⟩
        · cases h
      · cases h
    | return_ =>
      have hg := gd_some h
      clear h
      obtain ⟨hln, h⟩ := hg
      change ln = 1 at hln
      subst hln
      split at h
      · split at h
        · rename_i h1
          simp only [Option.some.injEq, Sum.inr.injEq, Sum.inl.injEq, Prod.mk.injEq] at h
          obtain ⟨rfl, h2, rfl⟩ := h
          exact ⟨h2, rfl, fun H locs ls cells slots hR hS => W.vret hx hb (by rw [hr, h1]) (fin H locs hR hS uU _ rfl) hS.2.2 hd hlk⟩
        · cases h
      · cases h
    | _ => exfalso; simp only [st2, gd, nx, jmp, ldL, stL, stJ, bin, una, cmpd, getf, gets, putf, newA, newT, newO, newR, aldI, aldB, aldJ, aldR, astI, astJ, astR, alen, acpy, call, swt, swl] at h <;> (repeat' split at h) <;> (first | cases h | skip)
  · cases h
end GR
