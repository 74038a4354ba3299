/-! the run without a count of steps, and how it goes on -/
theorem ex_succ : ∀ (n d mi pc : Nat) (al st : List AV) (S : SS) (I : II) (r : AV × SS × II), ex n d mi pc al st S I = some r → ex (n + 1) d mi pc al st S I = some r := by
  intro n
  induction n with
  | zero => intro d mi pc al st S I r h; simp [ex] at h
  | succ n ih =>
    intro d mi pc al st S I r h
    rw [ex] at h ⊢
    cases hs : st1 mi pc al st S I with
    | none => rw [hs] at h; simp at h
    | some q =>
      rw [hs] at h
      rcases q with q | q | q
      · exact ih _ _ _ _ _ _ _ _ h
      · exact h
      · cases d with
        | zero => simp at h
        | succ d =>
          simp only at h ⊢
          cases hc : ex n d q.1 0 (ent q.1 q.2.1) [] S I with
          | none => rw [hc] at h; simp at h
          | some r1 =>
            rw [hc] at h
            rw [ih _ _ _ _ _ _ _ _ hc]
            exact ih _ _ _ _ _ _ _ _ h
theorem ex_le {n k d mi pc : Nat} {al st : List AV} {S : SS} {I : II} {r : AV × SS × II} (h : ex n d mi pc al st S I = some r) (hk : n ≤ k) : ex k d mi pc al st S I = some r := by
  induction hk with
  | refl => exact h
  | step _ ih => exact ex_succ _ _ _ _ _ _ _ _ _ ih
theorem ex_one {n k d mi pc : Nat} {al st : List AV} {S : SS} {I : II} {r r' : AV × SS × II} (h : ex n d mi pc al st S I = some r) (h' : ex k d mi pc al st S I = some r') : r = r' := by
  have h1 := ex_le h (Nat.le_max_left n k)
  have h2 := ex_le h' (Nat.le_max_right n k)
  exact Option.some.inj (h1.symm.trans h2)
noncomputable def ev (d mi pc : Nat) (al st : List AV) (S : SS) (I : II) : RR :=
  @dite _ (∃ r n, ex n d mi pc al st S I = some r) (Classical.propDecidable _) (fun h => some (Classical.choose h)) (fun _ => none)
theorem ev_some {d mi pc : Nat} {al st : List AV} {S : SS} {I : II} {r : AV × SS × II} : ev d mi pc al st S I = some r ↔ ∃ n, ex n d mi pc al st S I = some r := by
  unfold ev
  constructor
  · intro h
    split at h
    · rename_i h1
      cases h
      exact Classical.choose_spec h1
    · cases h
  · intro ⟨n, h⟩
    have h1 : ∃ r n, ex n d mi pc al st S I = some r := ⟨r, n, h⟩
    rw [dif_pos h1]
    obtain ⟨k, hk⟩ := Classical.choose_spec h1
    rw [ex_one hk h]
theorem ev_eq {d mi pc : Nat} {al st : List AV} {S : SS} {I : II} {X : RR} (h : ∀ r, (∃ n, ex n d mi pc al st S I = some r) ↔ X = some r) : ev d mi pc al st S I = X := by
  cases hX : X with
  | some r => exact ev_some.mpr ((h r).mpr hX)
  | none =>
    cases he : ev d mi pc al st S I with
    | none => rfl
    | some r =>
      have := (h r).mp (ev_some.mp he)
      rw [hX] at this
      cases this
theorem ev_st {d mi pc : Nat} {al st : List AV} {S : SS} {I : II} : ev d mi pc al st S I = (match st1 mi pc al st S I with
    | none => none
    | some (.inl q) => ev d mi q.1 q.2.1 q.2.2.1 q.2.2.2.1 q.2.2.2.2
    | some (.inr (.inl q)) => some q
    | some (.inr (.inr q)) => match d with
      | 0 => none
      | d + 1 => (ev d q.1 0 (ent q.1 q.2.1) [] S I).bind (fun r => ev (d + 1) mi (pc + 3) al (psh r.1 q.2.2) r.2.1 r.2.2)) := by
  apply ev_eq
  intro r
  cases hs : st1 mi pc al st S I with
  | none =>
    simp only [reduceCtorEq, iff_false]
    intro ⟨n, h⟩
    cases n with
    | zero => simp [ex] at h
    | succ n => rw [ex, hs] at h; simp at h
  | some q =>
    rcases q with q | q | q
    · simp only
      rw [ev_some]
      constructor
      · intro ⟨n, h⟩
        cases n with
        | zero => simp [ex] at h
        | succ n => rw [ex, hs] at h; exact ⟨n, h⟩
      · intro ⟨n, h⟩
        exact ⟨n + 1, by rw [ex, hs]; exact h⟩
    · simp only
      constructor
      · intro ⟨n, h⟩
        cases n with
        | zero => simp [ex] at h
        | succ n => rw [ex, hs] at h; exact h
      · intro h
        exact ⟨1, by rw [ex, hs]; exact h⟩
    · cases d with
      | zero =>
        simp only [reduceCtorEq, iff_false]
        intro ⟨n, h⟩
        cases n with
        | zero => simp [ex] at h
        | succ n => rw [ex, hs] at h; simp at h
      | succ d =>
        simp only
        rw [Option.bind_eq_some_iff]
        constructor
        · intro ⟨n, h⟩
          cases n with
          | zero => simp [ex] at h
          | succ n =>
            rw [ex, hs] at h
            simp only at h
            cases hc : ex n d q.1 0 (ent q.1 q.2.1) [] S I with
            | none => rw [hc] at h; simp at h
            | some r1 =>
              rw [hc] at h
              exact ⟨r1, ev_some.mpr ⟨n, hc⟩, ev_some.mpr ⟨n, h⟩⟩
        · intro ⟨r1, h1, h2⟩
          obtain ⟨n, hn⟩ := ev_some.mp h1
          obtain ⟨k, hk⟩ := ev_some.mp h2
          refine ⟨max n k + 1, ?_⟩
          rw [ex, hs]
          simp only
          rw [ex_le hn (Nat.le_max_left n k)]
          exact ex_le hk (Nat.le_max_right n k)
theorem ev_nx {d mi pc pc' : Nat} {al st al' st' : List AV} {S S' : SS} {I I' : II} (h : st1 mi pc al st S I = nx pc' al' st' S' I') : ev d mi pc al st S I = ev d mi pc' al' st' S' I' := by
  rw [ev_st, h]; rfl
theorem ev_ret {d mi pc : Nat} {al st : List AV} {S : SS} {I : II} {q : AV × SS × II} (h : st1 mi pc al st S I = some (.inr (.inl q))) : ev d mi pc al st S I = some q := by
  rw [ev_st, h]
theorem ev_call {d mi pc mj : Nat} {al st ag r : List AV} {S : SS} {I : II} (h : st1 mi pc al st S I = some (.inr (.inr (mj, ag, r)))) : ev (d + 1) mi pc al st S I = (ev d mj 0 (ent mj ag) [] S I).bind (fun q => ev (d + 1) mi (pc + 3) al (psh q.1 r) q.2.1 q.2.2) := by
  rw [ev_st, h]
theorem ev_none {d mi pc : Nat} {al st : List AV} {S : SS} {I : II} (h : st1 mi pc al st S I = none) : ev d mi pc al st S I = none := by
  rw [ev_st, h]
theorem ev_if {d mi pc : Nat} {al st : List AV} {S : SS} {I : II} {c : Prop} [Decidable c] {a b : SR} {X Y : RR} (h : st1 mi pc al st S I = if c then a else b) (ha : st1 mi pc al st S I = a → ev d mi pc al st S I = X) (hb : st1 mi pc al st S I = b → ev d mi pc al st S I = Y) : ev d mi pc al st S I = if c then X else Y := by
  by_cases hc : c
  · rw [if_pos hc] at h ⊢; exact ha h
  · rw [if_neg hc] at h ⊢; exact hb h
