/-! one instruction of a run, by its word -/
def gdR (c : Prop) [Decidable c] (r : RR) : RR := if c then r else none
theorem gdR_pos {c : Prop} [Decidable c] {r : RR} (h : c) : gdR c r = r := if_pos h
theorem gdR_to {c : Prop} [Decidable c] {x y : RR} (h : c → x = y) : gdR c x = gdR c y := by
  unfold gdR; by_cases hc : c
  · rw [if_pos hc, if_pos hc, h hc]
  · rw [if_neg hc, if_neg hc]
/-- an array's cell, an object's cell -/
def KA (S : SS) (a k n : Int) : Prop := 0 ≤ a ∧ a < (sN S : Int) ∧ (sH S a).1 = k ∧ (sH S a).2 = n
def KO (S : SS) (a k : Int) : Prop := 0 ≤ a ∧ a < (sN S : Int) ∧ (sH S a).1 = k
section ops
variable {d mi pc pc' n idx : Nat} {al al' st : List AV} {S : SS} {I : II} {a b x y z v i j k len off : Int} {t : Nat} {X Y : RR}
theorem sx_aload (hd : decode (mB mi) pc = .ok (.aload n, 2)) (hl : al[n]? = some (2, x)) : ev d mi pc al st S I = ev d mi (pc + 2) al ((2, x) :: st) S I :=
  ev_nx (by simp [st1, hd, st2, gd, ldL, hl])
theorem sx_aload_n {n : Fin 4} (hd : decode (mB mi) pc = .ok (.aload_n n, 1)) (hl : al[(n : Nat)]? = some (2, x)) : ev d mi pc al st S I = ev d mi (pc + 1) al ((2, x) :: st) S I :=
  ev_nx (by simp [st1, hd, st2, gd, ldL, hl])
theorem sx_iload (hd : decode (mB mi) pc = .ok (.iload n, 2)) (hl : al[n]? = some (0, x)) : ev d mi pc al st S I = ev d mi (pc + 2) al ((0, x) :: st) S I :=
  ev_nx (by simp [st1, hd, st2, gd, ldL, hl])
theorem sx_iload_n {n : Fin 4} (hd : decode (mB mi) pc = .ok (.iload_n n, 1)) (hl : al[(n : Nat)]? = some (0, x)) : ev d mi pc al st S I = ev d mi (pc + 1) al ((0, x) :: st) S I :=
  ev_nx (by simp [st1, hd, st2, gd, ldL, hl])
theorem sx_lload (hd : decode (mB mi) pc = .ok (.lload n, 2)) (hl : al[n]? = some (1, x)) : ev d mi pc al st S I = ev d mi (pc + 2) al ((1, x) :: st) S I :=
  ev_nx (by simp [st1, hd, st2, gd, ldL, hl])
theorem sx_lload_n {n : Fin 4} (hd : decode (mB mi) pc = .ok (.lload_n n, 1)) (hl : al[(n : Nat)]? = some (1, x)) : ev d mi pc al st S I = ev d mi (pc + 1) al ((1, x) :: st) S I :=
  ev_nx (by simp [st1, hd, st2, gd, ldL, hl])
theorem sx_astore (hd : decode (mB mi) pc = .ok (.astore n, 2)) (hn : n < al.length) (hg : isLong al n = false) (hs : al.set n (2, x) = al') : ev d mi pc al ((2, x) :: st) S I = ev d mi (pc + 2) al' st S I :=
  ev_nx (by subst hs; simp [st1, hd, st2, gd, stL, hn, hg])
theorem sx_astore_n {n : Fin 4} (hd : decode (mB mi) pc = .ok (.astore_n n, 1)) (hn : (n : Nat) < al.length) (hg : isLong al (n : Nat) = false) (hs : al.set (n : Nat) (2, x) = al') : ev d mi pc al ((2, x) :: st) S I = ev d mi (pc + 1) al' st S I :=
  ev_nx (by subst hs; simp [st1, hd, st2, gd, stL, hn, hg])
theorem sx_istore (hd : decode (mB mi) pc = .ok (.istore n, 2)) (hn : n < al.length) (hg : isLong al n = false) (hs : al.set n (0, x) = al') : ev d mi pc al ((0, x) :: st) S I = ev d mi (pc + 2) al' st S I :=
  ev_nx (by subst hs; simp [st1, hd, st2, gd, stL, hn, hg])
theorem sx_istore_n {n : Fin 4} (hd : decode (mB mi) pc = .ok (.istore_n n, 1)) (hn : (n : Nat) < al.length) (hg : isLong al (n : Nat) = false) (hs : al.set (n : Nat) (0, x) = al') : ev d mi pc al ((0, x) :: st) S I = ev d mi (pc + 1) al' st S I :=
  ev_nx (by subst hs; simp [st1, hd, st2, gd, stL, hn, hg])
theorem sx_lstore (hd : decode (mB mi) pc = .ok (.lstore n, 2)) (hn : n + 1 < al.length) (hg : isLong al n = false) (hs : (al.set n (1, x)).set (n + 1) uU = al') : ev d mi pc al ((1, x) :: st) S I = ev d mi (pc + 2) al' st S I :=
  ev_nx (by subst hs; simp [st1, hd, st2, gd, stJ, hn, hg])
theorem sx_bipush (hd : decode (mB mi) pc = .ok (.bipush z, 2)) (h : -128 ≤ z ∧ z < 128) : ev d mi pc al st S I = ev d mi (pc + 2) al ((0, z) :: st) S I :=
  ev_nx (by simp [st1, hd, st2, gd, h])
theorem sx_sipush (hd : decode (mB mi) pc = .ok (.sipush z, 3)) (h : -32768 ≤ z ∧ z < 32768) : ev d mi pc al st S I = ev d mi (pc + 3) al ((0, z) :: st) S I :=
  ev_nx (by simp [st1, hd, st2, gd, h])
theorem sx_iconst (hd : decode (mB mi) pc = .ok (.iconst z, 1)) : ev d mi pc al st S I = ev d mi (pc + 1) al ((0, z) :: st) S I :=
  ev_nx (by simp [st1, hd, st2, gd])
theorem sx_aconst_null (hd : decode (mB mi) pc = .ok (.aconst_null, 1)) : ev d mi pc al st S I = ev d mi (pc + 1) al ((2, -1) :: st) S I :=
  ev_nx (by simp [st1, hd, st2, gd])
theorem sx_lconst {z : Fin 2} (hd : decode (mB mi) pc = .ok (.lconst z, 1)) : ev d mi pc al st S I = ev d mi (pc + 1) al ((1, ((z : Nat) : Int)) :: st) S I :=
  ev_nx (by simp [st1, hd, st2, gd])
theorem sx_ldcI {q : Int × Nat} (hd : decode (mB mi) pc = .ok (.ldc idx, 2)) (h : lki (mC mi) idx = some q) : ev d mi pc al st S I = ev d mi (pc + 2) al ((0, q.1) :: st) S I :=
  ev_nx (by simp [st1, hd, st2, gd, h])
theorem sx_ldcS {q : Nat × Nat} (hd : decode (mB mi) pc = .ok (.ldc idx, 2)) (h0 : lki (mC mi) idx = none) (h : lks (mC mi) idx = some q) : ev d mi pc al st S I = ev d mi (pc + 2) al ((2, -10 - (q.1 : Int)) :: st) S I :=
  ev_nx (by simp [st1, hd, st2, gd, h0, h])
theorem sx_ldc_w {q : Int × Nat} (hd : decode (mB mi) pc = .ok (.ldc_w idx, 3)) (h : lki (mC mi) idx = some q) : ev d mi pc al st S I = ev d mi (pc + 3) al ((0, q.1) :: st) S I :=
  ev_nx (by simp [st1, hd, st2, gd, h])
theorem sx_ldc_wS {q : Nat × Nat} (hd : decode (mB mi) pc = .ok (.ldc_w idx, 3)) (h0 : lki (mC mi) idx = none) (h : lks (mC mi) idx = some q) : ev d mi pc al st S I = ev d mi (pc + 3) al ((2, -10 - (q.1 : Int)) :: st) S I :=
  ev_nx (by simp [st1, hd, st2, gd, h0, h])
theorem sx_ldc2_w {q : Int × Nat} (hd : decode (mB mi) pc = .ok (.ldc2_w idx, 3)) (h : lkl (mC mi) idx = some q) : ev d mi pc al st S I = ev d mi (pc + 3) al ((1, q.1) :: st) S I :=
  ev_nx (by simp [st1, hd, st2, gd, h])
theorem sx_dup (hd : decode (mB mi) pc = .ok (.dup, 1)) (h : t ≠ 1) : ev d mi pc al ((t, x) :: st) S I = ev d mi (pc + 1) al ((t, x) :: (t, x) :: st) S I :=
  ev_nx (by simp [st1, hd, st2, gd, h])
theorem sx_dup2 {t' : Nat} (hd : decode (mB mi) pc = .ok (.dup2, 1)) (h : t ≠ 1) (h' : t' ≠ 1) : ev d mi pc al ((t, x) :: (t', y) :: st) S I = ev d mi (pc + 1) al ((t, x) :: (t', y) :: (t, x) :: (t', y) :: st) S I :=
  ev_nx (by simp [st1, hd, st2, gd, h, h'])
theorem sx_pop (hd : decode (mB mi) pc = .ok (.pop, 1)) (h : t ≠ 1) : ev d mi pc al ((t, x) :: st) S I = ev d mi (pc + 1) al st S I :=
  ev_nx (by simp [st1, hd, st2, gd, h])
theorem sx_iadd (hd : decode (mB mi) pc = .ok (.iadd, 1)) : ev d mi pc al ((0, y) :: (0, x) :: st) S I = ev d mi (pc + 1) al ((0, x + y) :: st) S I :=
  ev_nx (by simp [st1, hd, st2, gd, bin])
theorem sx_isub (hd : decode (mB mi) pc = .ok (.isub, 1)) : ev d mi pc al ((0, y) :: (0, x) :: st) S I = ev d mi (pc + 1) al ((0, x - y) :: st) S I :=
  ev_nx (by simp [st1, hd, st2, gd, bin])
theorem sx_imul (hd : decode (mB mi) pc = .ok (.imul, 1)) : ev d mi pc al ((0, y) :: (0, x) :: st) S I = ev d mi (pc + 1) al ((0, x * y) :: st) S I :=
  ev_nx (by simp [st1, hd, st2, gd, bin])
theorem sx_iand (hd : decode (mB mi) pc = .ok (.iand, 1)) : ev d mi pc al ((0, y) :: (0, x) :: st) S I = ev d mi (pc + 1) al ((0, iAnd x y) :: st) S I :=
  ev_nx (by simp [st1, hd, st2, gd, bin])
theorem sx_ior (hd : decode (mB mi) pc = .ok (.ior, 1)) : ev d mi pc al ((0, y) :: (0, x) :: st) S I = ev d mi (pc + 1) al ((0, iOr x y) :: st) S I :=
  ev_nx (by simp [st1, hd, st2, gd, bin])
theorem sx_ixor (hd : decode (mB mi) pc = .ok (.ixor, 1)) : ev d mi pc al ((0, y) :: (0, x) :: st) S I = ev d mi (pc + 1) al ((0, iXor x y) :: st) S I :=
  ev_nx (by simp [st1, hd, st2, gd, bin])
theorem sx_ishl (hd : decode (mB mi) pc = .ok (.ishl, 1)) : ev d mi pc al ((0, y) :: (0, x) :: st) S I = ev d mi (pc + 1) al ((0, iShl x y) :: st) S I :=
  ev_nx (by simp [st1, hd, st2, gd, bin])
theorem sx_ishr (hd : decode (mB mi) pc = .ok (.ishr, 1)) : ev d mi pc al ((0, y) :: (0, x) :: st) S I = ev d mi (pc + 1) al ((0, iShr x y) :: st) S I :=
  ev_nx (by simp [st1, hd, st2, gd, bin])
theorem sx_iushr (hd : decode (mB mi) pc = .ok (.iushr, 1)) : ev d mi pc al ((0, y) :: (0, x) :: st) S I = ev d mi (pc + 1) al ((0, iUshr x y) :: st) S I :=
  ev_nx (by simp [st1, hd, st2, gd, bin])
theorem ev_gd {c : Prop} [Decidable c] {al' st' : List AV} {S' : SS} {I' : II} (h : st1 mi pc al st S I = gd c (nx pc' al' st' S' I')) : ev d mi pc al st S I = gdR c (ev d mi pc' al' st' S' I') := by
  by_cases hc : c
  · rw [gd, if_pos hc] at h; rw [gdR, if_pos hc]; exact ev_nx h
  · rw [gd, if_neg hc] at h; rw [gdR, if_neg hc]; exact ev_none h
theorem sx_idiv (hd : decode (mB mi) pc = .ok (.idiv, 1)) : ev d mi pc al ((0, y) :: (0, x) :: st) S I = gdR (w y ≠ 0) (ev d mi (pc + 1) al ((0, iDiv x y) :: st) S I) :=
  ev_gd (by simp only [st1, hd, st2]; rw [gd, if_pos trivial])
theorem sx_irem (hd : decode (mB mi) pc = .ok (.irem, 1)) : ev d mi pc al ((0, y) :: (0, x) :: st) S I = gdR (w y ≠ 0) (ev d mi (pc + 1) al ((0, iRem x y) :: st) S I) :=
  ev_gd (by simp only [st1, hd, st2]; rw [gd, if_pos trivial])
theorem sx_ineg (hd : decode (mB mi) pc = .ok (.ineg, 1)) : ev d mi pc al ((0, x) :: st) S I = ev d mi (pc + 1) al ((0, -x) :: st) S I :=
  ev_nx (by simp [st1, hd, st2, gd, una])
theorem sx_i2b (hd : decode (mB mi) pc = .ok (.i2b, 1)) : ev d mi pc al ((0, x) :: st) S I = ev d mi (pc + 1) al ((0, iB x) :: st) S I :=
  ev_nx (by simp [st1, hd, st2, gd, una])
theorem sx_i2c (hd : decode (mB mi) pc = .ok (.i2c, 1)) : ev d mi pc al ((0, x) :: st) S I = ev d mi (pc + 1) al ((0, iC x) :: st) S I :=
  ev_nx (by simp [st1, hd, st2, gd, una])
theorem sx_i2s (hd : decode (mB mi) pc = .ok (.i2s, 1)) : ev d mi pc al ((0, x) :: st) S I = ev d mi (pc + 1) al ((0, iS x) :: st) S I :=
  ev_nx (by simp [st1, hd, st2, gd, una])
theorem sx_i2l (hd : decode (mB mi) pc = .ok (.i2l, 1)) : ev d mi pc al ((0, x) :: st) S I = ev d mi (pc + 1) al ((1, w x) :: st) S I :=
  ev_nx (by simp [st1, hd, st2, gd])
theorem sx_lcmp (hd : decode (mB mi) pc = .ok (.lcmp, 1)) : ev d mi pc al ((1, y) :: (1, x) :: st) S I = ev d mi (pc + 1) al ((0, lCmp x y) :: st) S I :=
  ev_nx (by simp [st1, hd, st2, gd])
theorem sx_iinc (hd : decode (mB mi) pc = .ok (.iinc n z, 3)) (hl : al[n]? = some (0, x)) (hs : al.set n (0, x + z) = al') : ev d mi pc al st S I = ev d mi (pc + 3) al' st S I :=
  ev_nx (by subst hs; simp [st1, hd, st2, gd, hl])
theorem sx_goto (hd : decode (mB mi) pc = .ok (.goto off, 3)) (h0 : 0 ≤ (pc : Int) + off) (h : ((pc : Int) + off).toNat = pc') : ev d mi pc al st S I = ev d mi pc' al st S I :=
  ev_nx (by subst h; simp only [st1, hd, st2]; rw [gd, if_pos trivial, jmp, if_pos h0])
/-! branches -/
theorem cmpd_go {P : Prop} [Decidable P] {A B : SR} (h : st1 mi pc al st S I = if P then A else B) (ha : st1 mi pc al st S I = A → ev d mi pc al st S I = X) (hb : st1 mi pc al st S I = B → ev d mi pc al st S I = Y) : ev d mi pc al st S I = if P then X else Y := ev_if h ha hb
theorem sx_jp {A : SR} {al' st' : List AV} (h0 : 0 ≤ (pc : Int) + off) (h1 : ((pc : Int) + off).toNat = pc') (hX : ev d mi pc' al' st' S I = X) (h : st1 mi pc al st S I = jmp pc off al' st' S I) : ev d mi pc al st S I = X := by
  subst h1
  rw [jmp, if_pos h0] at h
  exact (ev_nx h).trans hX
theorem sx_np {al' st' : List AV} (hX : ev d mi pc' al' st' S I = X) (h : st1 mi pc al st S I = nx pc' al' st' S I) : ev d mi pc al st S I = X := (ev_nx h).trans hX
theorem sx_if_eq {x' y' : Int} (hd : decode (mB mi) pc = .ok (.if_icmp .eq off, 3)) (h0 : 0 ≤ (pc : Int) + off) (h1 : ((pc : Int) + off).toNat = pc') (hX : ev d mi pc' al st S I = X) (hY : ev d mi (pc + 3) al st S I = Y) (hx : w x = x') (hy : w y = y') : ev d mi pc al ((0, y) :: (0, x) :: st) S I = if x' = y' then X else Y := by
  subst hx; subst hy; exact
  ev_if (by simp only [st1, hd, st2]; rw [gd, if_pos ⟨trivial, h0⟩]; rfl) (sx_jp (A := none) h0 h1 hX) (sx_np hY)
theorem sx_if_ne {x' y' : Int} (hd : decode (mB mi) pc = .ok (.if_icmp .ne off, 3)) (h0 : 0 ≤ (pc : Int) + off) (h1 : ((pc : Int) + off).toNat = pc') (hX : ev d mi (pc + 3) al st S I = X) (hY : ev d mi pc' al st S I = Y) (hx : w x = x') (hy : w y = y') : ev d mi pc al ((0, y) :: (0, x) :: st) S I = if x' = y' then X else Y := by
  subst hx; subst hy; exact
  ev_if (by simp only [st1, hd, st2]; rw [gd, if_pos ⟨trivial, h0⟩]; rfl) (sx_np hX) (sx_jp (A := none) h0 h1 hY)
theorem sx_if_lt {x' y' : Int} (hd : decode (mB mi) pc = .ok (.if_icmp .lt off, 3)) (h0 : 0 ≤ (pc : Int) + off) (h1 : ((pc : Int) + off).toNat = pc') (hX : ev d mi pc' al st S I = X) (hY : ev d mi (pc + 3) al st S I = Y) (hx : w x = x') (hy : w y = y') : ev d mi pc al ((0, y) :: (0, x) :: st) S I = if x' < y' then X else Y := by
  subst hx; subst hy; exact
  ev_if (by simp only [st1, hd, st2]; rw [gd, if_pos ⟨trivial, h0⟩]; rfl) (sx_jp (A := none) h0 h1 hX) (sx_np hY)
theorem sx_if_ge {x' y' : Int} (hd : decode (mB mi) pc = .ok (.if_icmp .ge off, 3)) (h0 : 0 ≤ (pc : Int) + off) (h1 : ((pc : Int) + off).toNat = pc') (hX : ev d mi (pc + 3) al st S I = X) (hY : ev d mi pc' al st S I = Y) (hx : w x = x') (hy : w y = y') : ev d mi pc al ((0, y) :: (0, x) :: st) S I = if x' < y' then X else Y := by
  subst hx; subst hy; exact
  ev_if (by simp only [st1, hd, st2]; rw [gd, if_pos ⟨trivial, h0⟩]; rfl) (sx_np hX) (sx_jp (A := none) h0 h1 hY)
theorem sx_if_gt {x' y' : Int} (hd : decode (mB mi) pc = .ok (.if_icmp .gt off, 3)) (h0 : 0 ≤ (pc : Int) + off) (h1 : ((pc : Int) + off).toNat = pc') (hX : ev d mi pc' al st S I = X) (hY : ev d mi (pc + 3) al st S I = Y) (hx : w x = x') (hy : w y = y') : ev d mi pc al ((0, y) :: (0, x) :: st) S I = if y' < x' then X else Y := by
  subst hx; subst hy; exact
  ev_if (by simp only [st1, hd, st2]; rw [gd, if_pos ⟨trivial, h0⟩]; rfl) (sx_jp (A := none) h0 h1 hX) (sx_np hY)
theorem sx_if_le {x' y' : Int} (hd : decode (mB mi) pc = .ok (.if_icmp .le off, 3)) (h0 : 0 ≤ (pc : Int) + off) (h1 : ((pc : Int) + off).toNat = pc') (hX : ev d mi (pc + 3) al st S I = X) (hY : ev d mi pc' al st S I = Y) (hx : w x = x') (hy : w y = y') : ev d mi pc al ((0, y) :: (0, x) :: st) S I = if y' < x' then X else Y := by
  subst hx; subst hy; exact
  ev_if (by simp only [st1, hd, st2]; rw [gd, if_pos ⟨trivial, h0⟩]; rfl) (sx_np hX) (sx_jp (A := none) h0 h1 hY)
theorem sx_i0_eq {x' : Int} (hd : decode (mB mi) pc = .ok (.ifCond .eq off, 3)) (h0 : 0 ≤ (pc : Int) + off) (h1 : ((pc : Int) + off).toNat = pc') (hX : ev d mi pc' al st S I = X) (hY : ev d mi (pc + 3) al st S I = Y) (hx : w x = x') : ev d mi pc al ((0, x) :: st) S I = if x' = 0 then X else Y := by
  subst hx; exact
  ev_if (by simp only [st1, hd, st2]; rw [gd, if_pos ⟨trivial, h0⟩]; rfl) (sx_jp (A := none) h0 h1 hX) (sx_np hY)
theorem sx_i0_ne {x' : Int} (hd : decode (mB mi) pc = .ok (.ifCond .ne off, 3)) (h0 : 0 ≤ (pc : Int) + off) (h1 : ((pc : Int) + off).toNat = pc') (hX : ev d mi (pc + 3) al st S I = X) (hY : ev d mi pc' al st S I = Y) (hx : w x = x') : ev d mi pc al ((0, x) :: st) S I = if x' = 0 then X else Y := by
  subst hx; exact
  ev_if (by simp only [st1, hd, st2]; rw [gd, if_pos ⟨trivial, h0⟩]; rfl) (sx_np hX) (sx_jp (A := none) h0 h1 hY)
theorem sx_i0_lt {x' : Int} (hd : decode (mB mi) pc = .ok (.ifCond .lt off, 3)) (h0 : 0 ≤ (pc : Int) + off) (h1 : ((pc : Int) + off).toNat = pc') (hX : ev d mi pc' al st S I = X) (hY : ev d mi (pc + 3) al st S I = Y) (hx : w x = x') : ev d mi pc al ((0, x) :: st) S I = if x' < 0 then X else Y := by
  subst hx; exact
  ev_if (by simp only [st1, hd, st2]; rw [gd, if_pos ⟨trivial, h0⟩]; rfl) (sx_jp (A := none) h0 h1 hX) (sx_np hY)
theorem sx_i0_ge {x' : Int} (hd : decode (mB mi) pc = .ok (.ifCond .ge off, 3)) (h0 : 0 ≤ (pc : Int) + off) (h1 : ((pc : Int) + off).toNat = pc') (hX : ev d mi (pc + 3) al st S I = X) (hY : ev d mi pc' al st S I = Y) (hx : w x = x') : ev d mi pc al ((0, x) :: st) S I = if x' < 0 then X else Y := by
  subst hx; exact
  ev_if (by simp only [st1, hd, st2]; rw [gd, if_pos ⟨trivial, h0⟩]; rfl) (sx_np hX) (sx_jp (A := none) h0 h1 hY)
theorem sx_i0_gt {x' : Int} (hd : decode (mB mi) pc = .ok (.ifCond .gt off, 3)) (h0 : 0 ≤ (pc : Int) + off) (h1 : ((pc : Int) + off).toNat = pc') (hX : ev d mi pc' al st S I = X) (hY : ev d mi (pc + 3) al st S I = Y) (hx : w x = x') : ev d mi pc al ((0, x) :: st) S I = if 0 < x' then X else Y := by
  subst hx; exact
  ev_if (by simp only [st1, hd, st2]; rw [gd, if_pos ⟨trivial, h0⟩]; rfl) (sx_jp (A := none) h0 h1 hX) (sx_np hY)
theorem sx_i0_le {x' : Int} (hd : decode (mB mi) pc = .ok (.ifCond .le off, 3)) (h0 : 0 ≤ (pc : Int) + off) (h1 : ((pc : Int) + off).toNat = pc') (hX : ev d mi (pc + 3) al st S I = X) (hY : ev d mi pc' al st S I = Y) (hx : w x = x') : ev d mi pc al ((0, x) :: st) S I = if 0 < x' then X else Y := by
  subst hx; exact
  ev_if (by simp only [st1, hd, st2]; rw [gd, if_pos ⟨trivial, h0⟩]; rfl) (sx_np hX) (sx_jp (A := none) h0 h1 hY)
theorem sx_ifnull (hd : decode (mB mi) pc = .ok (.ifnull off, 3)) (h0 : 0 ≤ (pc : Int) + off) (h1 : ((pc : Int) + off).toNat = pc') (h3 : x ≠ -3) (hX : x = -1 → ev d mi pc' al st S I = X) (hY : x ≠ -1 → ev d mi (pc + 3) al st S I = Y) : ev d mi pc al ((2, x) :: st) S I = if x = -1 then X else Y := by
  by_cases hx : x = -1
  · rw [if_pos hx]
    refine sx_jp (A := none) h0 h1 (hX hx) ?_
    simp only [st1, hd, st2]; rw [gd, if_pos trivial, if_pos hx]
  · rw [if_neg hx]
    refine sx_np (hY hx) ?_
    simp only [st1, hd, st2]; rw [gd, if_pos trivial, if_neg hx, gd, if_pos h3]
theorem sx_ifnonnull (hd : decode (mB mi) pc = .ok (.ifnonnull off, 3)) (h0 : 0 ≤ (pc : Int) + off) (h1 : ((pc : Int) + off).toNat = pc') (h3 : x ≠ -3) (hX : x = -1 → ev d mi (pc + 3) al st S I = X) (hY : x ≠ -1 → ev d mi pc' al st S I = Y) : ev d mi pc al ((2, x) :: st) S I = if x = -1 then X else Y := by
  by_cases hx : x = -1
  · rw [if_pos hx]
    refine sx_np (hX hx) ?_
    simp only [st1, hd, st2]; rw [gd, if_pos trivial, if_pos hx]
  · rw [if_neg hx]
    refine sx_jp (A := none) h0 h1 (hY hx) ?_
    simp only [st1, hd, st2]; rw [gd, if_pos trivial, if_neg hx, gd, if_pos h3]
theorem sx_tsw {dd lo hi : Int} {offs : Array Int} {o : Int} (hd : decode (mB mi) pc = .ok (.tableswitch dd lo hi offs, n)) (hx : w x = k) (hr : ¬ (k < lo ∨ hi < k)) (ho : offs[(k - lo).toNat]? = some o) (h0 : 0 ≤ (pc : Int) + o) (h : ((pc : Int) + o).toNat = pc') : ev d mi pc al ((0, x) :: st) S I = ev d mi pc' al st S I :=
  ev_nx (by subst h; subst hx; simp only [st1, hd, st2, swt, if_neg hr, ho, jmp, if_pos h0])
theorem sx_tsd {dd lo hi : Int} {offs : Array Int} (hd : decode (mB mi) pc = .ok (.tableswitch dd lo hi offs, n)) (hr : w x < lo ∨ hi < w x) (h0 : 0 ≤ (pc : Int) + dd) (h : ((pc : Int) + dd).toNat = pc') : ev d mi pc al ((0, x) :: st) S I = ev d mi pc' al st S I :=
  ev_nx (by subst h; simp only [st1, hd, st2, swt, if_pos hr, jmp, if_pos h0])
theorem sx_lsw {dd o : Int} {ps : Array (Int × Int)} (hd : decode (mB mi) pc = .ok (.lookupswitch dd ps, n)) (ha : (ps.toList.zip (ps.toList.drop 1)).all (fun (a, next) => a.1 < next.1) = true) (ho : Op.lookupswitch.offset ps.toList dd (w x) = o) (h0 : 0 ≤ (pc : Int) + o) (h : ((pc : Int) + o).toNat = pc') : ev d mi pc al ((0, x) :: st) S I = ev d mi pc' al st S I :=
  ev_nx (by subst h; subst ho; simp only [st1, hd, st2, swl, if_pos ha, jmp, if_pos h0])
/-! returns -/
theorem sx_ireturn (hd : decode (mB mi) pc = .ok (.ireturn, 1)) (h : mR mi = some .int) : ev d mi pc al [(0, v)] S I = some ((0, v), S, I) :=
  ev_ret (by simp only [st1, hd, st2]; rw [gd, if_pos trivial, retI, if_pos h])
theorem sx_zreturn (hd : decode (mB mi) pc = .ok (.ireturn, 1)) (h : mR mi = some .boolean) (hv : v = 0 ∨ v = 1) : ev d mi pc al [(0, v)] S I = some ((0, v), S, I) :=
  ev_ret (by simp only [st1, hd, st2]; rw [gd, if_pos trivial, retI, if_neg (by rw [h]; simp), if_pos ⟨h, hv⟩])
theorem sx_creturn (hd : decode (mB mi) pc = .ok (.ireturn, 1)) (h : mR mi = some .char ∨ mR mi = some .byte) (hv : 0 ≤ v ∧ v < 128) : ev d mi pc al [(0, v)] S I = some ((0, v), S, I) :=
  ev_ret (by simp only [st1, hd, st2]; rw [gd, if_pos trivial, retI, if_neg (by rcases h with h | h <;> rw [h] <;> simp), if_neg (by rcases h with h | h <;> rw [h] <;> simp), if_pos ⟨h.symm, hv.1, hv.2⟩])
theorem sx_areturn {s : String} (hd : decode (mB mi) pc = .ok (.areturn, 1)) (h : mR mi = some (.object s)) : ev d mi pc al [(2, v)] S I = some ((2, v), S, I) :=
  ev_ret (by simp only [st1, hd, st2, h]; rw [gd, if_pos trivial])
theorem sx_areturnA (hd : decode (mB mi) pc = .ok (.areturn, 1)) (h : mR mi = some (.array .int)) : ev d mi pc al [(2, v)] S I = some ((2, v), S, I) :=
  ev_ret (by simp only [st1, hd, st2, h]; rw [gd, if_pos trivial])
theorem sx_lreturn (hd : decode (mB mi) pc = .ok (.lreturn, 1)) (h : mR mi = some .long) : ev d mi pc al [(1, v)] S I = some ((1, v), S, I) :=
  ev_ret (by simp only [st1, hd, st2, h]; simp [gd])
theorem sx_return (hd : decode (mB mi) pc = .ok (.return_, 1)) (h : mR mi = none) : ev d mi pc al [] S I = some (uU, S, I) :=
  ev_ret (by simp [st1, hd, st2, h, gd])
/-! fields -/
theorem sx_gfI {q : Nat × Nat × Nat × Nat} (hd : decode (mB mi) pc = .ok (.getfield idx, 3)) (hc : mC mi ≠ 15) (hq : lkf (mC mi) idx = some q) (hf : fT q.1 q.2.1 ≠ 2) (g : KO S a (q.1 : Int)) (hj : (q.2.1 : Int) = j) (hv : I a j = v) : ev d mi pc al ((2, a) :: st) S I = ev d mi (pc + 3) al ((0, v) :: st) S I :=
  ev_nx (by subst hv; subst hj; simp only [st1, hd, st2, getf, hq, fV]; rw [gd, if_pos trivial, if_neg hc, gd, if_pos (show isK S a _ from g), if_neg hf])
theorem sx_gfR {q : Nat × Nat × Nat × Nat} (hd : decode (mB mi) pc = .ok (.getfield idx, 3)) (hc : mC mi ≠ 15) (hq : lkf (mC mi) idx = some q) (hf : fT q.1 q.2.1 = 2) (g : KO S a (q.1 : Int)) (hj : sG S a (q.2.1 : Int) = b) : ev d mi pc al ((2, a) :: st) S I = ev d mi (pc + 3) al ((2, b) :: st) S I :=
  ev_nx (by subst hj; simp only [st1, hd, st2, getf, hq, fV]; rw [gd, if_pos trivial, if_neg hc, gd, if_pos (show isK S a _ from g), if_pos hf])
theorem sx_pfI {q : Nat × Nat × Nat × Nat} (hd : decode (mB mi) pc = .ok (.putfield idx, 3)) (hq : lkf (mC mi) idx = some q) (hF : fF q.1 q.2.1 = false) (hf : fT q.1 q.2.1 = 0) (g : KO S a (q.1 : Int)) (hj : (q.2.1 : Int) = j) : ev d mi pc al ((0, v) :: (2, a) :: st) S I = ev d mi (pc + 3) al st S (up2 I a j v) :=
  ev_nx (by subst hj; simp only [st1, hd, st2, putf, hq]; rw [gd, if_pos trivial, gd, if_pos (show isK S a _ from g), if_neg (by rw [hF]; simp), if_pos ⟨hf, trivial⟩])
theorem sx_pfZ {q : Nat × Nat × Nat × Nat} (hd : decode (mB mi) pc = .ok (.putfield idx, 3)) (hq : lkf (mC mi) idx = some q) (hF : fF q.1 q.2.1 = false) (hf : fT q.1 q.2.1 = 3) (g : KO S a (q.1 : Int)) (hj : (q.2.1 : Int) = j) : ev d mi pc al ((0, v) :: (2, a) :: st) S I = gdR (v = 0 ∨ v = 1) (ev d mi (pc + 3) al st S (up2 I a j v)) := by
  subst hj
  by_cases hv : v = 0 ∨ v = 1
  · rw [gdR_pos hv]
    exact ev_nx (by simp only [st1, hd, st2, putf, hq]; rw [gd, if_pos trivial, gd, if_pos (show isK S a _ from g), if_neg (by rw [hF]; simp), if_neg (by rw [hf]; simp), if_pos ⟨hf, trivial, hv⟩])
  · rw [gdR, if_neg hv]
    exact ev_none (by simp only [st1, hd, st2, putf, hq]; rw [gd, if_pos trivial, gd, if_pos (show isK S a _ from g), if_neg (by rw [hF]; simp), if_neg (by rw [hf]; simp), if_neg (by intro h; exact hv h.2.2), if_neg (by rw [hf]; simp)])
theorem sx_pfR {q : Nat × Nat × Nat × Nat} (hd : decode (mB mi) pc = .ok (.putfield idx, 3)) (hq : lkf (mC mi) idx = some q) (hF : ¬ (fF q.1 q.2.1 = true ∧ ¬ (mC mi = q.1 + 2 ∧ mK mi = 2 ∧ q.2.2.1 = 0))) (hf : fT q.1 q.2.1 = 2) (g : KO S a (q.1 : Int)) (hv : 0 ≤ v) (hj : (q.2.1 : Int) = j) : ev d mi pc al ((2, v) :: (2, a) :: st) S I = ev d mi (pc + 3) al st (S.1, S.2.1, S.2.2.1, up2 (sG S) a j v) I :=
  ev_nx (by subst hj; simp only [st1, hd, st2, putf, hq]; rw [gd, if_pos trivial, gd, if_pos (show isK S a _ from g), if_neg hF, if_neg (by rw [hf]; simp), if_neg (by rw [hf]; simp), if_pos ⟨hf, trivial, hv⟩])
theorem sx_gfS9 (hd : decode (mB mi) pc = .ok (.getfield 9, 3)) (hc : mC mi = 15) (g : isT (-10 - a)) : ev d mi pc al ((2, a) :: st) S I = ev d mi (pc + 3) al ((2, -90 + a) :: st) S I :=
  ev_nx (by simp only [st1, hd, st2, getf]; rw [gd, if_pos trivial, if_pos hc, if_pos trivial, gd, if_pos g])
theorem sx_gfS15 (hd : decode (mB mi) pc = .ok (.getfield 15, 3)) (hc : mC mi = 15) (g : isT (-10 - a)) : ev d mi pc al ((2, a) :: st) S I = ev d mi (pc + 3) al ((0, 0) :: st) S I :=
  ev_nx (by simp only [st1, hd, st2, getf]; rw [gd, if_pos trivial, if_pos hc, if_neg (by decide), if_pos trivial, gd, if_pos g])
theorem sx_gsS38 (hd : decode (mB mi) pc = .ok (.getstatic 38, 3)) (hc : mC mi = 15) : ev d mi pc al st S I = ev d mi (pc + 3) al ((0, 1) :: st) S I :=
  ev_nx (by simp only [st1, hd, st2, gets]; rw [gd, if_pos trivial, if_pos hc, if_pos trivial])
theorem sx_gsS1053 (hd : decode (mB mi) pc = .ok (.getstatic 1053, 3)) (hc : mC mi = 15) : ev d mi pc al st S I = ev d mi (pc + 3) al ((2, -3) :: st) S I :=
  ev_nx (by simp only [st1, hd, st2, gets]; rw [gd, if_pos trivial, if_pos hc, if_neg (by decide), if_pos trivial])
theorem sx_alenB (hd : decode (mB mi) pc = .ok (.arraylength, 1)) (g : isT (-100 - a)) : ev d mi pc al ((2, a) :: st) S I = ev d mi (pc + 1) al ((0, ((txt (-100 - a)).length : Int)) :: st) S I :=
  ev_nx (by simp only [st1, hd, st2, alen]; rw [gd, if_pos trivial, if_pos (by omega), gd, if_pos g])
theorem sx_baB (hd : decode (mB mi) pc = .ok (.baload, 1)) (g : isT (-100 - a)) : ev d mi pc al ((0, i) :: (2, a) :: st) S I = gdR (0 ≤ w i ∧ w i < ((txt (-100 - a)).length : Int)) (ev d mi (pc + 1) al ((0, ((txt (-100 - a)).getD (w i).toNat 0 : Int)) :: st) S I) := by
  by_cases hc : 0 ≤ w i ∧ w i < ((txt (-100 - a)).length : Int)
  · rw [gdR, if_pos hc]; exact ev_nx (by simp only [st1, hd, st2, aldB]; rw [gd, if_pos trivial, if_pos (by omega), gd, if_pos (show inT _ _ from ⟨g, hc⟩)])
  · rw [gdR, if_neg hc]; exact ev_none (by simp only [st1, hd, st2, aldB]; rw [gd, if_pos trivial, if_pos (by omega), gd, if_neg (fun h => hc h.2)])
/-! arrays: with the index as it is (guarded), or known to lie in it -/
theorem sx_ia (hd : decode (mB mi) pc = .ok (.iaload, 1)) (g : KA S a 20 len) (hv : I a (w i) = v) : ev d mi pc al ((0, i) :: (2, a) :: st) S I = gdR (0 ≤ w i ∧ w i < len) (ev d mi (pc + 1) al ((0, v) :: st) S I) := by
  subst hv
  obtain ⟨g0, g1, g2, rfl⟩ := g
  by_cases hc : 0 ≤ w i ∧ w i < (sH S a).2
  · rw [gdR, if_pos hc]; exact ev_nx (by simp only [st1, hd, st2, aldI]; rw [gd, if_pos trivial, gd, if_pos ⟨Or.inl ⟨g0, g1⟩, g2, hc⟩])
  · rw [gdR, if_neg hc]; exact ev_none (by simp only [st1, hd, st2, aldI]; rw [gd, if_pos trivial, gd, if_neg (fun h => hc h.2.2)])
theorem sx_iaK (hd : decode (mB mi) pc = .ok (.iaload, 1)) (g : KA S a 20 len) (hi : w i = j) (h0 : 0 ≤ j) (h1 : j < len) (hv : I a j = v) : ev d mi pc al ((0, i) :: (2, a) :: st) S I = ev d mi (pc + 1) al ((0, v) :: st) S I := by
  subst hi; subst hv; rw [sx_ia hd g rfl, gdR_pos ⟨h0, h1⟩]
theorem sx_ca (hd : decode (mB mi) pc = .ok (.caload, 1)) (g : KA S a 22 len) (hv : I a (w i) = v) : ev d mi pc al ((0, i) :: (2, a) :: st) S I = gdR (0 ≤ w i ∧ w i < len) (ev d mi (pc + 1) al ((0, v) :: st) S I) := by
  subst hv
  obtain ⟨g0, g1, g2, rfl⟩ := g
  by_cases hc : 0 ≤ w i ∧ w i < (sH S a).2
  · rw [gdR, if_pos hc]; exact ev_nx (by simp only [st1, hd, st2, aldI]; rw [gd, if_pos trivial, gd, if_pos ⟨Or.inl ⟨g0, g1⟩, g2, hc⟩])
  · rw [gdR, if_neg hc]; exact ev_none (by simp only [st1, hd, st2, aldI]; rw [gd, if_pos trivial, gd, if_neg (fun h => hc h.2.2)])
theorem sx_za (hd : decode (mB mi) pc = .ok (.baload, 1)) (g : KA S a 23 len) (hv : I a (w i) = v) : ev d mi pc al ((0, i) :: (2, a) :: st) S I = gdR (0 ≤ w i ∧ w i < len) (ev d mi (pc + 1) al ((0, v) :: st) S I) := by
  subst hv
  obtain ⟨g0, g1, g2, rfl⟩ := g
  by_cases hc : 0 ≤ w i ∧ w i < (sH S a).2
  · rw [gdR, if_pos hc]; exact ev_nx (by simp only [st1, hd, st2, aldB]; rw [gd, if_pos trivial, if_neg (by omega), gd, if_pos ⟨⟨g0, g1, g2⟩, hc⟩])
  · rw [gdR, if_neg hc]; exact ev_none (by simp only [st1, hd, st2, aldB]; rw [gd, if_pos trivial, if_neg (by omega), gd, if_neg (fun h => hc h.2)])
theorem sx_la (hd : decode (mB mi) pc = .ok (.laload, 1)) (g : KA S a 21 len) (hv : I a (w i) = v) : ev d mi pc al ((0, i) :: (2, a) :: st) S I = gdR (0 ≤ w i ∧ w i < len) (ev d mi (pc + 1) al ((1, v) :: st) S I) := by
  subst hv
  obtain ⟨g0, g1, g2, rfl⟩ := g
  by_cases hc : 0 ≤ w i ∧ w i < (sH S a).2
  · rw [gdR, if_pos hc]; exact ev_nx (by simp only [st1, hd, st2, aldJ]; rw [gd, if_pos trivial, gd, if_pos ⟨⟨g0, g1, g2⟩, hc⟩])
  · rw [gdR, if_neg hc]; exact ev_none (by simp only [st1, hd, st2, aldJ]; rw [gd, if_pos trivial, gd, if_neg (fun h => hc h.2)])
theorem sx_ra {kk : Int} (hd : decode (mB mi) pc = .ok (.aaload, 1)) (hk : kk = 24 ∨ kk = 25) (g : KA S a kk len) : ev d mi pc al ((0, i) :: (2, a) :: st) S I = gdR (0 ≤ w i ∧ w i < len) (ev d mi (pc + 1) al ((2, sG S a (w i)) :: st) S I) := by
  obtain ⟨g0, g1, g2, rfl⟩ := g
  have g3 : isK S a 24 ∨ isK S a 25 := by
    rcases hk with rfl | rfl
    · exact Or.inl ⟨g0, g1, g2⟩
    · exact Or.inr ⟨g0, g1, g2⟩
  by_cases hc : 0 ≤ w i ∧ w i < (sH S a).2
  · rw [gdR, if_pos hc]; exact ev_nx (by simp only [st1, hd, st2, aldR]; rw [gd, if_pos trivial, gd, if_pos ⟨g3, hc⟩])
  · rw [gdR, if_neg hc]; exact ev_none (by simp only [st1, hd, st2, aldR]; rw [gd, if_pos trivial, gd, if_neg (fun h => hc h.2)])
theorem sx_is (hd : decode (mB mi) pc = .ok (.iastore, 1)) (g : KA S a 20 len) : ev d mi pc al ((0, v) :: (0, i) :: (2, a) :: st) S I = gdR (0 ≤ w i ∧ w i < len) (ev d mi (pc + 1) al st S (up2 I a (w i) v)) := by
  obtain ⟨g0, g1, g2, rfl⟩ := g
  by_cases hc : 0 ≤ w i ∧ w i < (sH S a).2
  · rw [gdR, if_pos hc]; exact ev_nx (by simp only [st1, hd, st2, astI]; rw [gd, if_pos trivial, gd, if_pos ⟨⟨g0, g1, g2⟩, hc, by simp, by simp⟩])
  · rw [gdR, if_neg hc]; exact ev_none (by simp only [st1, hd, st2, astI]; rw [gd, if_pos trivial, gd, if_neg (fun h => hc h.2.1)])
theorem sx_isK (hd : decode (mB mi) pc = .ok (.iastore, 1)) (g : KA S a 20 len) (hi : w i = j) (h0 : 0 ≤ j) (h1 : j < len) : ev d mi pc al ((0, v) :: (0, i) :: (2, a) :: st) S I = ev d mi (pc + 1) al st S (up2 I a j v) := by
  subst hi; rw [sx_is hd g, gdR_pos ⟨h0, h1⟩]
theorem sx_zs (hd : decode (mB mi) pc = .ok (.bastore, 1)) (g : KA S a 23 len) : ev d mi pc al ((0, v) :: (0, i) :: (2, a) :: st) S I = gdR ((0 ≤ w i ∧ w i < len) ∧ (v = 0 ∨ v = 1)) (ev d mi (pc + 1) al st S (up2 I a (w i) v)) := by
  obtain ⟨g0, g1, g2, rfl⟩ := g
  by_cases hc : (0 ≤ w i ∧ w i < (sH S a).2) ∧ (v = 0 ∨ v = 1)
  · rw [gdR, if_pos hc]; exact ev_nx (by simp only [st1, hd, st2, astI]; rw [gd, if_pos trivial, gd, if_pos ⟨⟨g0, g1, g2⟩, hc.1, fun _ => hc.2, by simp⟩])
  · rw [gdR, if_neg hc]; exact ev_none (by simp only [st1, hd, st2, astI]; rw [gd, if_pos trivial, gd, if_neg (fun h => hc ⟨h.2.1, h.2.2.1 trivial⟩)])
theorem sx_cs (hd : decode (mB mi) pc = .ok (.castore, 1)) (g : KA S a 22 len) : ev d mi pc al ((0, v) :: (0, i) :: (2, a) :: st) S I = gdR ((0 ≤ w i ∧ w i < len) ∧ 0 ≤ v ∧ v < 65536) (ev d mi (pc + 1) al st S (up2 I a (w i) v)) := by
  obtain ⟨g0, g1, g2, rfl⟩ := g
  by_cases hc : (0 ≤ w i ∧ w i < (sH S a).2) ∧ 0 ≤ v ∧ v < 65536
  · rw [gdR, if_pos hc]; exact ev_nx (by simp only [st1, hd, st2, astI]; rw [gd, if_pos trivial, gd, if_pos ⟨⟨g0, g1, g2⟩, hc.1, by simp, fun _ => hc.2⟩])
  · rw [gdR, if_neg hc]; exact ev_none (by simp only [st1, hd, st2, astI]; rw [gd, if_pos trivial, gd, if_neg (fun h => hc ⟨h.2.1, h.2.2.2 trivial⟩)])
theorem sx_js (hd : decode (mB mi) pc = .ok (.lastore, 1)) (g : KA S a 21 len) : ev d mi pc al ((1, v) :: (0, i) :: (2, a) :: st) S I = gdR (0 ≤ w i ∧ w i < len) (ev d mi (pc + 1) al st S (up2 I a (w i) v)) := by
  obtain ⟨g0, g1, g2, rfl⟩ := g
  by_cases hc : 0 ≤ w i ∧ w i < (sH S a).2
  · rw [gdR, if_pos hc]; exact ev_nx (by simp only [st1, hd, st2, astJ]; rw [gd, if_pos trivial, gd, if_pos ⟨⟨g0, g1, g2⟩, hc⟩])
  · rw [gdR, if_neg hc]; exact ev_none (by simp only [st1, hd, st2, astJ]; rw [gd, if_pos trivial, gd, if_neg (fun h => hc h.2)])
theorem sx_alen {kk : Int} (hd : decode (mB mi) pc = .ok (.arraylength, 1)) (hk : 20 ≤ kk ∧ kk ≤ 25) (g : KA S a kk len) : ev d mi pc al ((2, a) :: st) S I = ev d mi (pc + 1) al ((0, len) :: st) S I := by
  obtain ⟨g0, g1, g2, rfl⟩ := g
  subst g2
  exact ev_nx (by simp only [st1, hd, st2, alen]; rw [gd, if_pos trivial, if_neg (by omega), gd, if_pos ⟨Or.inl ⟨g0, g1⟩, hk.1, hk.2⟩])
/-! calls -/
theorem sx_max {x' y' : Int} {q : Nat × Nat × Nat} (hd : decode (mB mi) pc = .ok (.invokestatic idx, 3)) (hq : lkm (mC mi) idx = some q) (h10 : q.1 = 12) (hr : (st.map cat).sum ≤ 8) (hx : w x = x') (hy : w y = y') : ev d mi pc al ((0, y) :: (0, x) :: st) S I = ev d mi (pc + 3) al ((0, if x' < y' then y' else x') :: st) S I :=
  ev_nx (by subst hx; subst hy; simp only [st1, hd, st2, call, hq]; rw [gd, if_pos trivial, if_neg (by omega), if_neg (by omega), if_pos h10, if_pos ⟨trivial, hr⟩])
theorem sx_min {x' y' : Int} {q : Nat × Nat × Nat} (hd : decode (mB mi) pc = .ok (.invokestatic idx, 3)) (hq : lkm (mC mi) idx = some q) (h10 : q.1 = 13) (hr : (st.map cat).sum ≤ 8) (hx : w x = x') (hy : w y = y') : ev d mi pc al ((0, y) :: (0, x) :: st) S I = ev d mi (pc + 3) al ((0, if y' < x' then y' else x') :: st) S I :=
  ev_nx (by subst hx; subst hy; simp only [st1, hd, st2, call, hq]; rw [gd, if_pos trivial, if_neg (by omega), if_neg (by omega), if_neg (by omega), if_pos h10, if_pos ⟨trivial, hr⟩])
theorem sx_obj {q : Nat × Nat × Nat} (hd : decode (mB mi) pc = .ok (.invokespecial idx, 3)) (hq : lkm (mC mi) idx = some q) (h10 : q.1 = 10) (ha : 0 ≤ a) (hr : (st.map cat).sum ≤ 8) : ev d mi pc al ((2, a) :: st) S I = ev d mi (pc + 3) al st S I :=
  ev_nx (by simp only [st1, hd, st2, call, hq]; rw [gd, if_pos trivial, if_pos h10, if_pos ⟨trivial, ha, hr⟩])
def cpy (I : II) (a sp b dp n : Int) : II := fun x k => if x = b ∧ dp ≤ k ∧ k < dp + n then I a (sp + (k - dp)) else I x k
theorem sx_acpy {q : Nat × Nat × Nat} {la lb sp dp m : Int} (hd : decode (mB mi) pc = .ok (.invokestatic idx, 3)) (hq : lkm (mC mi) idx = some q) (h10 : q.1 = 11) (ga : KA S a 20 la) (gb : KA S b 20 lb) (hc : 0 ≤ w sp ∧ 0 ≤ w dp ∧ 0 ≤ w m ∧ w sp + w m ≤ la ∧ w dp + w m ≤ lb) (hr : (st.map cat).sum ≤ 8) :
    ev d mi pc al ((0, m) :: (0, dp) :: (2, b) :: (0, sp) :: (2, a) :: st) S I = ev d mi (pc + 3) al st S (cpy I a (w sp) b (w dp) (w m)) := by
  obtain ⟨a0, a1, a2, rfl⟩ := ga
  obtain ⟨b0, b1, b2, rfl⟩ := gb
  exact ev_nx (by simp only [st1, hd, st2, call, hq]; rw [gd, if_pos trivial, if_neg (by omega), if_pos h10, if_pos trivial, acpy, gd, if_pos ⟨⟨a0, a1, a2⟩, ⟨b0, b1, b2⟩, hc.1, hc.2.1, hc.2.2.1, hc.2.2.2.1, hc.2.2.2.2, hr⟩]; rfl)
theorem sx_stat {q : Nat × Nat × Nat} {ag r : List AV} {np nl : Nat} (hd : decode (mB mi) pc = .ok (.invokestatic idx, 3)) (hq : lkm (mC mi) idx = some q) (h1 : q.1 = 0 ∨ q.1 = 3) (hP : mP q.2.1 = np) (hL : mL q.2.1 = nl) (hp : np ≤ st.length) (ha : (st.take np).reverse = ag) (hr' : st.drop np = r) (hr : (r.map cat).sum ≤ 8) (hok : (decide ((args0 ag).length ≤ nl) && ag.all (fun x => decide (x.1 ≠ 9))) = true) (he : args0 ag ++ List.replicate (nl - (args0 ag).length) uU = al') :
    ev (d + 1) mi pc al st S I = (ev d q.2.1 0 al' [] S I).bind (fun q => ev (d + 1) mi (pc + 3) al (psh q.1 r) q.2.1 q.2.2) := by
  subst hP; subst hL; subst ha; subst hr'; subst he
  exact ev_call (by simp only [st1, hd, st2, call, hq]; rw [gd, if_pos trivial, if_neg (by omega), if_neg (by omega), if_neg (by omega), if_neg (by omega), if_pos (by omega), if_pos trivial, if_pos ⟨hp, hr, hok⟩])
theorem sx_virt {q : Nat × Nat × Nat} {ag r : List AV} {np nl c : Nat} (hd : decode (mB mi) pc = .ok (.invokevirtual idx, 3)) (hq : lkm (mC mi) idx = some q) (h1 : q.1 = 1 ∨ q.1 = 4) (hP : mP q.2.1 = np) (hL : mL q.2.1 = nl) (hc : mC q.2.1 = c) (hp : np < st.length) (hr' : st.drop np = (2, a) :: r) (ha : (2, a) :: (st.take np).reverse = ag) (hr : (r.map cat).sum ≤ 8) (hc15 : c ≠ 15) (hv : KO S a ((c : Int) - 2)) (hok : (decide ((args0 ag).length ≤ nl) && ag.all (fun x => decide (x.1 ≠ 9))) = true) (he : args0 ag ++ List.replicate (nl - (args0 ag).length) uU = al') :
    ev (d + 1) mi pc al st S I = (ev d q.2.1 0 al' [] S I).bind (fun q => ev (d + 1) mi (pc + 3) al (psh q.1 r) q.2.1 q.2.2) := by
  have hv' : rcv S (mC q.2.1) a = true := by rw [rcv, hc, if_neg hc15]; exact decide_eq_true hv
  subst hP; subst hL; subst ha; subst he
  exact ev_call (by simp only [st1, hd, st2, call, hq, hr']; rw [gd, if_pos trivial, if_neg (by omega), if_neg (by omega), if_neg (by omega), if_neg (by omega), if_pos (by omega), if_neg (by omega), if_pos ⟨hp, hr, fun _ => hv', by omega, hok⟩])
theorem sx_virtS {q : Nat × Nat × Nat} {ag r : List AV} {np nl : Nat} (hd : decode (mB mi) pc = .ok (.invokevirtual idx, 3)) (hq : lkm (mC mi) idx = some q) (h1 : q.1 = 1 ∨ q.1 = 4) (hP : mP q.2.1 = np) (hL : mL q.2.1 = nl) (hc : mC q.2.1 = 15) (hp : np < st.length) (hr' : st.drop np = (2, a) :: r) (ha : (2, a) :: (st.take np).reverse = ag) (hr : (r.map cat).sum ≤ 8) (hv : isT (-10 - a)) (hok : (decide ((args0 ag).length ≤ nl) && ag.all (fun x => decide (x.1 ≠ 9))) = true) (he : args0 ag ++ List.replicate (nl - (args0 ag).length) uU = al') :
    ev (d + 1) mi pc al st S I = (ev d q.2.1 0 al' [] S I).bind (fun q => ev (d + 1) mi (pc + 3) al (psh q.1 r) q.2.1 q.2.2) := by
  have hv' : rcv S (mC q.2.1) a = true := by rw [rcv, hc, if_pos rfl]; exact decide_eq_true hv
  subst hP; subst hL; subst ha; subst he
  exact ev_call (by simp only [st1, hd, st2, call, hq, hr']; rw [gd, if_pos trivial, if_neg (by omega), if_neg (by omega), if_neg (by omega), if_neg (by omega), if_pos (by omega), if_neg (by omega), if_pos ⟨hp, hr, fun _ => hv', by omega, hok⟩])
theorem sx_spec {q : Nat × Nat × Nat} {ag r : List AV} {np nl : Nat} (hd : decode (mB mi) pc = .ok (.invokespecial idx, 3)) (hq : lkm (mC mi) idx = some q) (h1 : q.1 = 2 ∨ q.1 = 5) (hP : mP q.2.1 = np) (hL : mL q.2.1 = nl) (hp : np < st.length) (hr' : st.drop np = (2, a) :: r) (ha : (2, a) :: (st.take np).reverse = ag) (hr : (r.map cat).sum ≤ 8) (hv : 0 ≤ a) (hok : (decide ((args0 ag).length ≤ nl) && ag.all (fun x => decide (x.1 ≠ 9))) = true) (he : args0 ag ++ List.replicate (nl - (args0 ag).length) uU = al') :
    ev (d + 1) mi pc al st S I = (ev d q.2.1 0 al' [] S I).bind (fun q => ev (d + 1) mi (pc + 3) al (psh q.1 r) q.2.1 q.2.2) := by
  subst hP; subst hL; subst ha; subst he
  exact ev_call (by simp only [st1, hd, st2, call, hq, hr']; rw [gd, if_pos trivial, if_neg (by omega), if_neg (by omega), if_neg (by omega), if_neg (by omega), if_pos (by omega), if_neg (by omega), if_pos ⟨hp, hr, by omega, fun _ => hv, hok⟩])
theorem sx_nolink0 (hd : decode (mB mi) pc = .ok (.invokestatic idx, 3)) (hq : lkm (mC mi) idx = none) : ev d mi pc al st S I = none :=
  ev_none (by simp only [st1, hd, st2, call, hq, gd, ite_self])
theorem sx_nolink1 (hd : decode (mB mi) pc = .ok (.invokevirtual idx, 3)) (hq : lkm (mC mi) idx = none) : ev d mi pc al st S I = none :=
  ev_none (by simp only [st1, hd, st2, call, hq, gd, ite_self])
theorem sx_nolink2 (hd : decode (mB mi) pc = .ok (.invokespecial idx, 3)) (hq : lkm (mC mi) idx = none) : ev d mi pc al st S I = none :=
  ev_none (by simp only [st1, hd, st2, call, hq, gd, ite_self])
theorem sx_noclass (hd : decode (mB mi) pc = .ok (.new idx, 3)) (hq : lkc (mC mi) idx = none) : ev d mi pc al st S I = none :=
  ev_none (by simp only [st1, hd, st2, newO, hq, gd, ite_self])
theorem sx_athrow (hd : decode (mB mi) pc = .ok (.athrow, 1)) : ev d mi pc al st S I = none :=
  ev_none (by simp only [st1, hd, st2])
/-! making -/
theorem sx_newarr {kk : Int} {ty : ArrayType} (hd : decode (mB mi) pc = .ok (.newarray ty, 2)) (ht : (ty = .int ∧ kk = 20) ∨ (ty = .long ∧ kk = 21) ∨ (ty = .char ∧ kk = 22) ∨ (ty = .boolean ∧ kk = 23)) (hz : w z = ((w z).toNat : Nat) ∧ w z ≤ 100000) : ev d mi pc al ((0, z) :: st) S I = ev d mi (pc + 2) al ((2, (S.1 : Int)) :: st) (newS S kk (w z).toNat) (newI S I) := by
  have h0 : 0 ≤ w z ∧ w z ≤ 100000 := ⟨by omega, hz.2⟩
  rcases ht with ⟨rfl, rfl⟩ | ⟨rfl, rfl⟩ | ⟨rfl, rfl⟩ | ⟨rfl, rfl⟩ <;>
    exact ev_nx (by simp only [st1, hd, st2, newT, newA]; rw [gd, if_pos trivial, gd, if_pos h0])
theorem sx_newobj {q : Nat × Nat} (hd : decode (mB mi) pc = .ok (.new idx, 3)) (hq : lkc (mC mi) idx = some q) : ev d mi pc al st S I = ev d mi (pc + 3) al ((2, (S.1 : Int)) :: st) (newS S (q.1 : Int) (fN q.1)) (newI S I) :=
  ev_nx (by simp only [st1, hd, st2, newO, hq]; rw [gd, if_pos trivial])
theorem sx_newref {q : Nat × Nat} {kk : Int} (hd : decode (mB mi) pc = .ok (.anewarray idx, 3)) (hq : lkc (mC mi) idx = some q) (hk : (q.1 = 1 ∧ kk = 24) ∨ (q.1 = 3 ∧ kk = 25)) (hz : 0 ≤ w z ∧ w z ≤ 100000) : ev d mi pc al ((0, z) :: st) S I = ev d mi (pc + 3) al ((2, (S.1 : Int)) :: st) (newS S kk (w z).toNat) (newI S I) := by
  rcases hk with ⟨h, rfl⟩ | ⟨h, rfl⟩
  · exact ev_nx (by simp only [st1, hd, st2, newR, hq, newA]; rw [gd, if_pos trivial, if_pos h, gd, if_pos hz])
  · exact ev_nx (by simp only [st1, hd, st2, newR, hq, newA]; rw [gd, if_pos trivial, if_neg (by omega), if_pos h, gd, if_pos hz])
theorem sx_rs {kk : Int} (hd : decode (mB mi) pc = .ok (.aastore, 1)) (hk : (kk = 24 ∧ KO S v 1) ∨ (kk = 25 ∧ KO S v 3)) (g : KA S a kk len) (hi : 0 ≤ w i ∧ w i < len) : ev d mi pc al ((2, v) :: (0, i) :: (2, a) :: st) S I = ev d mi (pc + 1) al st (S.1, S.2.1, S.2.2.1, up2 (sG S) a (w i) v) I := by
  obtain ⟨g0, g1, g2, rfl⟩ := g
  have g3 : isK S a 24 ∧ isK S v 1 ∨ isK S a 25 ∧ isK S v 3 := by
    rcases hk with ⟨rfl, h⟩ | ⟨rfl, h⟩
    · exact Or.inl ⟨⟨g0, g1, g2⟩, h⟩
    · exact Or.inr ⟨⟨g0, g1, g2⟩, h⟩
  exact ev_nx (by simp only [st1, hd, st2, astR]; rw [gd, if_pos trivial, gd, if_pos ⟨g3, hi⟩])
/-! numbers that stand as they are -/
theorem w_toInt (x : Int32) : w x.toInt = x.toInt := by rw [w, Int32.ofInt_toInt]
theorem w_w (z : Int) : w (w z) = w z := w_toInt _
theorem w_bmod (z : Int) : w z = z.bmod 4294967296 := Int32.toInt_ofInt
theorem and7 (z : Int) : iAnd z 7 = z % 8 := by
  have h1 : iAnd z 7 = (BitVec.ofInt 32 z &&& 7#32).toInt := rfl
  have h2 : (BitVec.ofInt 32 z &&& 7#32).toNat = (BitVec.ofInt 32 z).toNat % 8 := by
    rw [BitVec.toNat_and]; exact Nat.and_two_pow_sub_one_eq_mod _ 3
  have h3 : (BitVec.ofInt 32 z).toNat = (z % 4294967296).toNat := BitVec.toNat_ofInt ..
  rw [h1, BitVec.toInt_eq_toNat_cond, h2, h3]
  have h4 : 2 * ((z % 4294967296).toNat % 8) < 2 ^ 32 := by omega
  rw [if_pos h4]
  omega
theorem w_and7 (z : Int) : w (iAnd z 7) = z % 8 := (w_toInt _).trans (and7 z)
theorem w_mod8 (z : Int) : w (z % 8) = z % 8 := w_small (by omega) (by omega)
theorem w_ite {c : Prop} [Decidable c] {a b : Int} (ha : w a = a) (hb : w b = b) : w (if c then a else b) = if c then a else b := by
  by_cases h : c
  · rw [if_pos h]; exact ha
  · rw [if_neg h]; exact hb
theorem mod8_lo (z : Int) : 0 ≤ z % 8 := Int.emod_nonneg _ (by decide)
theorem mod8_hi (z : Int) : z % 8 < 8 := Int.emod_lt_of_pos _ (by decide)
end ops
