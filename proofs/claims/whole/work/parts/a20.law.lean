/-! the law's own instructions -/
def LOC (i : Int) (x5 x6 x7 : AV) : List AV := [(2, -2), (2, 0), (2, 427), (2, 455), (0, i), x5, x6, x7]
/-- the script: its length, the place in it -/
def SCR (S : SS) (i L : Int) : Prop := sH S (-2) = (20, L) ∧ 0 ≤ i ∧ i + 5 ≤ L ∧ L ≤ 2560
/-- from a place to 1331 -/
def LX (d : Nat) (N : Int) (S : SS) (I : II) (P : Nat) (al : List AV) : Prop := ∃ T I2, SG 325 (d + 100) P al [] S I 1331 al [] T I2 ∧ ST (N + 120000) I2 ∧ SE S T ∧ T.1 ≤ S.1 + 4 ∧ T.2.1 ≤ S.2.1 + 40 ∧ ∀ k, I2 (-2) k = I (-2) k
abbrev MFc (m p c l : Nat) : Prop := mP m = p ∧ mC m = c ∧ mL m = l
/-- a link of the law's -/
def LK (mi idx mj : Nat) : Prop := ∃ q, lkm (mC mi) idx = some q ∧ q.1 = 1 ∧ q.2.1 = mj
theorem lk_of {mi idx mj : Nat} (h : ((lkm (mC mi) idx).map (fun q => (q.1, q.2.1))) = some (1, mj)) : LK mi idx mj := by
  cases hq : lkm (mC mi) idx with
  | none => rw [hq] at h; simp at h
  | some q => rw [hq] at h; simp only [Option.map_some, Option.some.injEq, Prod.mk.injEq] at h; exact ⟨q, hq, h.1, h.2⟩
abbrev argD (pc : Nat) (j : Int) : Prop := decode (mB 325) pc = .ok (.aload_n 0, 1) ∧ decode (mB 325) (pc + 1) = .ok (.iload 4, 2) ∧ decode (mB 325) (pc + 3) = .ok (.iconst j, 1) ∧ decode (mB 325) (pc + 4) = .ok (.iadd, 1) ∧ decode (mB 325) (pc + 5) = .ok (.iaload, 1)
section r120
variable {d mi pc pc' n idx mj np nl c : Nat} {al al' st st2 : List AV} {S : SS} {I : II} {a x y z v i j k L off N : Int} {t : Nat} {x5 x6 x7 : AV}
theorem sg_aload_n {n : Fin 4} (hd : decode (mB mi) pc = .ok (.aload_n n, 1)) (hl : al[(n : Nat)]? = some (2, x)) : st1 mi pc al st S I = nx (pc + 1) al ((2, x) :: st) S I := (by simp [st1, hd, st2, gd, ldL, hl])
theorem sg_iload (hd : decode (mB mi) pc = .ok (.iload n, 2)) (hl : al[n]? = some (0, x)) : st1 mi pc al st S I = nx (pc + 2) al ((0, x) :: st) S I := (by simp [st1, hd, st2, gd, ldL, hl])
theorem sg_istore (hd : decode (mB mi) pc = .ok (.istore n, 2)) (hn : n < al.length) (hg : isLong al n = false) (hs : al.set n (0, x) = al') : st1 mi pc al ((0, x) :: st) S I = nx (pc + 2) al' st S I := (by subst hs; simp [st1, hd, st2, gd, stL, hn, hg])
theorem sg_lstore (hd : decode (mB mi) pc = .ok (.lstore n, 2)) (hn : n + 1 < al.length) (hg : isLong al n = false) (hs : (al.set n (1, x)).set (n + 1) uU = al') : st1 mi pc al ((1, x) :: st) S I = nx (pc + 2) al' st S I := (by subst hs; simp [st1, hd, st2, gd, stJ, hn, hg])
theorem sg_lload (hd : decode (mB mi) pc = .ok (.lload n, 2)) (hl : al[n]? = some (1, x)) : st1 mi pc al st S I = nx (pc + 2) al ((1, x) :: st) S I := (by simp [st1, hd, st2, gd, ldL, hl])
theorem sg_bipush (hd : decode (mB mi) pc = .ok (.bipush z, 2)) (h : -128 ≤ z ∧ z < 128) : st1 mi pc al st S I = nx (pc + 2) al ((0, z) :: st) S I := (by simp [st1, hd, st2, gd, h])
theorem sg_iconst (hd : decode (mB mi) pc = .ok (.iconst z, 1)) : st1 mi pc al st S I = nx (pc + 1) al ((0, z) :: st) S I := (by simp [st1, hd, st2, gd])
theorem sg_dup (hd : decode (mB mi) pc = .ok (.dup, 1)) (h : t ≠ 1) : st1 mi pc al ((t, x) :: st) S I = nx (pc + 1) al ((t, x) :: (t, x) :: st) S I := (by simp [st1, hd, st2, gd, h])
theorem sg_iadd (hd : decode (mB mi) pc = .ok (.iadd, 1)) : st1 mi pc al ((0, y) :: (0, x) :: st) S I = nx (pc + 1) al ((0, x + y) :: st) S I := (by simp [st1, hd, st2, gd, bin])
theorem sg_isub (hd : decode (mB mi) pc = .ok (.isub, 1)) : st1 mi pc al ((0, y) :: (0, x) :: st) S I = nx (pc + 1) al ((0, x - y) :: st) S I := (by simp [st1, hd, st2, gd, bin])
theorem sg_iand (hd : decode (mB mi) pc = .ok (.iand, 1)) : st1 mi pc al ((0, y) :: (0, x) :: st) S I = nx (pc + 1) al ((0, iAnd x y) :: st) S I := (by simp [st1, hd, st2, gd, bin])
theorem sg_i2l (hd : decode (mB mi) pc = .ok (.i2l, 1)) : st1 mi pc al ((0, x) :: st) S I = nx (pc + 1) al ((1, w x) :: st) S I := (by simp [st1, hd, st2, gd])
theorem sg_lcmp (hd : decode (mB mi) pc = .ok (.lcmp, 1)) : st1 mi pc al ((1, y) :: (1, x) :: st) S I = nx (pc + 1) al ((0, lCmp x y) :: st) S I := (by simp [st1, hd, st2, gd])
theorem sg_iinc (hd : decode (mB mi) pc = .ok (.iinc n z, 3)) (hl : al[n]? = some (0, x)) (hs : al.set n (0, x + z) = al') : st1 mi pc al st S I = nx (pc + 3) al' st S I := (by subst hs; simp [st1, hd, st2, gd, hl])
theorem sg_goto (hd : decode (mB mi) pc = .ok (.goto off, 3)) (h0 : 0 ≤ (pc : Int) + off) (h : ((pc : Int) + off).toNat = pc') : st1 mi pc al st S I = nx pc' al st S I := (by subst h; simp only [st1, hd, st2]; rw [gd, if_pos trivial, jmp, if_pos h0])
theorem sg_astore_n {n : Fin 4} (hd : decode (mB mi) pc = .ok (.astore_n n, 1)) (hn : (n : Nat) < al.length) (hg : isLong al (n : Nat) = false) (hs : al.set (n : Nat) (2, x) = al') : st1 mi pc al ((2, x) :: st) S I = nx (pc + 1) al' st S I := (by subst hs; simp [st1, hd, st2, gd, stL, hn, hg])
theorem sg_if_eq (hd : decode (mB mi) pc = .ok (.if_icmp .eq off, 3)) (h0 : 0 ≤ (pc : Int) + off) (h1 : ((pc : Int) + off).toNat = pc') (h : w x = w y) : st1 mi pc al ((0, y) :: (0, x) :: st) S I = nx pc' al st S I := by
  subst h1; simp only [st1, hd, st2, cmpd]; rw [gd, if_pos ⟨trivial, h0⟩, if_pos h, jmp, if_pos h0]
theorem sg_if_gtT (hd : decode (mB mi) pc = .ok (.if_icmp .gt off, 3)) (h0 : 0 ≤ (pc : Int) + off) (h1 : ((pc : Int) + off).toNat = pc') (h : w y < w x) : st1 mi pc al ((0, y) :: (0, x) :: st) S I = nx pc' al st S I := by
  subst h1; simp only [st1, hd, st2, cmpd]; rw [gd, if_pos ⟨trivial, h0⟩, if_pos h, jmp, if_pos h0]
theorem sg_if_gtF (hd : decode (mB mi) pc = .ok (.if_icmp .gt off, 3)) (h0 : 0 ≤ (pc : Int) + off) (h : ¬ w y < w x) : st1 mi pc al ((0, y) :: (0, x) :: st) S I = nx (pc + 3) al st S I := by
  simp only [st1, hd, st2, cmpd]; rw [gd, if_pos ⟨trivial, h0⟩, if_neg h]
theorem sg_i0_eqT (hd : decode (mB mi) pc = .ok (.ifCond .eq off, 3)) (h0 : 0 ≤ (pc : Int) + off) (h1 : ((pc : Int) + off).toNat = pc') (h : w x = w 0) : st1 mi pc al ((0, x) :: st) S I = nx pc' al st S I := by
  subst h1; simp only [st1, hd, st2, cmpd]; rw [gd, if_pos ⟨trivial, h0⟩, if_pos h, jmp, if_pos h0]
theorem sg_i0_neT (hd : decode (mB mi) pc = .ok (.ifCond .ne off, 3)) (h0 : 0 ≤ (pc : Int) + off) (h1 : ((pc : Int) + off).toNat = pc') (h : ¬ w x = w 0) : st1 mi pc al ((0, x) :: st) S I = nx pc' al st S I := by
  subst h1; simp only [st1, hd, st2, cmpd]; rw [gd, if_pos ⟨trivial, h0⟩, if_neg h, jmp, if_pos h0]
theorem sg_i0_neF (hd : decode (mB mi) pc = .ok (.ifCond .ne off, 3)) (h0 : 0 ≤ (pc : Int) + off) (h : w x = w 0) : st1 mi pc al ((0, x) :: st) S I = nx (pc + 3) al st S I := by
  simp only [st1, hd, st2, cmpd]; rw [gd, if_pos ⟨trivial, h0⟩, if_pos h]
theorem sg_ia (hd : decode (mB mi) pc = .ok (.iaload, 1)) (hk : (sH S (-2)).1 = 20) (h0 : 0 ≤ i) (h1 : i < (sH S (-2)).2) (h2 : i < 100000) : st1 mi pc al ((0, i) :: (2, -2) :: st) S I = nx (pc + 1) al ((0, I (-2) i) :: st) S I := by
  have e : w i = i := w_small (by omega) (by omega)
  simp only [st1, hd, st2, aldI]; rw [gd, if_pos trivial, gd, if_pos ⟨Or.inr trivial, hk, by rw [e]; exact h0, by rw [e]; exact h1⟩, e]
theorem sg_la {len : Int} (hd : decode (mB mi) pc = .ok (.laload, 1)) (g : KA S a 21 len) (h0 : 0 ≤ i) (h1 : i < len) (h2 : i < 100000) : st1 mi pc al ((0, i) :: (2, a) :: st) S I = nx (pc + 1) al ((1, I a i) :: st) S I := by
  obtain ⟨g0, g1, g2, rfl⟩ := g
  have e : w i = i := w_small (by omega) (by omega)
  simp only [st1, hd, st2, aldJ]; rw [gd, if_pos trivial, gd, if_pos ⟨⟨g0, g1, g2⟩, by rw [e]; exact h0, by rw [e]; exact h1⟩, e]
theorem sg_alen (hd : decode (mB mi) pc = .ok (.arraylength, 1)) (hk : sH S (-2) = (20, L)) : st1 mi pc al ((2, -2) :: st) S I = nx (pc + 1) al ((0, L) :: st) S I := by
  simp only [st1, hd, st2, alen]; rw [gd, if_pos trivial, if_neg (by decide), gd, if_pos ⟨Or.inr trivial, by rw [hk]; show (20 : Int) ≤ 20; decide, by rw [hk]; show (20 : Int) ≤ 25; decide⟩, hk]
theorem sg_tsw {dd lo hi : Int} {offs : Array Int} {o : Int} (hd : decode (mB mi) pc = .ok (.tableswitch dd lo hi offs, n)) (hx : w x = k) (hr : ¬ (k < lo ∨ hi < k)) (ho : offs[(k - lo).toNat]? = some o) (h0 : 0 ≤ (pc : Int) + o) (h : ((pc : Int) + o).toNat = pc') : st1 mi pc al ((0, x) :: st) S I = nx pc' al st S I := by
  subst h; subst hx; simp only [st1, hd, st2, swt, if_neg hr, ho, jmp, if_pos h0]
theorem sg_tsd {dd lo hi : Int} {offs : Array Int} (hd : decode (mB mi) pc = .ok (.tableswitch dd lo hi offs, n)) (hr : w x < lo ∨ hi < w x) (h0 : 0 ≤ (pc : Int) + dd) (h : ((pc : Int) + dd).toNat = pc') : st1 mi pc al ((0, x) :: st) S I = nx pc' al st S I := by
  subst h; simp only [st1, hd, st2, swt, if_pos hr, jmp, if_pos h0]
theorem sg_virt {ag r : List AV} (hd : decode (mB mi) pc = .ok (.invokevirtual idx, 3)) (hq : LK mi idx mj) (hf : MFc mj np c nl) (hp : np < st.length) (hr' : st.drop np = (2, a) :: r) (ha : (2, a) :: (st.take np).reverse = ag) (hr : (r.map cat).sum ≤ 8) (hc15 : c ≠ 15) (hv : KO S a ((c : Int) - 2)) (hok : (decide ((args0 ag).length ≤ nl) && ag.all (fun x => decide (x.1 ≠ 9))) = true) :
    st1 mi pc al st S I = some (.inr (.inr (mj, ag, r))) := by
  obtain ⟨hP, hc, hL⟩ := hf
  obtain ⟨q, hq, h1, rfl⟩ := hq
  have hv' : rcv S (mC q.2.1) a = true := by rw [rcv, hc, if_neg hc15]; exact decide_eq_true hv
  subst hP; subst hL; subst ha
  simp only [st1, hd, st2, call, hq, hr']; rw [gd, if_pos trivial, if_neg (by omega), if_neg (by omega), if_neg (by omega), if_neg (by omega), if_pos (by omega), if_neg (by omega), if_pos ⟨hp, hr, fun _ => hv', by omega, hok⟩]
theorem ent_of {ag : List AV} (hf : MFc mj np c nl) (h : args0 ag ++ List.replicate (nl - (args0 ag).length) uU = al) : ent mj ag = al := by
  obtain ⟨_, _, rfl⟩ := hf; exact h
theorem sg_arg (hD : argD pc j) (hs : SCR S i L) (j0 : 0 ≤ j) (j1 : j < 5) : SG 325 d pc (LOC i x5 x6 x7) st S I (pc + 6) (LOC i x5 x6 x7) ((0, I (-2) (i + j)) :: st) S I := by
  obtain ⟨d0, d1, d2, d3, d4⟩ := hD
  obtain ⟨s0, s1, s2, s3⟩ := hs
  refine SG.to (sg_aload_n d0 rfl) ?_
  refine SG.to (sg_iload d1 rfl) ?_
  refine SG.to (sg_iconst d2) ?_
  refine SG.to (sg_iadd d3) ?_
  exact SG.one (sg_ia d4 (by rw [s0]) (by omega) (by rw [s0]; show i + j < L; omega) (by omega))
theorem SG.cl2 {pc2 : Nat} {al2 st2' : List AV} {S2 : SS} {I2 : II} {ag r st1' : List AV} {v1 : AV} {S1 : SS} {I1 : II} (hs : st1 mi pc al st S I = some (.inr (.inr (mj, ag, r)))) (hev : ev d mj 0 (ent mj ag) [] S I = some (v1, S1, I1)) (hp : psh v1 r = st1') (h2 : SG mi d (pc + 3) al st1' S1 I1 pc2 al2 st2' S2 I2) : SG mi d pc al st S I pc2 al2 st2' S2 I2 := by
  subst hp; exact SG.cl hs hev h2
abbrev CD0 (P ci ri : Nat) (off : Int) : Prop := decode (mB 325) P = .ok (.aload_n 1, 1) ∧ decode (mB 325) (P + 1) = .ok (.invokevirtual ci, 3) ∧ decode (mB 325) (P + 4) = .ok (.aload_n 2, 1) ∧ decode (mB 325) (P + 5) = .ok (.invokevirtual ri, 3) ∧ decode (mB 325) (P + 8) = .ok (.if_icmp .eq off, 3)
theorem lc0 {P ci ri ma mb la lb : Nat} {A B : List AV} (hD : CD0 P ci ri off) (ho : ((P + 8 : Nat) : Int) + off = 1331) (ka : LK 325 ci ma) (kb : LK 325 ri mb) (fa : MFc ma 0 10 la) (fb : MFc mb 0 11 lb) (hS : SH S) (hs : SCR S i L) (ea : args0 [(2, 0)] ++ List.replicate (la - (args0 [(2, 0)]).length) uU = A) (eb : args0 [(2, 427)] ++ List.replicate (lb - (args0 [(2, 427)]).length) uU = B) (hc : CR d A B ma mb N S I) (oa : (decide ((args0 [(2, 0)]).length ≤ la) && ([(2, 0)] : List AV).all (fun x => decide (x.1 ≠ 9))) = true := by rfl) (ob : (decide ((args0 [(2, 427)]).length ≤ lb) && ([(2, 427)] : List AV).all (fun x => decide (x.1 ≠ 9))) = true := by rfl) : LX d N S I P (LOC i x5 x6 x7) := by
  obtain ⟨r, T, I1, I2, e1, e2, hst, se, t1, t2⟩ := hc
  obtain ⟨n1, n2⟩ := ev_nv e1
  replace n2 : ∀ k, I1 (-2) k = I (-2) k := n2
  obtain ⟨-, m2⟩ := ev_nv e2
  replace m2 : ∀ k, I2 (-2) k = I1 (-2) k := m2
  have hT := SH_ext se hS
  have hs2 : SCR T i L := ⟨n1.trans hs.1, hs.2⟩
  obtain ⟨D0, D1, D2, D3, D4⟩ := hD
  refine ⟨T, I2, ?_, hst, se, t1, t2, fun k => (m2 k).trans (n2 k)⟩
  refine SG.to (sg_aload_n D0 rfl) ?_
  refine SG.cl2 (st1' := [(0, r)]) (sg_virt (ag := [(2, 0)]) (r := []) D1 ka fa (Nat.le_of_ble_eq_true rfl) rfl rfl (Nat.le_of_ble_eq_true rfl) (by decide) (QA_o hS.1) oa) ((congrArg (fun z => ev (d + 100) ma 0 z [] S I) (ent_of fa ea)).trans e1) rfl ?_
  refine SG.to (sg_aload_n D2 rfl) ?_
  refine SG.cl2 (st1' := [(0, r), (0, r)]) (sg_virt (ag := [(2, 427)]) (r := [(0, r)]) D3 kb fb (Nat.le_of_ble_eq_true rfl) rfl rfl (Nat.le_of_ble_eq_true rfl) (by decide) (MA_o hT.2) ob) ((congrArg (fun z => ev (d + 100) mb 0 z [] T I1) (ent_of fb eb)).trans e2) rfl ?_
  exact SG.one (sg_if_eq D4 (by omega) (by omega) rfl)
abbrev CD1 (P ci ri : Nat) (off : Int) : Prop := decode (mB 325) P = .ok (.aload_n 1, 1) ∧ argD (P + 1) 1 ∧ decode (mB 325) (P + 7) = .ok (.invokevirtual ci, 3) ∧ decode (mB 325) (P + 10) = .ok (.aload_n 2, 1) ∧ argD (P + 11) 1 ∧ decode (mB 325) (P + 17) = .ok (.invokevirtual ri, 3) ∧ decode (mB 325) (P + 20) = .ok (.if_icmp .eq off, 3)
theorem lc1 {P ci ri ma mb la lb : Nat} {A B : List AV} (hD : CD1 P ci ri off) (ho : ((P + 20 : Nat) : Int) + off = 1331) (ka : LK 325 ci ma) (kb : LK 325 ri mb) (fa : MFc ma 1 10 la) (fb : MFc mb 1 11 lb) (hS : SH S) (hs : SCR S i L) (ea : args0 [(2, 0), (0, I (-2) (i + 1))] ++ List.replicate (la - (args0 [(2, 0), (0, I (-2) (i + 1))]).length) uU = A) (eb : args0 [(2, 427), (0, I (-2) (i + 1))] ++ List.replicate (lb - (args0 [(2, 427), (0, I (-2) (i + 1))]).length) uU = B) (hc : CR d A B ma mb N S I) (oa : (decide ((args0 [(2, 0), (0, I (-2) (i + 1))]).length ≤ la) && ([(2, 0), (0, I (-2) (i + 1))] : List AV).all (fun x => decide (x.1 ≠ 9))) = true := by rfl) (ob : (decide ((args0 [(2, 427), (0, I (-2) (i + 1))]).length ≤ lb) && ([(2, 427), (0, I (-2) (i + 1))] : List AV).all (fun x => decide (x.1 ≠ 9))) = true := by rfl) : LX d N S I P (LOC i x5 x6 x7) := by
  obtain ⟨r, T, I1, I2, e1, e2, hst, se, t1, t2⟩ := hc
  obtain ⟨n1, n2⟩ := ev_nv e1
  replace n2 : ∀ k, I1 (-2) k = I (-2) k := n2
  obtain ⟨-, m2⟩ := ev_nv e2
  replace m2 : ∀ k, I2 (-2) k = I1 (-2) k := m2
  have hT := SH_ext se hS
  have hs2 : SCR T i L := ⟨n1.trans hs.1, hs.2⟩
  obtain ⟨D0, D1, D2, D3, D4, D5, D6⟩ := hD
  refine ⟨T, I2, ?_, hst, se, t1, t2, fun k => (m2 k).trans (n2 k)⟩
  refine SG.to (sg_aload_n D0 rfl) ?_
  refine SG.tr (sg_arg D1 hs (by decide) (by decide)) ?_
  refine SG.cl2 (st1' := [(0, r)]) (sg_virt (ag := [(2, 0), (0, I (-2) (i + 1))]) (r := []) D2 ka fa (Nat.le_of_ble_eq_true rfl) rfl rfl (Nat.le_of_ble_eq_true rfl) (by decide) (QA_o hS.1) oa) ((congrArg (fun z => ev (d + 100) ma 0 z [] S I) (ent_of fa ea)).trans e1) rfl ?_
  refine SG.to (sg_aload_n D3 rfl) ?_
  refine SG.tr (sg_arg D4 hs2 (by decide) (by decide)) ?_
  rw [n2]
  refine SG.cl2 (st1' := [(0, r), (0, r)]) (sg_virt (ag := [(2, 427), (0, I (-2) (i + 1))]) (r := [(0, r)]) D5 kb fb (Nat.le_of_ble_eq_true rfl) rfl rfl (Nat.le_of_ble_eq_true rfl) (by decide) (MA_o hT.2) ob) ((congrArg (fun z => ev (d + 100) mb 0 z [] T I1) (ent_of fb eb)).trans e2) rfl ?_
  exact SG.one (sg_if_eq D6 (by omega) (by omega) rfl)
abbrev CD2 (P ci ri : Nat) (off : Int) : Prop := decode (mB 325) P = .ok (.aload_n 1, 1) ∧ argD (P + 1) 1 ∧ argD (P + 7) 2 ∧ decode (mB 325) (P + 13) = .ok (.invokevirtual ci, 3) ∧ decode (mB 325) (P + 16) = .ok (.aload_n 2, 1) ∧ argD (P + 17) 1 ∧ argD (P + 23) 2 ∧ decode (mB 325) (P + 29) = .ok (.invokevirtual ri, 3) ∧ decode (mB 325) (P + 32) = .ok (.if_icmp .eq off, 3)
theorem lc2 {P ci ri ma mb la lb : Nat} {A B : List AV} (hD : CD2 P ci ri off) (ho : ((P + 32 : Nat) : Int) + off = 1331) (ka : LK 325 ci ma) (kb : LK 325 ri mb) (fa : MFc ma 2 10 la) (fb : MFc mb 2 11 lb) (hS : SH S) (hs : SCR S i L) (ea : args0 [(2, 0), (0, I (-2) (i + 1)), (0, I (-2) (i + 2))] ++ List.replicate (la - (args0 [(2, 0), (0, I (-2) (i + 1)), (0, I (-2) (i + 2))]).length) uU = A) (eb : args0 [(2, 427), (0, I (-2) (i + 1)), (0, I (-2) (i + 2))] ++ List.replicate (lb - (args0 [(2, 427), (0, I (-2) (i + 1)), (0, I (-2) (i + 2))]).length) uU = B) (hc : CR d A B ma mb N S I) (oa : (decide ((args0 [(2, 0), (0, I (-2) (i + 1)), (0, I (-2) (i + 2))]).length ≤ la) && ([(2, 0), (0, I (-2) (i + 1)), (0, I (-2) (i + 2))] : List AV).all (fun x => decide (x.1 ≠ 9))) = true := by rfl) (ob : (decide ((args0 [(2, 427), (0, I (-2) (i + 1)), (0, I (-2) (i + 2))]).length ≤ lb) && ([(2, 427), (0, I (-2) (i + 1)), (0, I (-2) (i + 2))] : List AV).all (fun x => decide (x.1 ≠ 9))) = true := by rfl) : LX d N S I P (LOC i x5 x6 x7) := by
  obtain ⟨r, T, I1, I2, e1, e2, hst, se, t1, t2⟩ := hc
  obtain ⟨n1, n2⟩ := ev_nv e1
  replace n2 : ∀ k, I1 (-2) k = I (-2) k := n2
  obtain ⟨-, m2⟩ := ev_nv e2
  replace m2 : ∀ k, I2 (-2) k = I1 (-2) k := m2
  have hT := SH_ext se hS
  have hs2 : SCR T i L := ⟨n1.trans hs.1, hs.2⟩
  obtain ⟨D0, D1, D2, D3, D4, D5, D6, D7, D8⟩ := hD
  refine ⟨T, I2, ?_, hst, se, t1, t2, fun k => (m2 k).trans (n2 k)⟩
  refine SG.to (sg_aload_n D0 rfl) ?_
  refine SG.tr (sg_arg D1 hs (by decide) (by decide)) ?_
  refine SG.tr (sg_arg D2 hs (by decide) (by decide)) ?_
  refine SG.cl2 (st1' := [(0, r)]) (sg_virt (ag := [(2, 0), (0, I (-2) (i + 1)), (0, I (-2) (i + 2))]) (r := []) D3 ka fa (Nat.le_of_ble_eq_true rfl) rfl rfl (Nat.le_of_ble_eq_true rfl) (by decide) (QA_o hS.1) oa) ((congrArg (fun z => ev (d + 100) ma 0 z [] S I) (ent_of fa ea)).trans e1) rfl ?_
  refine SG.to (sg_aload_n D4 rfl) ?_
  refine SG.tr (sg_arg D5 hs2 (by decide) (by decide)) ?_
  rw [n2]
  refine SG.tr (sg_arg D6 hs2 (by decide) (by decide)) ?_
  rw [n2]
  refine SG.cl2 (st1' := [(0, r), (0, r)]) (sg_virt (ag := [(2, 427), (0, I (-2) (i + 1)), (0, I (-2) (i + 2))]) (r := [(0, r)]) D7 kb fb (Nat.le_of_ble_eq_true rfl) rfl rfl (Nat.le_of_ble_eq_true rfl) (by decide) (MA_o hT.2) ob) ((congrArg (fun z => ev (d + 100) mb 0 z [] T I1) (ent_of fb eb)).trans e2) rfl ?_
  exact SG.one (sg_if_eq D8 (by omega) (by omega) rfl)
abbrev CD3 (P ci ri : Nat) (off : Int) : Prop := decode (mB 325) P = .ok (.aload_n 1, 1) ∧ argD (P + 1) 1 ∧ argD (P + 7) 2 ∧ argD (P + 13) 3 ∧ decode (mB 325) (P + 19) = .ok (.invokevirtual ci, 3) ∧ decode (mB 325) (P + 22) = .ok (.aload_n 2, 1) ∧ argD (P + 23) 1 ∧ argD (P + 29) 2 ∧ argD (P + 35) 3 ∧ decode (mB 325) (P + 41) = .ok (.invokevirtual ri, 3) ∧ decode (mB 325) (P + 44) = .ok (.if_icmp .eq off, 3)
theorem lc3 {P ci ri ma mb la lb : Nat} {A B : List AV} (hD : CD3 P ci ri off) (ho : ((P + 44 : Nat) : Int) + off = 1331) (ka : LK 325 ci ma) (kb : LK 325 ri mb) (fa : MFc ma 3 10 la) (fb : MFc mb 3 11 lb) (hS : SH S) (hs : SCR S i L) (ea : args0 [(2, 0), (0, I (-2) (i + 1)), (0, I (-2) (i + 2)), (0, I (-2) (i + 3))] ++ List.replicate (la - (args0 [(2, 0), (0, I (-2) (i + 1)), (0, I (-2) (i + 2)), (0, I (-2) (i + 3))]).length) uU = A) (eb : args0 [(2, 427), (0, I (-2) (i + 1)), (0, I (-2) (i + 2)), (0, I (-2) (i + 3))] ++ List.replicate (lb - (args0 [(2, 427), (0, I (-2) (i + 1)), (0, I (-2) (i + 2)), (0, I (-2) (i + 3))]).length) uU = B) (hc : CR d A B ma mb N S I) (oa : (decide ((args0 [(2, 0), (0, I (-2) (i + 1)), (0, I (-2) (i + 2)), (0, I (-2) (i + 3))]).length ≤ la) && ([(2, 0), (0, I (-2) (i + 1)), (0, I (-2) (i + 2)), (0, I (-2) (i + 3))] : List AV).all (fun x => decide (x.1 ≠ 9))) = true := by rfl) (ob : (decide ((args0 [(2, 427), (0, I (-2) (i + 1)), (0, I (-2) (i + 2)), (0, I (-2) (i + 3))]).length ≤ lb) && ([(2, 427), (0, I (-2) (i + 1)), (0, I (-2) (i + 2)), (0, I (-2) (i + 3))] : List AV).all (fun x => decide (x.1 ≠ 9))) = true := by rfl) : LX d N S I P (LOC i x5 x6 x7) := by
  obtain ⟨r, T, I1, I2, e1, e2, hst, se, t1, t2⟩ := hc
  obtain ⟨n1, n2⟩ := ev_nv e1
  replace n2 : ∀ k, I1 (-2) k = I (-2) k := n2
  obtain ⟨-, m2⟩ := ev_nv e2
  replace m2 : ∀ k, I2 (-2) k = I1 (-2) k := m2
  have hT := SH_ext se hS
  have hs2 : SCR T i L := ⟨n1.trans hs.1, hs.2⟩
  obtain ⟨D0, D1, D2, D3, D4, D5, D6, D7, D8, D9, D10⟩ := hD
  refine ⟨T, I2, ?_, hst, se, t1, t2, fun k => (m2 k).trans (n2 k)⟩
  refine SG.to (sg_aload_n D0 rfl) ?_
  refine SG.tr (sg_arg D1 hs (by decide) (by decide)) ?_
  refine SG.tr (sg_arg D2 hs (by decide) (by decide)) ?_
  refine SG.tr (sg_arg D3 hs (by decide) (by decide)) ?_
  refine SG.cl2 (st1' := [(0, r)]) (sg_virt (ag := [(2, 0), (0, I (-2) (i + 1)), (0, I (-2) (i + 2)), (0, I (-2) (i + 3))]) (r := []) D4 ka fa (Nat.le_of_ble_eq_true rfl) rfl rfl (Nat.le_of_ble_eq_true rfl) (by decide) (QA_o hS.1) oa) ((congrArg (fun z => ev (d + 100) ma 0 z [] S I) (ent_of fa ea)).trans e1) rfl ?_
  refine SG.to (sg_aload_n D5 rfl) ?_
  refine SG.tr (sg_arg D6 hs2 (by decide) (by decide)) ?_
  rw [n2]
  refine SG.tr (sg_arg D7 hs2 (by decide) (by decide)) ?_
  rw [n2]
  refine SG.tr (sg_arg D8 hs2 (by decide) (by decide)) ?_
  rw [n2]
  refine SG.cl2 (st1' := [(0, r), (0, r)]) (sg_virt (ag := [(2, 427), (0, I (-2) (i + 1)), (0, I (-2) (i + 2)), (0, I (-2) (i + 3))]) (r := [(0, r)]) D9 kb fb (Nat.le_of_ble_eq_true rfl) rfl rfl (Nat.le_of_ble_eq_true rfl) (by decide) (MA_o hT.2) ob) ((congrArg (fun z => ev (d + 100) mb 0 z [] T I1) (ent_of fb eb)).trans e2) rfl ?_
  exact SG.one (sg_if_eq D10 (by omega) (by omega) rfl)
abbrev CD4 (P ci ri : Nat) (off : Int) : Prop := decode (mB 325) P = .ok (.aload_n 1, 1) ∧ argD (P + 1) 1 ∧ argD (P + 7) 2 ∧ argD (P + 13) 3 ∧ argD (P + 19) 4 ∧ decode (mB 325) (P + 25) = .ok (.invokevirtual ci, 3) ∧ decode (mB 325) (P + 28) = .ok (.aload_n 2, 1) ∧ argD (P + 29) 1 ∧ argD (P + 35) 2 ∧ argD (P + 41) 3 ∧ argD (P + 47) 4 ∧ decode (mB 325) (P + 53) = .ok (.invokevirtual ri, 3) ∧ decode (mB 325) (P + 56) = .ok (.if_icmp .eq off, 3)
theorem lc4 {P ci ri ma mb la lb : Nat} {A B : List AV} (hD : CD4 P ci ri off) (ho : ((P + 56 : Nat) : Int) + off = 1331) (ka : LK 325 ci ma) (kb : LK 325 ri mb) (fa : MFc ma 4 10 la) (fb : MFc mb 4 11 lb) (hS : SH S) (hs : SCR S i L) (ea : args0 [(2, 0), (0, I (-2) (i + 1)), (0, I (-2) (i + 2)), (0, I (-2) (i + 3)), (0, I (-2) (i + 4))] ++ List.replicate (la - (args0 [(2, 0), (0, I (-2) (i + 1)), (0, I (-2) (i + 2)), (0, I (-2) (i + 3)), (0, I (-2) (i + 4))]).length) uU = A) (eb : args0 [(2, 427), (0, I (-2) (i + 1)), (0, I (-2) (i + 2)), (0, I (-2) (i + 3)), (0, I (-2) (i + 4))] ++ List.replicate (lb - (args0 [(2, 427), (0, I (-2) (i + 1)), (0, I (-2) (i + 2)), (0, I (-2) (i + 3)), (0, I (-2) (i + 4))]).length) uU = B) (hc : CR d A B ma mb N S I) (oa : (decide ((args0 [(2, 0), (0, I (-2) (i + 1)), (0, I (-2) (i + 2)), (0, I (-2) (i + 3)), (0, I (-2) (i + 4))]).length ≤ la) && ([(2, 0), (0, I (-2) (i + 1)), (0, I (-2) (i + 2)), (0, I (-2) (i + 3)), (0, I (-2) (i + 4))] : List AV).all (fun x => decide (x.1 ≠ 9))) = true := by rfl) (ob : (decide ((args0 [(2, 427), (0, I (-2) (i + 1)), (0, I (-2) (i + 2)), (0, I (-2) (i + 3)), (0, I (-2) (i + 4))]).length ≤ lb) && ([(2, 427), (0, I (-2) (i + 1)), (0, I (-2) (i + 2)), (0, I (-2) (i + 3)), (0, I (-2) (i + 4))] : List AV).all (fun x => decide (x.1 ≠ 9))) = true := by rfl) : LX d N S I P (LOC i x5 x6 x7) := by
  obtain ⟨r, T, I1, I2, e1, e2, hst, se, t1, t2⟩ := hc
  obtain ⟨n1, n2⟩ := ev_nv e1
  replace n2 : ∀ k, I1 (-2) k = I (-2) k := n2
  obtain ⟨-, m2⟩ := ev_nv e2
  replace m2 : ∀ k, I2 (-2) k = I1 (-2) k := m2
  have hT := SH_ext se hS
  have hs2 : SCR T i L := ⟨n1.trans hs.1, hs.2⟩
  obtain ⟨D0, D1, D2, D3, D4, D5, D6, D7, D8, D9, D10, D11, D12⟩ := hD
  refine ⟨T, I2, ?_, hst, se, t1, t2, fun k => (m2 k).trans (n2 k)⟩
  refine SG.to (sg_aload_n D0 rfl) ?_
  refine SG.tr (sg_arg D1 hs (by decide) (by decide)) ?_
  refine SG.tr (sg_arg D2 hs (by decide) (by decide)) ?_
  refine SG.tr (sg_arg D3 hs (by decide) (by decide)) ?_
  refine SG.tr (sg_arg D4 hs (by decide) (by decide)) ?_
  refine SG.cl2 (st1' := [(0, r)]) (sg_virt (ag := [(2, 0), (0, I (-2) (i + 1)), (0, I (-2) (i + 2)), (0, I (-2) (i + 3)), (0, I (-2) (i + 4))]) (r := []) D5 ka fa (Nat.le_of_ble_eq_true rfl) rfl rfl (Nat.le_of_ble_eq_true rfl) (by decide) (QA_o hS.1) oa) ((congrArg (fun z => ev (d + 100) ma 0 z [] S I) (ent_of fa ea)).trans e1) rfl ?_
  refine SG.to (sg_aload_n D6 rfl) ?_
  refine SG.tr (sg_arg D7 hs2 (by decide) (by decide)) ?_
  rw [n2]
  refine SG.tr (sg_arg D8 hs2 (by decide) (by decide)) ?_
  rw [n2]
  refine SG.tr (sg_arg D9 hs2 (by decide) (by decide)) ?_
  rw [n2]
  refine SG.tr (sg_arg D10 hs2 (by decide) (by decide)) ?_
  rw [n2]
  refine SG.cl2 (st1' := [(0, r), (0, r)]) (sg_virt (ag := [(2, 427), (0, I (-2) (i + 1)), (0, I (-2) (i + 2)), (0, I (-2) (i + 3)), (0, I (-2) (i + 4))]) (r := [(0, r)]) D11 kb fb (Nat.le_of_ble_eq_true rfl) rfl rfl (Nat.le_of_ble_eq_true rfl) (by decide) (MA_o hT.2) ob) ((congrArg (fun z => ev (d + 100) mb 0 z [] T I1) (ent_of fb eb)).trans e2) rfl ?_
  exact SG.one (sg_if_eq D12 (by omega) (by omega) rfl)
/-- the end of a round of the loop -/
theorem lw_tail {T : SS} : SG 325 d 1331 (LOC i x5 x6 x7) [] T I 23 (LOC (i + 5) x5 x6 x7) [] T I := by
  refine SG.to (sg_iinc (n := 4) (x := i) (z := 5) (al' := LOC (i + 5) x5 x6 x7) (by decide +kernel) rfl rfl) ?_
  exact SG.one (sg_goto (off := -1311) (by decide +kernel) (by decide) (by decide))
theorem D325_39 : decode (mB 325) 39 = .ok (.tableswitch 1292 0 41 #[181, 206, 231, 244, 257, 325, 386, 447, 472, 497, 522, 559, 572, 609, 634, 647, 660, 685, 698, 711, 736, 761, 786, 799, 824, 861, 874, 899, 924, 937, 974, 987, 1024, 1037, 1050, 1063, 1112, 1125, 1162, 1187, 1212, 1237], 181) := by decide +kernel
/-- the head: i beyond the script, and not -/
theorem lw_out (hk : sH S (-2) = (20, L)) (h0 : 0 ≤ i) (h1 : L < i + 5) (h2 : i ≤ 2560) (h3 : 0 ≤ L) (h4 : L ≤ 2560) : SG 325 d 23 (LOC i x5 x6 x7) [] S I 1337 (LOC i x5 x6 x7) [] S I := by
  refine SG.to (sg_iload (n := 4) (by decide +kernel) rfl) ?_
  refine SG.to (sg_aload_n (n := 0) (by decide +kernel) rfl) ?_
  refine SG.to (sg_alen (by decide +kernel) hk) ?_
  refine SG.to (sg_iconst (z := 5) (by decide +kernel)) ?_
  refine SG.to (sg_isub (by decide +kernel)) ?_
  exact SG.one (sg_if_gtT (off := 1308) (by decide +kernel) (by decide) (by decide) (by rw [w_small (by omega) (by omega), w_small (by omega) (by omega)]; omega))
theorem lw_in (hs : SCR S i L) : SG 325 d 23 (LOC i x5 x6 x7) [] S I 39 (LOC i x5 x6 x7) [(0, iAnd (I (-2) i) 63)] S I := by
  obtain ⟨s0, s1, s2, s3⟩ := hs
  refine SG.to (sg_iload (n := 4) (by decide +kernel) rfl) ?_
  refine SG.to (sg_aload_n (n := 0) (by decide +kernel) rfl) ?_
  refine SG.to (sg_alen (by decide +kernel) s0) ?_
  refine SG.to (sg_iconst (z := 5) (by decide +kernel)) ?_
  refine SG.to (sg_isub (by decide +kernel)) ?_
  refine SG.to (sg_if_gtF (off := 1308) (by decide +kernel) (by decide) (by rw [w_small (by omega) (by omega), w_small (by omega) (by omega)]; omega)) ?_
  refine SG.to (sg_aload_n (n := 0) (by decide +kernel) rfl) ?_
  refine SG.to (sg_iload (n := 4) (by decide +kernel) rfl) ?_
  refine SG.to (sg_ia (by decide +kernel) (by rw [s0]) s1 (by rw [s0]; show i < L; omega) (by omega)) ?_
  refine SG.to (sg_bipush (z := 63) (by decide +kernel) (by decide)) ?_
  exact SG.one (sg_iand (by decide +kernel))
theorem lw_sw (k : Nat) {o : Int} {P : Nat} (hk : (k : Int) ≤ 41) (hx : w x = k) (ho : (#[181, 206, 231, 244, 257, 325, 386, 447, 472, 497, 522, 559, 572, 609, 634, 647, 660, 685, 698, 711, 736, 761, 786, 799, 824, 861, 874, 899, 924, 937, 974, 987, 1024, 1037, 1050, 1063, 1112, 1125, 1162, 1187, 1212, 1237] : Array Int)[k]? = some o) (hP : (39 : Int) + o = P) : SG 325 d 39 al [(0, x)] S I P al [] S I :=
  SG.one (sg_tsw D325_39 hx (by omega) (by rw [show ((k : Int) - 0).toNat = k by omega]; exact ho) (by omega) (by omega))
theorem lw_df (hx : 41 < w x) : SG 325 d 39 al [(0, x)] S I 1331 al [] S I :=
  SG.one (sg_tsd D325_39 (Or.inr hx) (by decide) (by decide))
end r120
