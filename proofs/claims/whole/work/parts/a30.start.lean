/-! the state behind the law's start -/
theorem row0_z {j : Int} (h : j < 815 ∨ 826 < j ∨ j = 818) : row0 j = 0 := by
  unfold row0; rw [if_neg (by omega), if_neg (by omega), if_neg (by omega), if_neg (by omega)]
theorem row0_w {j : Int} (h : 815 ≤ j ∧ j < 818) : row0 j = 818 - j := by unfold row0; rw [if_pos h]
theorem row0_c {j : Int} (h : 819 ≤ j ∧ j < 822) : row0 j = 822 - j := by unfold row0; rw [if_neg (by omega), if_pos h]
theorem row0_l {j : Int} (h : 822 ≤ j ∧ j < 826) : row0 j = 4 := by unfold row0; rw [if_neg (by omega), if_neg (by omega), if_pos h]
theorem row0_2 : row0 826 = 2 := by decide
theorem row0_b (k : Int) : -1 ≤ row0 k ∧ row0 k ≤ 4 := by
  unfold row0
  split
  · omega
  split
  · omega
  split
  · omega
  split <;> omega
theorem sm_0 (f : Int → Int) (n : Nat) (k : Int) (h : ∀ j, k ≤ j → j < k + n → f j = 0) : sm f n k = 0 := by
  rw [sm_congr (g := fun _ => 0) n k h]
  induction n generalizing k with
  | zero => rfl
  | succ n ih => rw [sm_succ, ih (k + 1) (fun j h1 h2 => h j (by omega) (by omega))]; rfl
theorem cnt_0 (z : Int) : cnt row0 z = 0 := by
  have h1 : quec row0 z = 0 := sm_0 _ 5 0 fun q q0 q1 => by
    have a : row0 (89 * q) = 0 := row0_z (by omega)
    have b : row0 (89 * q + 3) = 0 := row0_z (by omega)
    have c : row0 (89 * q + 5) = 0 := row0_z (by omega)
    have e : row0 (89 * q + 6) = 0 := row0_z (by omega)
    show rngc row0 q z + pstc row0 q z = 0
    unfold rngc pstc
    rw [a, b, c, e]
    rfl
  have h2 : runc row0 z = 0 := by unfold runc; rw [row0_z (j := 493) (by decide)]; rfl
  have h3 : outc row0 z = 0 := by unfold outc; rw [row0_z (j := 814) (by decide)]; rfl
  unfold cnt
  rw [h1, h2, h3]; rfl
theorem WF_0 {C : CF} (hC : C.1 = 0) : WF C row0 := by
  have e493 : row0 493 = 0 := row0_z (by decide)
  have e814 : row0 814 = 0 := row0_z (by decide)
  refine ⟨⟨fun q q0 q1 => ⟨?_, fun k k0 k1 => ?_, fun k k0 k1 => ?_⟩, ⟨by rw [e493]; decide, by rw [e493]; decide, fun k k0 k1 => by omega⟩, ⟨by rw [e814]; decide, by rw [e814]; decide, fun k k0 k1 => by omega⟩, ⟨fun j j0 j1 => ?_, fun j j0 j1 => ?_, fun j j0 j1 => ?_, fun j j0 j1 => ?_, by rw [row0_2]; decide, by rw [row0_2]; decide, ?_, ?_, ?_⟩, fun c c0 c1 => ?_⟩, fun z => by rw [cnt_0]; decide⟩
  · unfold cntsOK
    rw [row0_z (j := 89 * q + 4) (by omega), row0_z (j := 89 * q + 3) (by omega), row0_z (j := 89 * q + 2) (by omega), row0_z (j := 89 * q + 1) (by omega), row0_z (j := 89 * q) (by omega), row0_z (j := 89 * q + 6) (by omega), row0_z (j := 89 * q + 5) (by omega), row0_z (j := 89 * q + 8) (by omega), row0_z (j := 89 * q + 7) (by omega)]
    exact ⟨by decide, by decide, by decide, by decide, by decide, by decide, by decide, by decide, by decide, Or.inl rfl, fun _ => ⟨rfl, rfl, rfl, rfl⟩⟩
  · rw [row0_z (j := 89 * q + 3) (by omega)] at k0; rw [row0_z (j := 89 * q) (by omega)] at k1; omega
  · rw [row0_z (j := 89 * q + 6) (by omega)] at k0; rw [row0_z (j := 89 * q + 5) (by omega)] at k1; omega
  · rw [row0_z (by omega)]; decide
  · rw [row0_w ⟨j0, j1⟩]; omega
  · rw [row0_c ⟨j0, j1⟩]; omega
  · rw [row0_l ⟨j0, j1⟩]; decide
  · rw [row0_z (by decide)]; decide
  · rw [row0_z (by decide)]; decide
  · rw [row0_z (by decide)]; decide
  · have e : fsum C row0 c = 0 := by
      unfold fsum
      apply sm_0
      intro q q0 q1
      exact if_neg (fun h => by rw [hC] at h; omega)
    rw [e, row0_z (by omega)]
theorem GD_0 {C : CF} {I : II} {b : Int} (hC : C.1 = 0) (h : DRV (fun _ _ => 0) I b) : GD C I b row0 := by
  obtain ⟨v1, v2, v3, v4⟩ := h
  have e493 : row0 493 = 0 := row0_z (by decide)
  have e814 : row0 814 = 0 := row0_z (by decide)
  have vb : ∀ k, k ≠ 6 → I b k = 0 := fun k hk => by rw [v1, if_neg hk]
  refine ⟨⟨⟨by rw [vb 0 (by decide), hC], by rw [v1, if_pos rfl, row0_2], by rw [vb 7 (by decide), row0_z (by decide)], by rw [vb 8 (by decide), row0_z (by decide)], by rw [vb 9 (by decide), row0_z (by decide)], by rw [vb 10 (by decide), e493], by rw [vb 15 (by decide), e814]⟩, ⟨fun j j0 j1 => by rw [v4 (b + 2) (by omega) (by omega) (by omega) (by omega) (by omega), row0_z (by omega)], fun c c0 c1 => ⟨by rw [(v2 c c0 c1).1, row0_w (by omega)]; omega, by rw [(v2 c c0 c1).2, row0_c (by omega)]; omega⟩, fun c c0 c1 => by rw [v3 c c0 c1, row0_l (by omega)]⟩, fun k k0 k1 => by omega, fun k k0 k1 => by omega, fun q q0 q1 => ?_, fun q id q0 q1 i0 i1 => ?_⟩, WF_0 hC, fun k k0 k1 => by omega⟩
  · have va : ∀ k, I (b + 11 + 4 * q) k = 0 := v4 _ (by omega) (by omega) (by omega) (by omega) (by omega)
    refine ⟨⟨fun h => by omega, Or.inl (va 3), ?_, ?_, ?_, ?_, ?_, ?_, ?_, ?_, ?_⟩, ⟨fun k k0 k1 => ?_, fun j j0 j1 => ?_⟩, fun k k0 k1 => ?_, ?_, ?_⟩
    iterate 9 rw [va, row0_z (by omega)]
    · rw [row0_z (j := 89 * q + 3) (by omega)] at k0; rw [row0_z (j := 89 * q) (by omega)] at k1; omega
    · rw [v4 (b + 11 + 4 * q + 1) (by omega) (by omega) (by omega) (by omega) (by omega)]; decide
    · rw [row0_z (j := 89 * q + 6) (by omega)] at k0; rw [row0_z (j := 89 * q + 5) (by omega)] at k1; omega
    · rw [va]; decide
    · rw [va]; decide
  · rw [v4 (b + 11 + 4 * q) (by omega) (by omega) (by omega) (by omega) (by omega), show (0 : Int).toNat = 0 from rfl, Nat.zero_testBit]
    exact (decide_eq_false (by rw [cnt_0]; decide)).symm
theorem ST_0s {I : II} (z1 : ∀ k, I 1 k = 0) (z3 : ∀ k, I 3 k = 0) (h5 : DRV (fun _ _ => 0) I 5) (z67 : ∀ k, I 67 k = 0) (z70 : ∀ k, I 70 k = 0) (z412 : ∀ k, I 412 k = 0) (z424 : ∀ k, I 424 k = 0) (z427 : ∀ k, I 427 k = 0) (zz : ∀ x, 428 ≤ x → x < 455 → x ≠ 438 → ∀ k, I x k = 0) (h438 : ∀ k, I 438 k = row0 k) : ST 100 I := by
  have e438 : I 438 = row0 := funext h438
  have hB0 : ∀ x, 428 ≤ x → x < 455 → x ≠ 438 → BdN 100 (I x) := fun x x0 x1 x2 k => by rw [zz x x0 x1 x2]; decide
  refine ⟨⟨?_, ?_, ?_, fun j j0 j1 => ?_⟩, ⟨?_, ?_, ?_, fun j j0 j1 => ?_⟩, ⟨?_, ?_, ?_, fun j j0 j1 => ?_⟩, ⟨⟨?_, ?_, fun q q0 q1 => ?_⟩, ?_⟩, ⟨⟨?_, ?_, fun h => ?_⟩, ?_, fun j j0 j1 => ?_⟩, ⟨?_, ?_, ?_, ?_, ?_, fun i i0 i1 => ?_⟩, ⟨?_, fun i i0 i1 => ⟨?_, ?_, fun h => ?_⟩⟩, ⟨fun k => ?_, hB0 439 (by decide) (by decide) (by decide), hB0 440 (by decide) (by decide) (by decide), hB0 454 (by decide) (by decide) (by decide)⟩⟩
  · rw [z1]; decide
  · rw [z1]; decide
  · rw [z427, z1]
  · rw [z1] at j1; omega
  · rw [z3]; decide
  · rw [z3]; decide
  · rw [z427, z3]
  · rw [z3] at j1; omega
  · rw [z424]; decide
  · rw [z424]; decide
  · rw [z427, z424]
  · rw [z424] at j1; omega
  · show 0 ≤ I 427 14; rw [z427]; decide
  · show I 427 14 ≤ 5; rw [z427]; decide
  · have q2 : q < I 427 14 := q1
    rw [z427] at q2; omega
  · rw [e438]; exact GD_0 (z427 14) h5
  · show 0 ≤ I 427 10; rw [z427]; decide
  · show I 427 10 ≤ 40; rw [z427]; decide
  · exact absurd (z427 10) h
  · show I 412 1 = I 427 10; rw [z412, z427]
  · have j2 : j < I 427 10 := j1
    rw [z427] at j2; omega
  · rw [z67]; decide
  · rw [z67]; decide
  · rw [z67]; decide
  · rw [z67]; decide
  · rw [z427, z67]
  · rw [z67] at i1; omega
  · rw [z427, z427]
  · rw [zz 452 (by decide) (by decide) (by decide), z70]
  · exact Or.inl (z70 i)
  · rw [z70] at h; omega
  · rw [h438]; have := row0_b k; omega
/-! the law's first steps -/
def S0L (L : Int) : SS := (0, 0, (fun a => if a = -2 then (20, L) else (99, 0)), fun _ _ => -1)
def I0x (xs : Nat → Int32) : II := fun a k => if a = -2 then (xs k.toNat).toInt else 0
section r130
variable {d mi pc idx mj np nl c : Nat} {al st : List AV} {S : SS} {I : II} {a L : Int} {xs : Nat → Int32}
theorem sg_new {k n : Nat} (hd : decode (mB mi) pc = .ok (.new idx, 3)) (hq : (lkc (mC mi) idx).map (fun q => q.1) = some k) (hn : fN k = n) : st1 mi pc al st S I = nx (pc + 3) al ((2, (S.1 : Int)) :: st) (newS S k n) (newI S I) := by
  cases hc : lkc (mC mi) idx with
  | none => rw [hc] at hq; simp at hq
  | some q =>
    rw [hc] at hq
    simp only [Option.map_some, Option.some.injEq] at hq
    subst hq; subst hn
    simp only [st1, hd, st2, newO, hc]; rw [gd, if_pos trivial]
theorem sg_newL {z : Int} (hd : decode (mB mi) pc = .ok (.newarray .long, 2)) (h0 : 0 ≤ w z) (h1 : w z ≤ 100000) : st1 mi pc al ((0, z) :: st) S I = nx (pc + 2) al ((2, (S.1 : Int)) :: st) (newS S 21 (w z).toNat) (newI S I) := by
  simp only [st1, hd, st2, newT, newA]; rw [gd, if_pos trivial, gd, if_pos ⟨h0, h1⟩]
theorem sg_spec {ag r : List AV} (hd : decode (mB mi) pc = .ok (.invokespecial idx, 3)) (hq : (lkm (mC mi) idx).map (fun q => (q.1, q.2.1)) = some (2, mj)) (hf : MFc mj np c nl) (hp : np < st.length) (hr' : st.drop np = (2, a) :: r) (ha : (2, a) :: (st.take np).reverse = ag) (hr : (r.map cat).sum ≤ 8) (h0 : 0 ≤ a) (hok : (decide ((args0 ag).length ≤ nl) && ag.all (fun x => decide (x.1 ≠ 9))) = true) :
    st1 mi pc al st S I = some (.inr (.inr (mj, ag, r))) := by
  obtain ⟨hP, hc, hL⟩ := hf
  cases hk : lkm (mC mi) idx with
  | none => rw [hk] at hq; simp at hq
  | some q =>
    rw [hk] at hq
    simp only [Option.map_some, Option.some.injEq, Prod.mk.injEq] at hq
    obtain ⟨h1, rfl⟩ := hq
    subst hP; subst hL; subst ha
    simp only [st1, hd, st2, call, hk, hr']; rw [gd, if_pos trivial, if_neg (by omega), if_neg (by omega), if_neg (by omega), if_neg (by omega), if_pos (by omega), if_neg (by omega), if_pos ⟨hp, hr, by omega, fun _ => h0, hok⟩]
theorem lw_start : ∃ S1 I1, SG 325 (d + 3) 0 [(2, -2), uU, uU, uU, uU, uU, uU, uU] [] (S0L L) (I0x xs) 23 (LOC 0 uU uU uU) [] S1 I1 ∧ LOK S1 ∧ ST 100 I1 ∧ S1.1 = 456 ∧ S1.2.1 = 16865 ∧ sH S1 (-2) = (20, L) ∧ ∀ k, I1 (-2) k = I0x xs (-2) k := by
  have hn1 : ((newS (S0L L) 8 8).1 : Int) = 1 := rfl
  have hO1 : KO (newS (S0L L) 8 8) 0 8 := KO_mk (S := S0L L)
  obtain ⟨T, J, e1, p1, p2, p3, p4, p5, p6, p7, p8, p9, p10, p11⟩ := k139 (d := d) (I := newI (S0L L) (I0x xs)) hO1 hn1
  have hn2 : ((newS T 9 45).1 : Int) = 428 := by show ((T.1 + 1 : Nat) : Int) = _; omega
  have hO2 : KO (newS T 9 45) 427 9 := by rw [← p1]; exact KO_mk
  obtain ⟨U, G, e2, q1, q2, q3, q4, q5, q6, q7⟩ := m206 (d := d + 3) (I := newI T J) hO2 hn2
  have q3' : U.2.1 = T.2.1 + 45 + 11901 := q3
  have p2' : T.2.1 = 0 + 8 + 4910 := p2
  have se1 : SE T U := ⟨by omega, fun a ha => ⟨(q1.2.1 a (by omega)).trans (SE_new.2 a ha).1, (q1.2.2 a (by omega) (by omega)).trans (SE_new.2 a ha).2⟩⟩
  have se2 : SE U (newS U 21 1) := SE_new
  have hG : ∀ x, x < 427 → G x = J x := fun x hx => by rw [q5 x (by omega)]; exact newI_oth (by omega)
  have hG2 : ∀ x, x < 455 → newI U G x = G x := fun x hx => newI_oth (by omega)
  have z427 : ∀ k, G 427 k = 0 := fun k => by rw [q5 427 (by decide), nwI_at, if_pos p1.symm]
  have hsg : SG 325 (d + 3) 0 [(2, -2), uU, uU, uU, uU, uU, uU, uU] [] (S0L L) (I0x xs) 23 (LOC 0 uU uU uU) [] (newS U 21 1) (newI U G) := by
    refine SG.to (sg_new (idx := 8) (k := 8) (n := 8) (by decide +kernel) (by decide +kernel) (by decide +kernel)) ?_
    refine SG.to (sg_dup (by decide +kernel) (by decide)) ?_
    refine SG.cl2 (st1' := [(2, 0)]) (sg_spec (idx := 19) (ag := [(2, 0)]) (r := [(2, 0)]) (mj := 139) (np := 0) (c := 10) (nl := 1) (by decide +kernel) (by decide +kernel) (by decide +kernel) (Nat.le_of_ble_eq_true rfl) rfl rfl (Nat.le_of_ble_eq_true rfl) (Int.natCast_nonneg _) rfl) ((congrArg (fun z => ev (d + 3) 139 0 z [] _ _) (ent_of (al := [(2, 0)]) (by decide +kernel : MFc 139 0 10 1) rfl)).trans e1) rfl ?_
    refine SG.to (sg_astore_n (n := 1) (al' := [(2, -2), (2, 0), uU, uU, uU, uU, uU, uU]) (by decide +kernel) (Nat.le_of_ble_eq_true rfl) rfl rfl) ?_
    refine SG.to (sg_new (idx := 20) (k := 9) (n := 45) (by decide +kernel) (by decide +kernel) (by decide +kernel)) ?_
    rw [p1]
    refine SG.to (sg_dup (by decide +kernel) (by decide)) ?_
    refine SG.cl2 (st1' := [(2, 427)]) (sg_spec (idx := 22) (ag := [(2, 427)]) (r := [(2, 427)]) (mj := 206) (np := 0) (c := 11) (nl := 2) (by decide +kernel) (by decide +kernel) (by decide +kernel) (Nat.le_of_ble_eq_true rfl) rfl rfl (Nat.le_of_ble_eq_true rfl) (by decide) rfl) ((congrArg (fun z => ev (d + 3) 206 0 z [] _ _) (ent_of (al := [(2, 427), uU]) (by decide +kernel : MFc 206 0 11 2) rfl)).trans e2) rfl ?_
    refine SG.to (sg_astore_n (n := 2) (al' := [(2, -2), (2, 0), (2, 427), uU, uU, uU, uU, uU]) (by decide +kernel) (Nat.le_of_ble_eq_true rfl) rfl rfl) ?_
    refine SG.to (sg_iconst (z := 1) (by decide +kernel)) ?_
    refine SG.to (sg_newL (by decide +kernel) (by decide) (by decide)) ?_
    rw [q2, show (w 1).toNat = 1 from by decide]
    refine SG.to (sg_astore_n (n := 3) (al' := [(2, -2), (2, 0), (2, 427), (2, 455), uU, uU, uU, uU]) (by decide +kernel) (Nat.le_of_ble_eq_true rfl) rfl rfl) ?_
    refine SG.to (sg_iconst (z := 0) (by decide +kernel)) ?_
    exact SG.one (sg_istore (n := 4) (al' := LOC 0 uU uU uU) (by decide +kernel) (Nat.le_of_ble_eq_true rfl) rfl rfl)
  refine ⟨_, _, hsg, ⟨⟨QA_ext se2 (QA_ext se1 p3), MA_ext se2 q4⟩, ?_⟩, ?_, ?_, ?_, ?_, fun k => ?_⟩
  · refine ⟨by decide, ?_, ?_, ?_⟩
    · show (455 : Int) < ((U.1 + 1 : Nat) : Int)
      omega
    · show (if (455 : Int) = (U.1 : Int) then ((21 : Int), ((1 : Nat) : Int)) else sH U 455).1 = 21
      exact congrArg Prod.fst (if_pos q2.symm)
    · show (if (455 : Int) = (U.1 : Int) then ((21 : Int), ((1 : Nat) : Int)) else sH U 455).2 = 1
      exact congrArg Prod.snd (if_pos q2.symm)
  · refine ST_hi (I := G) (ST_0s ?_ ?_ ?_ ?_ ?_ ?_ ?_ z427 q6 q7) hG2
    · intro k; rw [hG 1 (by decide)]; exact p5 k
    · intro k; rw [hG 3 (by decide)]; exact p6 k
    · obtain ⟨v1, v2, v3, v4⟩ := p7
      exact ⟨fun k => by rw [hG 5 (by decide)]; exact v1 k, fun c c0 c1 => by rw [hG _ (by decide), hG _ (by decide)]; exact v2 c c0 c1, fun c c0 c1 => by rw [hG _ (by decide)]; exact v3 c c0 c1, fun z z0 z1 z3 z4 z5 k => by rw [hG z (by omega)]; exact v4 z z0 z1 z3 z4 z5 k⟩
    · intro k; rw [hG 67 (by decide)]; exact p8 k
    · intro k; rw [hG 70 (by decide)]; exact p9 k
    · intro k; rw [hG 412 (by decide)]; exact p10 k
    · intro k; rw [hG 424 (by decide)]; exact p11 k
  · show U.1 + 1 = 456
    omega
  · show U.2.1 + 1 = 16865
    omega
  · rw [(se2.2 (-2) (by omega)).1, (se1.2 (-2) (by omega)).1]
    have hp : sH T (-2) = sH (newS (S0L L) 8 8) (-2) := (ev_nv e1).1
    rw [hp]
    rfl
  · rw [hG2 _ (by decide), hG _ (by decide), p4 _ (by decide)]
    rfl
end r130
