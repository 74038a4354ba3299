/-! the class's object as it is made -/
section r125
variable {d : Nat} {S T U T0 : SS} {I J : II} {a b c f k x g : Int} {n : Nat} {l : List (Int × Int × Nat)}
theorem mk_mem (l : List (Int × Int × Nat)) (hc : (S.1 : Int) = c) {k' : Int} {m' : II} (hm : m' = nfm c l (newS S k' n) (newI S I)) : (∀ x, x < c → m' x = I x) ∧ ∀ k, m' c k = 0 := by
  subst hm
  have e : ((newS S k' n).1 : Int) = c + 1 := by show ((S.1 + 1 : Nat) : Int) = _; omega
  refine ⟨fun x hx => ?_, fun k => ?_⟩
  · funext k
    rw [nfm_ok, e, if_neg (by omega), nwI_at, if_neg (by omega)]
  · rw [nfm_ok, e, if_neg (by omega), nwI_at, if_pos hc.symm]
theorem mk_set {f : Int} (hO : KO S 0 8) (hc : (S.1 : Int) = c) {k' : Int} (hp : SP (fun x => x ≠ c) (newS S k' n) T0) (hT : T = (T0.1, T0.2.1, T0.2.2.1, up2 (sG T0) 0 f c)) : SP (fun x => x ≠ 0) S T ∧ SP (fun x => x ≠ 0) T0 T ∧ KO T 0 8 ∧ T.1 = T0.1 ∧ T.2.1 = T0.2.1 ∧ ∀ g, sG T 0 g = if g = f then c else sG S 0 g := by
  have h0 : (0 : Int) < (S.1 : Int) := hO.2.1
  have hp1 : SP (fun x => x ≠ c) S T0 := SP_trans SP_new hp
  have hs : SP (fun x => x ≠ 0) T0 (T0.1, T0.2.1, T0.2.2.1, up2 (sG T0) 0 f c) := SP_set fun _ h => h
  subst hT
  refine ⟨SP_sub (SP_trans (SP_sub (P' := fun x => x ≠ 0 ∧ x ≠ c) hp1 fun x _ h => h.2) (SP_sub hs fun x _ h => h.1)) (fun x hx h => ⟨h, by omega⟩), hs, KO_p hs (KO_p hp1 hO), rfl, rfl, fun g => ?_⟩
  show up2 (sG T0) 0 f c 0 g = _
  by_cases e : g = f
  · rw [e, if_pos rfl]; exact up2_hit rfl rfl
  · rw [if_neg e, up2_miss (fun h => e h.2), hp1.2.2 0 h0 (by omega)]
theorem n132 (hc : (S.1 : Int) = 1) : ∃ T J, ev (d + 2) 132 0 [(2, 1)] [] (newS S 7 2) (newI S I) = some (uU, T, J) ∧ SP (fun x => x ≠ 1) (newS S 7 2) T ∧ (T.1 : Int) = 1 + 2 ∧ T.2.1 = S.2.1 + 82 ∧ TA T 1 ∧ (∀ x, x < 1 → J x = I x) ∧ ∀ k, J 1 k = 0 := by
  have hO : KO (newS S 7 2) 1 7 := by rw [← hc]; exact KO_mk
  have e : ((newS S 7 2).1 : Int) = 1 + 1 := by show ((S.1 + 1 : Nat) : Int) = _; omega
  have hN := nfl_ok F132 (newS S 7 2) hO.1 hO.2.1 (by decide)
  have hN1 : (nfl 1 F132 (newS S 7 2)).1 = (newS S 7 2).1 + 1 := hN.1
  have hN2 : (nfl 1 F132 (newS S 7 2)).2.1 = S.2.1 + 2 + 80 := hN.2.1
  obtain ⟨m1, m2⟩ := mk_mem F132 hc (k' := 7) (n := 2) (I := I) rfl
  refine ⟨_, _, K132 hO, SP_NFL hN fun _ h => h, by omega, by omega, ⟨KO_p (SP_NFL (P := fun x => x ≠ 1) hN (fun _ h => h)) hO, NFL_at (y := (0, 22, 80)) hN 0 rfl (by omega)⟩, m1, m2⟩
theorem n108 (hc : (S.1 : Int) = 3) : ∃ T J, ev (d + 2) 108 0 [(2, 3)] [] (newS S 5 2) (newI S I) = some (uU, T, J) ∧ SP (fun x => x ≠ 3) (newS S 5 2) T ∧ (T.1 : Int) = 3 + 2 ∧ T.2.1 = S.2.1 + 14 ∧ RA T 3 ∧ (∀ x, x < 3 → J x = I x) ∧ ∀ k, J 3 k = 0 := by
  have hO : KO (newS S 5 2) 3 5 := by rw [← hc]; exact KO_mk
  have e : ((newS S 5 2).1 : Int) = 3 + 1 := by show ((S.1 + 1 : Nat) : Int) = _; omega
  have hN := nfl_ok F108 (newS S 5 2) hO.1 hO.2.1 (by decide)
  have hN1 : (nfl 3 F108 (newS S 5 2)).1 = (newS S 5 2).1 + 1 := hN.1
  have hN2 : (nfl 3 F108 (newS S 5 2)).2.1 = S.2.1 + 2 + 12 := hN.2.1
  obtain ⟨m1, m2⟩ := mk_mem F108 hc (k' := 5) (n := 2) (I := I) rfl
  refine ⟨_, _, K108 hO, SP_NFL hN fun _ h => h, by omega, by omega, ⟨KO_p (SP_NFL (P := fun x => x ≠ 3) hN (fun _ h => h)) hO, NFL_at (y := (0, 21, 12)) hN 0 rfl (by omega)⟩, m1, m2⟩
theorem n115 (hc : (S.1 : Int) = c) : ∃ T J, ev (d + 2) 115 0 [(2, c)] [] (newS S 6 10) (newI S I) = some (uU, T, J) ∧ SP (fun x => x ≠ c) (newS S 6 10) T ∧ (T.1 : Int) = c + 6 ∧ T.2.1 = S.2.1 + 142 ∧ UA T c ∧ (∀ x, x < c → J x = I x) ∧ ∀ k, J c k = 0 := by
  have hO : KO (newS S 6 10) c 6 := by rw [← hc]; exact KO_mk
  have e : ((newS S 6 10).1 : Int) = c + 1 := by show ((S.1 + 1 : Nat) : Int) = _; omega
  have hN := nfl_ok F115 (newS S 6 10) hO.1 hO.2.1 (by decide)
  have hN1 : (nfl c F115 (newS S 6 10)).1 = (newS S 6 10).1 + 5 := hN.1
  have hN2 : (nfl c F115 (newS S 6 10)).2.1 = S.2.1 + 10 + 132 := hN.2.1
  obtain ⟨m1, m2⟩ := mk_mem F115 hc (k' := 6) (n := 10) (I := I) rfl
  refine ⟨_, _, K115 hO, SP_NFL hN fun _ h => h, by omega, by omega, ⟨KO_p (SP_NFL (P := fun x => x ≠ c) hN (fun _ h => h)) hO, NFL_at (y := (0, 20, 40)) hN 0 rfl (by omega), NFL_at (y := (2, 20, 40)) hN 1 rfl (by omega), NFL_at (y := (4, 23, 5)) hN 2 rfl (by omega), NFL_at (y := (8, 20, 7)) hN 3 rfl (by omega), NFL_at (y := (9, 20, 40)) hN 4 rfl (by omega)⟩, m1, m2⟩
theorem n65 (hc : (S.1 : Int) = 424) : ∃ T J, ev (d + 2) 65 0 [(2, 424)] [] (newS S 2 3) (newI S I) = some (uU, T, J) ∧ SP (fun x => x ≠ 424) (newS S 2 3) T ∧ (T.1 : Int) = 424 + 3 ∧ T.2.1 = S.2.1 + 27 ∧ HA T 424 ∧ (∀ x, x < 424 → J x = I x) ∧ ∀ k, J 424 k = 0 := by
  have hO : KO (newS S 2 3) 424 2 := by rw [← hc]; exact KO_mk
  have e : ((newS S 2 3).1 : Int) = 424 + 1 := by show ((S.1 + 1 : Nat) : Int) = _; omega
  have hN := nfl_ok F65 (newS S 2 3) hO.1 hO.2.1 (by decide)
  have hN1 : (nfl 424 F65 (newS S 2 3)).1 = (newS S 2 3).1 + 2 := hN.1
  have hN2 : (nfl 424 F65 (newS S 2 3)).2.1 = S.2.1 + 3 + 24 := hN.2.1
  obtain ⟨m1, m2⟩ := mk_mem F65 hc (k' := 2) (n := 3) (I := I) rfl
  refine ⟨_, _, K65 hO, SP_NFL hN fun _ h => h, by omega, by omega, ⟨KO_p (SP_NFL (P := fun x => x ≠ 424) hN (fun _ h => h)) hO, NFL_at (y := (0, 20, 12)) hN 0 rfl (by omega), NFL_at (y := (1, 20, 12)) hN 1 rfl (by omega)⟩, m1, m2⟩
theorem n14 (hc : (S.1 : Int) = c) : ∃ T J, ev (d + 2) 14 0 [(2, c), uU] [] (newS S 1 17) (newI S I) = some (uU, T, J) ∧ SP (fun x => x ≠ c) (newS S 1 17) T ∧ (T.1 : Int) = c + 31 ∧ T.2.1 = S.2.1 + 345 ∧ DA T c ∧ (∀ x, x < c → J x = I x) ∧ DRV (fun _ _ => 0) J c := by
  have hO : KO (newS S 1 17) c 1 := by rw [← hc]; exact KO_mk
  obtain ⟨T, J, e1, p1, p2, p3, p4, p5, p6⟩ := d14 (d := d + 1) (I := newI S I) hO (by show ((S.1 + 1 : Nat) : Int) = _; omega)
  have p3' : T.2.1 = S.2.1 + 17 + 328 := p3
  refine ⟨T, J, e1, p1, p2, by omega, p4, fun x hx => ?_, fun k => ?_, p6.2⟩
  · rw [p5 x hx]
    funext k
    rw [nwI_at, if_neg (by omega)]
  · rw [p6.1 k, nwI_at, if_pos hc.symm]
theorem n101 (hc : (S.1 : Int) = 67) : ∃ T J, ev (d + 2) 101 0 [(2, 67), uU] [] (newS S 4 5) (newI S I) = some (uU, T, J) ∧ SP (fun x => x ≠ 67) (newS S 4 5) T ∧ (T.1 : Int) = 412 ∧ T.2.1 = S.2.1 + 3813 ∧ PA T 67 ∧ (∀ x, x < 67 → J x = I x) ∧ (∀ k, J 67 k = 0) ∧ ∀ k, J 70 k = 0 := by
  have hO : KO (newS S 4 5) 67 4 := by rw [← hc]; exact KO_mk
  obtain ⟨T, J, e1, p1, p2, p3, p4, p5, p6⟩ := p101 (d := d) (I := newI S I) hO (by show ((S.1 + 1 : Nat) : Int) = _; omega)
  have p3' : T.2.1 = S.2.1 + 5 + 3808 := p3
  refine ⟨T, J, e1, p1, p2, by omega, p4, fun x hx => ?_, fun k => ?_, p6⟩
  · rw [p5 x (by omega)]
    funext k
    rw [nwI_at, if_neg (by omega)]
  · rw [p5 67 (by decide), nwI_at, if_pos hc.symm]
theorem k139 (hO : KO S 0 8) (hn : (S.1 : Int) = 1) : ∃ T J, ev (d + 3) 139 0 [(2, 0)] [] S I = some (uU, T, J) ∧ (T.1 : Int) = 427 ∧ T.2.1 = S.2.1 + 4910 ∧ QA T 0 ∧ (∀ x, x < 1 → J x = I x) ∧ (∀ k, J 1 k = 0) ∧ (∀ k, J 3 k = 0) ∧ DRV (fun _ _ => 0) J 5 ∧ (∀ k, J 67 k = 0) ∧ (∀ k, J 70 k = 0) ∧ (∀ k, J 412 k = 0) ∧ (∀ k, J 424 k = 0) := by
  have a1 := E139_0 (d := d + 3) (S := S) (I := I) (by decide)
  have c1 : (S.1 : Int) = 1 := by omega
  rw [c1] at a1
  obtain ⟨T1, J1, u1, p1, z1, y1, h1, m1, w1⟩ := n132 (d := d) (S := S) (I := I) c1
  have b1 := E139_8 (d := d + 2) (S := newS S 7 2) (I := newI S I) (by decide)
  rw [u1, Option.bind_some] at b1
  have o1 : KO T1 0 8 := KO_p p1 (KO_new hO)
  have e1 := E139_12 (d := d + 3) (S := T1) (I := J1) (by decide) o1
  have x1 : ev (d + 3) 139 0 [(2, 0)] [] S I = _ := a1.trans (b1.trans e1)
  clear a1 b1 e1
  generalize hU1 : ((T1.1, T1.2.1, T1.2.2.1, up2 (sG T1) 0 0 1) : SS) = U1 at x1
  obtain ⟨s1, t1, q1, n1, r1, g1⟩ := mk_set (f := 0) hO c1 p1 hU1.symm
  clear hU1 u1
  have a2 := E139_15 (d := d + 3) (S := U1) (I := J1)
  have c2 : (U1.1 : Int) = 3 := by omega
  rw [c2] at a2
  obtain ⟨T2, J2, u2, p2, z2, y2, h2, m2, w2⟩ := n108 (d := d) (S := U1) (I := J1) c2
  have b2 := E139_19 (d := d + 2) (S := newS U1 5 2) (I := newI U1 J1) (by decide)
  rw [u2, Option.bind_some] at b2
  have o2 : KO T2 0 8 := KO_p p2 (KO_new q1)
  have e2 := E139_23 (d := d + 3) (S := T2) (I := J2) (by decide) o2
  have x2 : ev (d + 3) 139 15 [(2, 0)] [] U1 J1 = _ := a2.trans (b2.trans e2)
  clear a2 b2 e2
  generalize hU2 : ((T2.1, T2.2.1, T2.2.2.1, up2 (sG T2) 0 1 3) : SS) = U2 at x2
  obtain ⟨s2, t2, q2, n2, r2, g2⟩ := mk_set (f := 1) q1 c2 p2 hU2.symm
  clear hU2 u2
  have a3 := E139_26 (d := d + 3) (S := U2) (I := J2)
  have c3 : (U2.1 : Int) = 5 := by omega
  rw [c3] at a3
  obtain ⟨T3, J3, u3, p3, z3, y3, h3, m3, w3⟩ := n14 (d := d) (S := U2) (I := J2) c3
  have b3 := E139_30 (d := d + 2) (s1 := 5) (S := newS U2 1 17) (I := newI U2 J2) (by decide)
  rw [u3, Option.bind_some] at b3
  have o3 : KO T3 0 8 := KO_p p3 (KO_new q2)
  have e3 := E139_34 (d := d + 3) (s1 := 5) (S := T3) (I := J3) (by decide) o3
  have x3 : ev (d + 3) 139 26 [(2, 0)] [] U2 J2 = _ := a3.trans (b3.trans e3)
  clear a3 b3 e3
  generalize hU3 : ((T3.1, T3.2.1, T3.2.2.1, up2 (sG T3) 0 2 5) : SS) = U3 at x3
  obtain ⟨s3, t3, q3, n3, r3, g3⟩ := mk_set (f := 2) q2 c3 p3 hU3.symm
  clear hU3 u3
  have a4 := E139_37 (d := d + 3) (S := U3) (I := J3)
  have c4 : (U3.1 : Int) = 36 := by omega
  rw [c4] at a4
  obtain ⟨T4, J4, u4, p4, z4, y4, h4, m4, w4⟩ := n14 (d := d) (S := U3) (I := J3) c4
  have b4 := E139_41 (d := d + 2) (s1 := 36) (S := newS U3 1 17) (I := newI U3 J3) (by decide)
  rw [u4, Option.bind_some] at b4
  have o4 : KO T4 0 8 := KO_p p4 (KO_new q3)
  have e4 := E139_45 (d := d + 3) (s1 := 36) (S := T4) (I := J4) (by decide) o4
  have x4 : ev (d + 3) 139 37 [(2, 0)] [] U3 J3 = _ := a4.trans (b4.trans e4)
  clear a4 b4 e4
  generalize hU4 : ((T4.1, T4.2.1, T4.2.2.1, up2 (sG T4) 0 3 36) : SS) = U4 at x4
  obtain ⟨s4, t4, q4, n4, r4, g4⟩ := mk_set (f := 3) q3 c4 p4 hU4.symm
  clear hU4 u4
  have a5 := E139_48 (d := d + 3) (S := U4) (I := J4)
  have c5 : (U4.1 : Int) = 67 := by omega
  rw [c5] at a5
  obtain ⟨T5, J5, u5, p5, z5, y5, h5, m5, w5⟩ := n101 (d := d) (S := U4) (I := J4) c5
  have b5 := E139_52 (d := d + 2) (S := newS U4 4 5) (I := newI U4 J4) (by decide)
  rw [u5, Option.bind_some] at b5
  have o5 : KO T5 0 8 := KO_p p5 (KO_new q4)
  have e5 := E139_56 (d := d + 3) (S := T5) (I := J5) (by decide) o5
  have x5 : ev (d + 3) 139 48 [(2, 0)] [] U4 J4 = _ := a5.trans (b5.trans e5)
  clear a5 b5 e5
  generalize hU5 : ((T5.1, T5.2.1, T5.2.2.1, up2 (sG T5) 0 4 67) : SS) = U5 at x5
  obtain ⟨s5, t5, q5, n5, r5, g5⟩ := mk_set (f := 4) q4 c5 p5 hU5.symm
  clear hU5 u5
  have a6 := E139_59 (d := d + 3) (S := U5) (I := J5)
  have c6 : (U5.1 : Int) = 412 := by omega
  rw [c6] at a6
  obtain ⟨T6, J6, u6, p6, z6, y6, h6, m6, w6⟩ := n115 (d := d) (S := U5) (I := J5) c6
  have b6 := E139_63 (d := d + 2) (s1 := 412) (S := newS U5 6 10) (I := newI U5 J5) (by decide)
  rw [u6, Option.bind_some] at b6
  have o6 : KO T6 0 8 := KO_p p6 (KO_new q5)
  have e6 := E139_67 (d := d + 3) (s1 := 412) (S := T6) (I := J6) (by decide) o6
  have x6 : ev (d + 3) 139 59 [(2, 0)] [] U5 J5 = _ := a6.trans (b6.trans e6)
  clear a6 b6 e6
  generalize hU6 : ((T6.1, T6.2.1, T6.2.2.1, up2 (sG T6) 0 5 412) : SS) = U6 at x6
  obtain ⟨s6, t6, q6, n6, r6, g6⟩ := mk_set (f := 5) q5 c6 p6 hU6.symm
  clear hU6 u6
  have a7 := E139_70 (d := d + 3) (S := U6) (I := J6)
  have c7 : (U6.1 : Int) = 418 := by omega
  rw [c7] at a7
  obtain ⟨T7, J7, u7, p7, z7, y7, h7, m7, w7⟩ := n115 (d := d) (S := U6) (I := J6) c7
  have b7 := E139_74 (d := d + 2) (s1 := 418) (S := newS U6 6 10) (I := newI U6 J6) (by decide)
  rw [u7, Option.bind_some] at b7
  have o7 : KO T7 0 8 := KO_p p7 (KO_new q6)
  have e7 := E139_78 (d := d + 3) (s1 := 418) (S := T7) (I := J7) (by decide) o7
  have x7 : ev (d + 3) 139 70 [(2, 0)] [] U6 J6 = _ := a7.trans (b7.trans e7)
  clear a7 b7 e7
  generalize hU7 : ((T7.1, T7.2.1, T7.2.2.1, up2 (sG T7) 0 6 418) : SS) = U7 at x7
  obtain ⟨s7, t7, q7, n7, r7, g7⟩ := mk_set (f := 6) q6 c7 p7 hU7.symm
  clear hU7 u7
  have a8 := E139_81 (d := d + 3) (S := U7) (I := J7)
  have c8 : (U7.1 : Int) = 424 := by omega
  rw [c8] at a8
  obtain ⟨T8, J8, u8, p8, z8, y8, h8, m8, w8⟩ := n65 (d := d) (S := U7) (I := J7) c8
  have b8 := E139_85 (d := d + 2) (S := newS U7 2 3) (I := newI U7 J7) (by decide)
  rw [u8, Option.bind_some] at b8
  have o8 : KO T8 0 8 := KO_p p8 (KO_new q7)
  have e8 := E139_89 (d := d + 3) (S := T8) (I := J8) (by decide) o8
  have x8 : ev (d + 3) 139 81 [(2, 0)] [] U7 J7 = _ := a8.trans (b8.trans e8)
  clear a8 b8 e8
  generalize hU8 : ((T8.1, T8.2.1, T8.2.2.1, up2 (sG T8) 0 7 424) : SS) = U8 at x8
  obtain ⟨s8, t8, q8, n8, r8, g8⟩ := mk_set (f := 7) q7 c8 p8 hU8.symm
  clear hU8 u8
  refine ⟨U8, J8, ?_, by omega, by omega, ⟨q8, ⟨by rw [g8, g7, g6, g5, g4, g3, g2, g1]; rfl, TA_p s8 (by decide) (TA_p s7 (by decide) (TA_p s6 (by decide) (TA_p s5 (by decide) (TA_p s4 (by decide) (TA_p s3 (by decide) (TA_p s2 (by decide) (TA_p t1 (by decide) (h1))))))))⟩, ⟨by rw [g8, g7, g6, g5, g4, g3, g2]; rfl, RA_p s8 (by decide) (RA_p s7 (by decide) (RA_p s6 (by decide) (RA_p s5 (by decide) (RA_p s4 (by decide) (RA_p s3 (by decide) (RA_p t2 (by decide) (h2)))))))⟩, ⟨by rw [g8, g7, g6, g5, g4, g3]; rfl, DA_p s8 (fun x x0 x1 => by omega) (DA_p s7 (fun x x0 x1 => by omega) (DA_p s6 (fun x x0 x1 => by omega) (DA_p s5 (fun x x0 x1 => by omega) (DA_p s4 (fun x x0 x1 => by omega) (DA_p t3 (fun x x0 x1 => by omega) (h3))))))⟩, ⟨by rw [g8, g7, g6, g5, g4]; rfl, DA_p s8 (fun x x0 x1 => by omega) (DA_p s7 (fun x x0 x1 => by omega) (DA_p s6 (fun x x0 x1 => by omega) (DA_p s5 (fun x x0 x1 => by omega) (DA_p t4 (fun x x0 x1 => by omega) (h4)))))⟩, ⟨by rw [g8, g7, g6, g5]; rfl, PA_p s8 (fun x x0 x1 => by omega) (PA_p s7 (fun x x0 x1 => by omega) (PA_p s6 (fun x x0 x1 => by omega) (PA_p t5 (fun x x0 x1 => by omega) (h5))))⟩, ⟨by rw [g8, g7, g6]; rfl, UA_p s8 (by decide) (UA_p s7 (by decide) (UA_p t6 (by decide) (h6)))⟩, ⟨by rw [g8, g7]; rfl, UA_p s8 (by decide) (UA_p t7 (by decide) (h7))⟩, ⟨by rw [g8]; rfl, HA_p t8 (by decide) (h8)⟩⟩, ?_⟩
  · exact x1.trans (x2.trans (x3.trans (x4.trans (x5.trans (x6.trans (x7.trans (x8.trans E139_92)))))))
  · refine ⟨fun x hx => ?_, fun k => ?_, fun k => ?_, ?_, fun k => ?_, fun k => ?_, fun k => ?_, w8⟩
    · rw [m8 x (by omega), m7 x (by omega), m6 x (by omega), m5 x (by omega), m4 x (by omega), m3 x (by omega), m2 x (by omega), m1 x hx]
    · rw [m8 1 (by decide), m7 1 (by decide), m6 1 (by decide), m5 1 (by decide), m4 1 (by decide), m3 1 (by decide), m2 1 (by decide)]; exact w1 k
    · rw [m8 3 (by decide), m7 3 (by decide), m6 3 (by decide), m5 3 (by decide), m4 3 (by decide), m3 3 (by decide)]; exact w2 k
    · have e : ∀ z, z < 36 → J8 z = J3 z := fun z hz => by rw [m8 z (by omega), m7 z (by omega), m6 z (by omega), m5 z (by omega), m4 z (by omega)]
      obtain ⟨v1, v2, v3, v4⟩ := w3
      exact ⟨fun k => by rw [e 5 (by decide)]; exact v1 k, fun c c0 c1 => by rw [e _ (by decide), e _ (by decide)]; exact v2 c c0 c1, fun c c0 c1 => by rw [e _ (by decide)]; exact v3 c c0 c1, fun z z0 z1 z3 z4 z5 k => by rw [e z (by omega)]; exact v4 z z0 z1 z3 z4 z5 k⟩
    · rw [m8 67 (by decide), m7 67 (by decide), m6 67 (by decide)]; exact w5.1 k
    · rw [m8 70 (by decide), m7 70 (by decide), m6 70 (by decide)]; exact w5.2 k
    · rw [m8 412 (by decide), m7 412 (by decide)]; exact w6 k
end r125
