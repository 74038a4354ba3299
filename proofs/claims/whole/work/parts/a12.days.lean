/-! days: what is told -/
theorem E268_17s {d : Nat} {a1 s1 s2 : Int} {S : SS} {I : II} (h2 : MA S 427) : ev (d + 1) 268 17 [(2, 427), (0, a1)] [(0, s2), (0, s1), (2, 441)] S I = gdR (0 ≤ w s1 ∧ w s1 < 80) (gdR (0 ≤ w a1 ∧ w a1 < 80) (if 0 < w ((up2 (up2 I 441 (w s1) s2) 427 32 ((I 427 32) + 1)) 441 (w a1)) then ((ev d 202 0 [(2, 427), (0, 1), uU, uU] [] S (up2 (up2 I 441 (w s1) s2) 427 32 ((I 427 32) + 1))).bind (fun q => ev (d + 1) 268 62 [(2, 427), (0, a1)] (psh q.1 [(0, a1), (2, 442)]) q.2.1 q.2.2)) else (gdR (0 ≤ w a1 ∧ w a1 < 80) (if w ((up2 (up2 I 441 (w s1) s2) 427 32 ((I 427 32) + 1)) 441 (w a1)) = 0 then (ev (d + 1) 268 51 [(2, 427), (0, a1)] [(0, 1)] S (up2 (up2 I 441 (w s1) s2) 427 32 ((I 427 32) + 1))) else (ev (d + 1) 268 51 [(2, 427), (0, a1)] [(0, 0)] S (up2 (up2 I 441 (w s1) s2) 427 32 ((I 427 32) + 1))))))) := by
  refine (sx_is D268_17 (show KA S 441 20 80 from MA_k27 h2)).trans (gdR_to fun g1 => ?_)
  refine (sx_aload_n D268_18 rfl).trans ?_
  refine (sx_dup D268_19 (by decide)).trans ?_
  refine (sx_gfI (q := (9, 32, 0, 1400)) (j := 32) D268_20 (by decide +kernel) (by decide +kernel) (by decide) (MA_o h2) rfl (up2_cell (by omega))).trans ?_
  refine (sx_iconst D268_23).trans ?_
  refine (sx_iadd D268_24).trans ?_
  refine (sx_pfI (q := (9, 32, 0, 1400)) (j := 32) D268_25 (by decide +kernel) (by decide) (by decide) (MA_o h2) rfl).trans ?_
  refine (sx_aload_n D268_28 rfl).trans ?_
  refine (sx_gfR (q := (9, 27, 0, 1395)) (b := 441) D268_29 (by decide +kernel) (by decide +kernel) (by decide) (MA_o h2) (MA_g27 h2)).trans ?_
  refine (sx_iload_n D268_32 rfl).trans ?_
  refine (sx_ia D268_33 (MA_k27 h2) rfl).trans (gdR_to fun g2 => ?_)
  refine sx_i0_gt (pc' := 52) D268_34 (by decide) (by decide) ?_ ?_ rfl
  · refine (sx_aload_n D268_52 rfl).trans ?_
    refine (sx_gfR (q := (9, 28, 0, 1396)) (b := 442) D268_53 (by decide +kernel) (by decide +kernel) (by decide) (MA_o h2) (MA_g28 h2)).trans ?_
    refine (sx_iload_n D268_56 rfl).trans ?_
    refine (sx_aload_n D268_57 rfl).trans ?_
    refine (sx_iconst D268_58).trans ?_
    exact sx_virt (c := 11) (ag := [(2, 427), (0, 1)]) (r := [(0, a1), (2, 442)]) (al' := [(2, 427), (0, 1), uU, uU]) (np := 1) (nl := 4) (q := (1, 202, 1341)) D268_59 (by decide +kernel) (by decide) mP_202 mL_202 mC_202 (Nat.le_of_ble_eq_true rfl) rfl rfl (by simp [cat]) (by decide) (MA_o h2) rfl rfl
  · refine (sx_aload_n D268_37 rfl).trans ?_
    refine (sx_gfR (q := (9, 27, 0, 1395)) (b := 441) D268_38 (by decide +kernel) (by decide +kernel) (by decide) (MA_o h2) (MA_g27 h2)).trans ?_
    refine (sx_iload_n D268_41 rfl).trans ?_
    refine (sx_ia D268_42 (MA_k27 h2) rfl).trans (gdR_to fun g3 => ?_)
    refine sx_i0_ne (pc' := 50) D268_43 (by decide) (by decide) ?_ ?_ rfl
    · refine (sx_iconst D268_46).trans ?_
      refine (sx_goto (pc' := 51) D268_47 (by decide) (by decide)).trans ?_
      exact rfl
    · refine (sx_iconst D268_50).trans ?_
      exact rfl
theorem E268_62s {d : Nat} {a1 s1 s2 : Int} {S : SS} {I : II} (h1 : MA S 427)  : ev (d + 1) 268 62 [(2, 427), (0, a1)] [(0, s2), (0, s1), (2, 442)] S I = gdR (0 ≤ w s1 ∧ w s1 < 80) (gdR (0 ≤ w a1 ∧ w a1 < 80) (if w ((up2 I 442 (w s1) s2) 442 (w a1)) < 0 then (ev (d + 1) 268 82 [(2, 427), (0, a1)] [] S (up2 I 442 (w s1) s2)) else (gdR (0 ≤ w a1 ∧ w a1 < 80) (if w (I 441 (w a1)) < 4 then (ev (d + 1) 268 82 [(2, 427), (0, a1)] [] S (up2 I 442 (w s1) s2)) else (gdR (0 ≤ w a1 ∧ w a1 < 80) (if w (I 441 (w a1)) = 4 then ((ev d 269 0 [(2, 427), uU, uU] [] S (up2 I 442 (w s1) s2)).bind (fun q => ev (d + 1) 268 116 [(2, 427), (0, a1)] (psh q.1 [(0, a1), (2, 443)]) q.2.1 q.2.2)) else ((ev d 208 0 [(2, 427), (0, 0), (0, 4)] [] S (up2 I 442 (w s1) s2)).bind (fun q => ev (d + 1) 268 125 [(2, 427), (0, a1)] (psh q.1 [(0, a1), (2, 443)]) q.2.1 q.2.2)))))))) := by
  refine (sx_is D268_62 (show KA S 442 20 80 from MA_k28 h1)).trans (gdR_to fun g1 => ?_)
  refine (sx_aload_n D268_63 rfl).trans ?_
  refine (sx_gfR (q := (9, 28, 0, 1396)) (b := 442) D268_64 (by decide +kernel) (by decide +kernel) (by decide) (MA_o h1) (MA_g28 h1)).trans ?_
  refine (sx_iload_n D268_67 rfl).trans ?_
  refine (sx_ia D268_68 (MA_k28 h1) rfl).trans (gdR_to fun g2 => ?_)
  refine sx_i0_lt (pc' := 82) D268_69 (by decide) (by decide) ?_ ?_ rfl
  · exact rfl
  · refine (sx_aload_n D268_72 rfl).trans ?_
    refine (sx_gfR (q := (9, 27, 0, 1395)) (b := 441) D268_73 (by decide +kernel) (by decide +kernel) (by decide) (MA_o h1) (MA_g27 h1)).trans ?_
    refine (sx_iload_n D268_76 rfl).trans ?_
    refine (sx_ia D268_77 (MA_k27 h1) (up2_cell (by omega))).trans (gdR_to fun g3 => ?_)
    refine (sx_iconst D268_78).trans ?_
    refine sx_if_ge (pc' := 97) D268_79 (by decide) (by decide) ?_ ?_ rfl (w_small (by decide) (by decide))
    · exact rfl
    · refine (sx_aload_n D268_97 rfl).trans ?_
      refine (sx_gfR (q := (9, 29, 0, 1397)) (b := 443) D268_98 (by decide +kernel) (by decide +kernel) (by decide) (MA_o h1) (MA_g29 h1)).trans ?_
      refine (sx_iload_n D268_101 rfl).trans ?_
      refine (sx_aload_n D268_102 rfl).trans ?_
      refine (sx_gfR (q := (9, 27, 0, 1395)) (b := 441) D268_103 (by decide +kernel) (by decide +kernel) (by decide) (MA_o h1) (MA_g27 h1)).trans ?_
      refine (sx_iload_n D268_106 rfl).trans ?_
      refine (sx_ia D268_107 (MA_k27 h1) (up2_cell (by omega))).trans (gdR_to fun g4 => ?_)
      refine (sx_iconst D268_108).trans ?_
      refine sx_if_ne (pc' := 119) D268_109 (by decide) (by decide) ?_ ?_ rfl (w_small (by decide) (by decide))
      · refine (sx_aload_n D268_112 rfl).trans ?_
        exact sx_virt (c := 11) (ag := [(2, 427)]) (r := [(0, a1), (2, 443)]) (al' := [(2, 427), uU, uU]) (np := 0) (nl := 3) (q := (1, 269, 1739)) D268_113 (by decide +kernel) (by decide) mP_269 mL_269 mC_269 (Nat.le_of_ble_eq_true rfl) rfl rfl (by simp [cat]) (by decide) (MA_o h1) rfl rfl
      · refine (sx_aload_n D268_119 rfl).trans ?_
        refine (sx_iconst D268_120).trans ?_
        refine (sx_iconst D268_121).trans ?_
        exact sx_virt (c := 11) (ag := [(2, 427), (0, 0), (0, 4)]) (r := [(0, a1), (2, 443)]) (al' := [(2, 427), (0, 0), (0, 4)]) (np := 2) (nl := 3) (q := (1, 208, 1508)) D268_122 (by decide +kernel) (by decide) mP_208 mL_208 mC_208 (Nat.le_of_ble_eq_true rfl) rfl rfl (by simp [cat]) (by decide) (MA_o h1) rfl rfl
theorem E268_125s {d : Nat} {a1 s1 s2 : Int} {S : SS} {I : II} (h1 : MA S 427)  : ev (d + 1) 268 125 [(2, 427), (0, a1)] [(0, s2), (0, s1), (2, 443)] S I = gdR (0 ≤ w s1 ∧ w s1 < 80) (gdR (0 ≤ w a1 ∧ w a1 < 80) (if w ((up2 I 443 (w s1) s2) 443 (w a1)) < 0 then (ev (d + 1) 268 145 [(2, 427), (0, a1)] [] S (up2 I 443 (w s1) s2)) else (gdR (0 ≤ w a1 ∧ w a1 < 80) (if w (I 441 (w a1)) = 4 then (ev (d + 1) 268 145 [(2, 427), (0, a1)] [] S (up2 I 443 (w s1) s2)) else ((ev d 202 0 [(2, 427), (0, 1), uU, uU] [] S (up2 I 443 (w s1) s2)).bind (fun q => ev (d + 1) 268 170 [(2, 427), (0, a1)] (psh q.1 [(0, a1), (2, 444)]) q.2.1 q.2.2)))))) := by
  refine (sx_is D268_125 (show KA S 443 20 80 from MA_k29 h1)).trans (gdR_to fun g1 => ?_)
  refine (sx_aload_n D268_126 rfl).trans ?_
  refine (sx_gfR (q := (9, 29, 0, 1397)) (b := 443) D268_127 (by decide +kernel) (by decide +kernel) (by decide) (MA_o h1) (MA_g29 h1)).trans ?_
  refine (sx_iload_n D268_130 rfl).trans ?_
  refine (sx_ia D268_131 (MA_k29 h1) rfl).trans (gdR_to fun g2 => ?_)
  refine sx_i0_lt (pc' := 145) D268_132 (by decide) (by decide) ?_ ?_ rfl
  · exact rfl
  · refine (sx_aload_n D268_135 rfl).trans ?_
    refine (sx_gfR (q := (9, 27, 0, 1395)) (b := 441) D268_136 (by decide +kernel) (by decide +kernel) (by decide) (MA_o h1) (MA_g27 h1)).trans ?_
    refine (sx_iload_n D268_139 rfl).trans ?_
    refine (sx_ia D268_140 (MA_k27 h1) (up2_cell (by omega))).trans (gdR_to fun g3 => ?_)
    refine (sx_iconst D268_141).trans ?_
    refine sx_if_ne (pc' := 160) D268_142 (by decide) (by decide) ?_ ?_ rfl (w_small (by decide) (by decide))
    · exact rfl
    · refine (sx_aload_n D268_160 rfl).trans ?_
      refine (sx_gfR (q := (9, 30, 0, 1398)) (b := 444) D268_161 (by decide +kernel) (by decide +kernel) (by decide) (MA_o h1) (MA_g30 h1)).trans ?_
      refine (sx_iload_n D268_164 rfl).trans ?_
      refine (sx_aload_n D268_165 rfl).trans ?_
      refine (sx_iconst D268_166).trans ?_
      exact sx_virt (c := 11) (ag := [(2, 427), (0, 1)]) (r := [(0, a1), (2, 444)]) (al' := [(2, 427), (0, 1), uU, uU]) (np := 1) (nl := 4) (q := (1, 202, 1341)) D268_167 (by decide +kernel) (by decide) mP_202 mL_202 mC_202 (Nat.le_of_ble_eq_true rfl) rfl rfl (by simp [cat]) (by decide) (MA_o h1) rfl rfl
theorem E268_170s {d : Nat} {a1 s1 s2 : Int} {S : SS} {I : II} (h1 : MA S 427)  : ev (d + 1) 268 170 [(2, 427), (0, a1)] [(0, s2), (0, s1), (2, 444)] S I = gdR (0 ≤ w s1 ∧ w s1 < 80) (gdR (0 ≤ w a1 ∧ w a1 < 80) (if w ((up2 I 444 (w s1) s2) 444 (w a1)) < 0 then (ev (d + 1) 268 193 [(2, 427), (0, a1)] [(0, (-1)), (0, a1), (2, 445)] S (up2 I 444 (w s1) s2)) else ((ev d 269 0 [(2, 427), uU, uU] [] S (up2 I 444 (w s1) s2)).bind (fun q => ev (d + 1) 268 193 [(2, 427), (0, a1)] (psh q.1 [(0, a1), (2, 445)]) q.2.1 q.2.2)))) := by
  refine (sx_is D268_170 (show KA S 444 20 80 from MA_k30 h1)).trans (gdR_to fun g1 => ?_)
  refine (sx_aload_n D268_171 rfl).trans ?_
  refine (sx_gfR (q := (9, 31, 0, 1399)) (b := 445) D268_172 (by decide +kernel) (by decide +kernel) (by decide) (MA_o h1) (MA_g31 h1)).trans ?_
  refine (sx_iload_n D268_175 rfl).trans ?_
  refine (sx_aload_n D268_176 rfl).trans ?_
  refine (sx_gfR (q := (9, 30, 0, 1398)) (b := 444) D268_177 (by decide +kernel) (by decide +kernel) (by decide) (MA_o h1) (MA_g30 h1)).trans ?_
  refine (sx_iload_n D268_180 rfl).trans ?_
  refine (sx_ia D268_181 (MA_k30 h1) rfl).trans (gdR_to fun g2 => ?_)
  refine sx_i0_ge (pc' := 189) D268_182 (by decide) (by decide) ?_ ?_ rfl
  · refine (sx_iconst D268_185).trans ?_
    refine (sx_goto (pc' := 193) D268_186 (by decide) (by decide)).trans ?_
    exact rfl
  · refine (sx_aload_n D268_189 rfl).trans ?_
    exact sx_virt (c := 11) (ag := [(2, 427)]) (r := [(0, a1), (2, 445)]) (al' := [(2, 427), uU, uU]) (np := 0) (nl := 3) (q := (1, 269, 1739)) D268_190 (by decide +kernel) (by decide) mP_269 mL_269 mC_269 (Nat.le_of_ble_eq_true rfl) rfl rfl (by simp [cat]) (by decide) (MA_o h1) rfl rfl
theorem E268_193s {d : Nat} {a1 s1 s2 : Int} {S : SS} {I : II} (h1 : MA S 427)  : ev d 268 193 [(2, 427), (0, a1)] [(0, s2), (0, s1), (2, 445)] S I = gdR (0 ≤ w s1 ∧ w s1 < 80) (gdR (0 ≤ w a1 ∧ w a1 < 80) (if w ((up2 I 445 (w s1) s2) 445 (w a1)) < 0 then (ev d 268 208 [(2, 427), (0, a1)] [(0, 0)] S (up2 I 445 (w s1) s2)) else (ev d 268 208 [(2, 427), (0, a1)] [(0, 1)] S (up2 I 445 (w s1) s2)))) := by
  refine (sx_is D268_193 (show KA S 445 20 80 from MA_k31 h1)).trans (gdR_to fun g1 => ?_)
  refine (sx_aload_n D268_194 rfl).trans ?_
  refine (sx_gfR (q := (9, 31, 0, 1399)) (b := 445) D268_195 (by decide +kernel) (by decide +kernel) (by decide) (MA_o h1) (MA_g31 h1)).trans ?_
  refine (sx_iload_n D268_198 rfl).trans ?_
  refine (sx_ia D268_199 (MA_k31 h1) rfl).trans (gdR_to fun g2 => ?_)
  refine sx_i0_lt (pc' := 207) D268_200 (by decide) (by decide) ?_ ?_ rfl
  · refine (sx_iconst D268_207).trans ?_
    exact rfl
  · refine (sx_iconst D268_203).trans ?_
    refine (sx_goto (pc' := 208) D268_204 (by decide) (by decide)).trans ?_
    exact rfl
def aSg (c : Int) : Int := ix (txt 11) c 6 0
def aLn (c : Int) : Int := if c = 112 then 6 else if c = 99 then 4 else if c = 120 then 1 else 2
def dgs (n : Int) (t : Int → Int) (p lim : Int) : Prop := p < n ∧ 48 ≤ t p ∧ t p ≤ lim
/-- where an act fails, or -1 -/
def actF (n : Int) (t : Int → Int) (p : Int) : Int := if aSg (t p) < 0 then p else if t p = 120 then -1 else if ¬ (p + 1 < n ∧ 48 ≤ t (p + 1) ∧ t (p + 1) ≤ 57) then p + 1 else if aSg (t p) < 4 then -1
  else if t p = 99 then (if ¬ (p + 2 < n ∧ 48 ≤ t (p + 2) ∧ t (p + 2) ≤ 57) then p + 2 else if ¬ (p + 3 < n ∧ 48 ≤ t (p + 3) ∧ t (p + 3) ≤ 57) then p + 3 else -1)
  else (if ¬ (p + 2 < n ∧ 48 ≤ t (p + 2) ∧ t (p + 2) ≤ 52) then p + 2 else if ¬ (p + 3 < n ∧ 48 ≤ t (p + 3) ∧ t (p + 3) ≤ 57) then p + 3 else if ¬ (p + 4 < n ∧ 48 ≤ t (p + 4) ∧ t (p + 4) ≤ 57) then p + 4 else if ¬ (p + 5 < n ∧ 48 ≤ t (p + 5) ∧ t (p + 5) ≤ 57) then p + 5 else -1)
def REC (K : II) (t : Int → Int) (k p : Int) : Prop := K 441 k = aSg (t p) ∧ (1 ≤ aSg (t p) → K 442 k = t (p + 1) - 48) ∧ (aSg (t p) = 4 → K 443 k = 10 * (t (p + 2) - 48) + (t (p + 3) - 48)) ∧ (aSg (t p) = 5 → K 443 k = t (p + 2) - 48 ∧ K 444 k = t (p + 3) - 48 ∧ K 445 k = 10 * (t (p + 4) - 48) + (t (p + 5) - 48))
section ra12
variable {d : Nat} {S : SS} {I J K G I2 : II} {t u : Int → Int} {L p q r b s c ok v n a k N lo hi m : Int}
theorem aSg_eq (c : Int) : aSg c = if c = 120 then 0 else if c = 114 then 1 else if c = 116 then 2 else if c = 107 then 3 else if c = 99 then 4 else if c = 112 then 5 else -1 := by
  show (if ((120 : Nat) : Int) = c then (0 : Int) else if ((114 : Nat) : Int) = c then 0 + 1 else if ((116 : Nat) : Int) = c then 0 + 1 + 1 else if ((107 : Nat) : Int) = c then 0 + 1 + 1 + 1 else if ((99 : Nat) : Int) = c then 0 + 1 + 1 + 1 + 1 else if ((112 : Nat) : Int) = c then 0 + 1 + 1 + 1 + 1 + 1 else -1) = _
  repeat' split
  all_goals omega
theorem aSg_c (c : Int) : (c = 120 ∧ aSg c = 0 ∧ aLn c = 1) ∨ (c = 114 ∧ aSg c = 1 ∧ aLn c = 2) ∨ (c = 116 ∧ aSg c = 2 ∧ aLn c = 2) ∨ (c = 107 ∧ aSg c = 3 ∧ aLn c = 2) ∨ (c = 99 ∧ aSg c = 4 ∧ aLn c = 4) ∨ (c = 112 ∧ aSg c = 5 ∧ aLn c = 6) ∨ (c ≠ 120 ∧ c ≠ 114 ∧ c ≠ 116 ∧ c ≠ 107 ∧ c ≠ 99 ∧ c ≠ 112 ∧ aSg c = -1) := by
  rw [aSg_eq]
  unfold aLn
  by_cases g1 : c = 120
  · subst g1; exact Or.inl ⟨rfl, by decide, by decide⟩
  by_cases g2 : c = 114
  · subst g2; exact Or.inr (Or.inl ⟨rfl, by decide, by decide⟩)
  by_cases g3 : c = 116
  · subst g3; exact Or.inr (Or.inr (Or.inl ⟨rfl, by decide, by decide⟩))
  by_cases g4 : c = 107
  · subst g4; exact Or.inr (Or.inr (Or.inr (Or.inl ⟨rfl, by decide, by decide⟩)))
  by_cases g5 : c = 99
  · subst g5; exact Or.inr (Or.inr (Or.inr (Or.inr (Or.inl ⟨rfl, by decide, by decide⟩))))
  by_cases g6 : c = 112
  · subst g6; exact Or.inr (Or.inr (Or.inr (Or.inr (Or.inr (Or.inl ⟨rfl, by decide, by decide⟩)))))
  · refine Or.inr (Or.inr (Or.inr (Or.inr (Or.inr (Or.inr ⟨g1, g2, g3, g4, g5, g6, ?_⟩)))))
    rw [if_neg g1, if_neg g2, if_neg g3, if_neg g4, if_neg g5, if_neg g6]
theorem aLn_b (c : Int) : 1 ≤ aLn c ∧ aLn c ≤ 6 := by
  unfold aLn
  repeat' split
  all_goals omega
theorem actF_len (h : actF n t p < 0) (hp0 : 0 ≤ p) (hp : p < n) : p + aLn (t p) ≤ n ∧ 0 ≤ aSg (t p) := by
  unfold actF at h
  rcases aSg_c (t p) with ⟨e, e1, e2⟩ | ⟨e, e1, e2⟩ | ⟨e, e1, e2⟩ | ⟨e, e1, e2⟩ | ⟨e, e1, e2⟩ | ⟨e, e1, e2⟩ | ⟨_, _, _, _, _, _, e1⟩
  all_goals
    rw [e1] at h ⊢
    repeat' split at h
    all_goals first | omega | (refine ⟨?_, by omega⟩; rename_i x; omega) | (refine ⟨?_, by omega⟩; omega)
end ra12
