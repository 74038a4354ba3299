/-! every call of the law, in one form -/
def CR (d : Nat) (A B : List AV) (ma mb : Nat) (N : Int) (S : SS) (I : II) : Prop := ∃ r T I1 I2, ev (d + 100) ma 0 A [] S I = some ((0, r), T, I1) ∧ ev (d + 100) mb 0 B [] T I1 = some ((0, r), T, I2) ∧ ST (N + 120000) I2 ∧ SE S T ∧ T.1 ≤ S.1 + 4 ∧ T.2.1 ≤ S.2.1 + 40
section r119
variable {d : Nat} {A B : List AV} {ma mb : Nat} {N : Int} {S : SS} {I : II}
theorem CR_mk (h : ∃ r I1 I2, ev (d + 100) ma 0 A [] S I = some ((0, r), S, I1) ∧ ev (d + 100) mb 0 B [] S I1 = some ((0, r), S, I2) ∧ ST (N + 100000) I2) : CR d A B ma mb N S I := by
  obtain ⟨r, I1, I2, e1, e2, e3⟩ := h
  exact ⟨r, S, I1, I2, e1, e2, ST_le e3 (by omega), SE_refl, by omega, by omega⟩
theorem CR_mk3 (h : ∃ r I1 I2, ev (d + 100) ma 0 A [] S I = some ((0, r), S, I1) ∧ ev (d + 100) mb 0 B [] S I1 = some ((0, r), S, I2) ∧ ST (N + 120000) I2) : CR d A B ma mb N S I := by
  obtain ⟨r, I1, I2, e1, e2, e3⟩ := h
  exact ⟨r, S, I1, I2, e1, e2, e3, SE_refl, by omega, by omega⟩
theorem CR_mk2 {k n : Nat} (hk : k ≤ 4) (hn : n ≤ 40) (h : ∃ r T I1 I2, ev (d + 100) ma 0 A [] S I = some ((0, r), T, I1) ∧ ev (d + 100) mb 0 B [] T I1 = some ((0, r), T, I2) ∧ ST (N + 100000) I2 ∧ SE S T ∧ T.1 ≤ S.1 + k ∧ T.2.1 ≤ S.2.1 + n) : CR d A B ma mb N S I := by
  obtain ⟨r, T, I1, I2, e1, e2, e3, e4, e5, e6⟩ := h
  exact ⟨r, T, I1, I2, e1, e2, ST_le e3 (by omega), e4, by omega, by omega⟩
theorem cr_sign {v1 : Int} (hS : SH S) (h : ST N I) (hN0 : 100 ≤ N) (hN : N < 66000000) (hv1 : isI v1) : CR d [(2, 0), (0, v1)] [(2, 427), (0, v1), uU] 140 190 N S I := CR_mk (st_sign hS h)
theorem cr_end {v1 : Int} (hS : SH S) (h : ST N I) (hN0 : 100 ≤ N) (hN : N < 66000000) (hv1 : isI v1) : CR d [(2, 0), (0, v1)] [(2, 427), (0, v1)] 141 191 N S I := CR_mk (st_end hS h hv1)
theorem cr_queues (hS : SH S) (h : ST N I) (hN0 : 100 ≤ N) (hN : N < 66000000) : CR d [(2, 0), uU, uU] [(2, 427), uU, uU, uU, uU] 142 207 N S I := CR_mk (call_queues hS h)
theorem cr_rule (hS : SH S) (h : ST N I) (hN0 : 100 ≤ N) (hN : N < 66000000) : CR d [(2, 0), uU] [(2, 427), uU] 145 193 N S I := CR_mk (call_rule hS h)
theorem cr_sheet {v1 v2 v3 v4 : Int} (hS : SH S) (h : ST N I) (hN0 : 100 ≤ N) (hN : N < 66000000) (hv1 : isI v1) (hv2 : isI v2) (hv3 : isI v3) (hv4 : isI v4) : CR d [(2, 0), (0, v1), (0, v2), (0, v3), (0, v4)] [(2, 427), (0, v1), (0, v2), (0, v3), (0, v4), uU, uU, uU] 146 213 N S I := CR_mk (call_sheet hS h hN0 (by omega) hv1 hv2)
theorem cr_puts {v1 v2 v3 v4 : Int} (hS : SH S) (h : ST N I) (hN0 : 100 ≤ N) (hN : N < 66000000) (hv1 : isI v1) (hv2 : isI v2) (hv3 : isI v3) (hv4 : isI v4) : CR d [(2, 0), (0, v1), (0, v2), (0, v3), (0, v4)] [(2, 427), (0, v1), (0, v2), (0, v3), (0, v4)] 147 216 N S I := CR_mk (call_puts hS h hN0 (by omega) hv1 hv2 hv3 hv4)
theorem cr_ring {v1 : Int} (hS : SH S) (h : ST N I) (hN0 : 100 ≤ N) (hN : N < 66000000) (hv1 : isI v1) : CR d [(2, 0), (0, v1)] [(2, 427), (0, v1)] 148 233 N S I := CR_mk (call_ring hS h hN0 (by omega) hv1)
theorem cr_ticks {v1 : Int} (hS : SH S) (h : ST N I) (hN0 : 100 ≤ N) (hN : N < 66000000) (hv1 : isI v1) : CR d [(2, 0), (0, v1)] [(2, 427), (0, v1)] 149 235 N S I := CR_mk (call_ticks hS h hN0 (by omega) hv1)
theorem cr_takes {v1 : Int} (hS : SH S) (h : ST N I) (hN0 : 100 ≤ N) (hN : N < 66000000) (hv1 : isI v1) : CR d [(2, 0), (0, v1)] [(2, 427), (0, v1), uU] 150 256 N S I := CR_mk (call_takes hS h hN0 (by omega) hv1)
theorem cr_calls {v1 v2 : Int} (hS : SH S) (h : ST N I) (hN0 : 100 ≤ N) (hN : N < 66000000) (hv1 : isI v1) (hv2 : isI v2) : CR d [(2, 0), (0, v1), (0, v2)] [(2, 427), (0, v1), (0, v2)] 151 258 N S I := CR_mk (call_calls hS h hN0 (by omega) hv1 hv2)
theorem cr_resets (hS : SH S) (h : ST N I) (hN0 : 100 ≤ N) (hN : N < 66000000) : CR d [(2, 0)] [(2, 427)] 152 261 N S I := CR_mk (call_resets hS h hN0 (by omega))
theorem cr_weighs {v1 v2 : Int} (hS : SH S) (h : ST N I) (hN0 : 100 ≤ N) (hN : N < 66000000) (hv1 : isI v1) (hv2 : isI v2) : CR d [(2, 0), (0, v1), (0, v2)] [(2, 427), (0, v1), (0, v2)] 153 263 N S I := CR_mk (call_weighs hS h hN0 (by omega) hv1 hv2)
theorem cr_depth {v1 : Int} (hS : SH S) (h : ST N I) (hN0 : 100 ≤ N) (hN : N < 66000000) (hv1 : isI v1) : CR d [(2, 0), (0, v1)] [(2, 427), (0, v1)] 154 265 N S I := CR_mk (call_depth hS h hN0 (by omega) hv1)
theorem cr_day (hS : SH S) (h : ST N I) (hN0 : 100 ≤ N) (hN : N < 66000000) : CR d [(2, 0), uU, uU, uU, uU, uU] [(2, 427), uU] 155 267 N S I := CR_mk3 (call_day hS h hN0 (by omega))
theorem cr_undo (hS : SH S) (h : ST N I) (hN0 : 100 ≤ N) (hN : N < 66000000) : CR d [(2, 0)] [(2, 427), uU] 160 215 N S I := CR_mk (call_undo hS h hN0)
theorem cr_waiting {v1 : Int} (hS : SH S) (h : ST N I) (hN0 : 100 ≤ N) (hN : N < 66000000) (hv1 : isI v1) : CR d [(2, 0), (0, v1), uU, uU, uU, uU] [(2, 427), (0, v1), uU] 161 271 N S I := CR_mk (call_waiting hS h (by omega) hv1)
theorem cr_running (hS : SH S) (h : ST N I) (hN0 : 100 ≤ N) (hN : N < 66000000) : CR d [(2, 0)] [(2, 427), uU, uU] 162 272 N S I := CR_mk (call_running hS h (by omega))
theorem cr_outbox (hS : SH S) (h : ST N I) (hN0 : 100 ≤ N) (hN : N < 66000000) : CR d [(2, 0)] [(2, 427), uU, uU] 163 273 N S I := CR_mk (call_outbox hS h (by omega))
theorem cr_phases {v1 : Int} (hS : SH S) (h : ST N I) (hN0 : 100 ≤ N) (hN : N < 66000000) (hv1 : isI v1) : CR d [(2, 0), (0, v1), uU] [(2, 427), (0, v1), uU, uU, uU] 164 274 N S I := CR_mk (call_phases hS h (by omega) hv1)
theorem cr_room {v1 : Int} (hS : SH S) (h : ST N I) (hN0 : 100 ≤ N) (hN : N < 66000000) (hv1 : isI v1) : CR d [(2, 0), (0, v1), uU] [(2, 427), (0, v1), uU, uU, uU] 165 276 N S I := CR_mk (call_room hS h (by omega) hv1)
theorem cr_block {v1 : Int} (hS : SH S) (h : ST N I) (hN0 : 100 ≤ N) (hN : N < 66000000) (hv1 : isI v1) : CR d [(2, 0), (0, v1)] [(2, 427), (0, v1), uU, uU, uU] 166 277 N S I := CR_mk (call_block hS h (by omega) hv1)
theorem cr_next (hS : SH S) (h : ST N I) (hN0 : 100 ≤ N) (hN : N < 66000000) : CR d [(2, 0), uU, uU] [(2, 427), uU] 167 279 N S I := CR_mk (call_next hS h hN0 (by omega))
theorem cr_deals {v1 : Int} (hS : SH S) (h : ST N I) (hN0 : 100 ≤ N) (hN : N < 66000000) (hv1 : isI v1) : CR d [(2, 0), (0, v1)] [(2, 427), (0, v1), uU, uU] 168 281 N S I := CR_mk2 (by decide) (by decide) (call_deals hS h hN0 (by omega) hv1)
theorem cr_when {v1 v2 : Int} (hS : SH S) (h : ST N I) (hN0 : 100 ≤ N) (hN : N < 66000000) (hv1 : isI v1) (hv2 : isI v2) : CR d [(2, 0), (0, v1), (0, v2), uU] [(2, 427), (0, v1), (0, v2), uU, uU, uU] 169 282 N S I := CR_mk (call_when hS h hN0 (by omega) hv1 hv2)
theorem cr_drains (hS : SH S) (h : ST N I) (hN0 : 100 ≤ N) (hN : N < 66000000) : CR d [(2, 0), uU] [(2, 427), uU] 170 283 N S I := CR_mk (call_drains hS h hN0 (by omega))
theorem cr_would {v1 : Int} (hS : SH S) (h : ST N I) (hN0 : 100 ≤ N) (hN : N < 66000000) (hv1 : isI v1) : CR d [(2, 0), (0, v1)] [(2, 427), (0, v1), uU] 171 287 N S I := CR_mk (call_would hS h hN0 (by omega) hv1)
theorem cr_needs {v1 : Int} (hS : SH S) (h : ST N I) (hN0 : 100 ≤ N) (hN : N < 66000000) (hv1 : isI v1) : CR d [(2, 0), (0, v1), uU, uU, uU] [(2, 427), (0, v1), uU] 172 288 N S I := CR_mk (call_needs hS h hN0 (by omega) hv1)
theorem cr_bells (hS : SH S) (h : ST N I) (hN0 : 100 ≤ N) (hN : N < 66000000) : CR d [(2, 0)] [(2, 427)] 173 289 N S I := CR_mk (call_bells hS h (by omega))
theorem cr_recall {v1 v2 : Int} (hS : SH S) (h : ST N I) (hN0 : 100 ≤ N) (hN : N < 66000000) (hv1 : isI v1) (hv2 : isI v2) : CR d [(2, 0), (0, v1), (0, v2), uU] [(2, 427), (0, v1), (0, v2), uU, uU] 174 290 N S I := CR_mk (call_recall hS h (by omega) hv1 hv2)
theorem cr_served (hS : SH S) (h : ST N I) (hN0 : 100 ≤ N) (hN : N < 66000000) : CR d [(2, 0), uU, uU, uU] [(2, 427), uU] 175 291 N S I := CR_mk (call_served hS h (by omega))
theorem cr_heard {v1 v2 : Int} (hS : SH S) (h : ST N I) (hN0 : 100 ≤ N) (hN : N < 66000000) (hv1 : isI v1) (hv2 : isI v2) : CR d [(2, 0), (0, v1), (0, v2)] [(2, 427), (0, v1), (0, v2)] 176 292 N S I := CR_mk (st_heard hS h hv1 hv2)
theorem cr_denies (hS : SH S) (h : ST N I) (hN0 : 100 ≤ N) (hN : N < 66000000) : CR d [(2, 0)] [(2, 427), uU] 177 294 N S I := CR_mk (st_denies hS h)
theorem cr_fits (hS : SH S) (h : ST N I) (hN0 : 100 ≤ N) (hN : N < 66000000) : CR d [(2, 0)] [(2, 427), uU, uU, uU, uU] 178 295 N S I := CR_mk (call_fits hS h (by omega))
theorem cr_asks (hS : SH S) (h : ST N I) (hN0 : 100 ≤ N) (hN : N < 66000000) : CR d [(2, 0)] [(2, 427), uU, uU, uU, uU, uU, uU, uU] 179 299 N S I := CR_mk2 (by decide) (by decide) (call_asks hS h (by omega))
theorem cr_laps {v1 v2 v3 : Int} (hS : SH S) (h : ST N I) (hN0 : 100 ≤ N) (hN : N < 66000000) (hv1 : isI v1) (hv2 : isI v2) (hv3 : isI v3) : CR d [(2, 0), (0, v1), (0, v2), (0, v3)] [(2, 427), (0, v1), (0, v2), (0, v3), uU, uU] 180 301 N S I := CR_mk (call_laps hS h hv1 hv2 hv3)
theorem cr_law (hS : SH S) (h : ST N I) (hN0 : 100 ≤ N) (hN : N < 66000000) : CR d [(2, 0), uU, uU, uU] [(2, 427), uU, uU, uU, uU] 181 302 N S I := CR_mk (call_law hS h hN0 (by omega))
theorem cr_years {v1 v2 : Int} (hS : SH S) (h : ST N I) (hN0 : 100 ≤ N) (hN : N < 66000000) (hv1 : isI v1) (hv2 : isI v2) : CR d [(2, 0), (0, v1), (0, v2), uU, uU] [(2, 427), (0, v1), (0, v2), uU, uU, uU] 183 304 N S I := CR_mk2 (by decide) (by decide) (call_years hS h hN0 (by omega) hv2)
theorem cr_keep {v1 : Int} (hS : SH S) (h : ST N I) (hN0 : 100 ≤ N) (hN : N < 66000000) (hv1 : isI v1) : CR d [(2, 0), (0, v1)] [(2, 427), (0, v1), uU] 184 307 N S I := CR_mk (call_keep hS h hN0 hv1)
theorem cr_again {v1 : Int} (hS : SH S) (h : ST N I) (hN0 : 100 ≤ N) (hN : N < 66000000) (hv1 : isI v1) : CR d [(2, 0), (0, v1)] [(2, 427), (0, v1), uU] 185 308 N S I := CR_mk (call_again hS h hN0 hv1)
theorem cr_count {v1 : Int} (hS : SH S) (h : ST N I) (hN0 : 100 ≤ N) (hN : N < 66000000) (hv1 : isI v1) : CR d [(2, 0), (0, v1)] [(2, 427), (0, v1), uU, uU, uU] 186 309 N S I := CR_mk (call_count hS h hv1)
end r119
