/-! the law, one word of the script: the calls that throw nothing -/
section r121
variable {d : Nat} {S : SS} {I : II} {N i L : Int} {x5 x6 x7 : AV}
theorem lc_sign (hS : SH S) (h : ST N I) (hN0 : 100 ≤ N) (hN : N < 66000000) (hI : ∀ k, isI (I (-2) k)) (hs : SCR S i L) : LX d N S I 220 (LA i x5 x6 x7) :=
  lc1 (ma := 140) (mb := 190) (off := 1091) (by decide +kernel) (by decide) (lk_of (by decide +kernel)) (lk_of (by decide +kernel)) (by decide +kernel : MF 140 1 10 2) (by decide +kernel : MF 190 1 11 3) hS hs rfl rfl (cr_sign hS h hN0 hN (hI (i + 1)))
theorem lc_end (hS : SH S) (h : ST N I) (hN0 : 100 ≤ N) (hN : N < 66000000) (hI : ∀ k, isI (I (-2) k)) (hs : SCR S i L) : LX d N S I 245 (LA i x5 x6 x7) :=
  lc1 (ma := 141) (mb := 191) (off := 1066) (by decide +kernel) (by decide) (lk_of (by decide +kernel)) (lk_of (by decide +kernel)) (by decide +kernel : MF 141 1 10 2) (by decide +kernel : MF 191 1 11 2) hS hs rfl rfl (cr_end hS h hN0 hN (hI (i + 1)))
theorem lc_queues (hS : SH S) (h : ST N I) (hN0 : 100 ≤ N) (hN : N < 66000000) (hI : ∀ k, isI (I (-2) k)) (hs : SCR S i L) : LX d N S I 270 (LA i x5 x6 x7) :=
  lc0 (ma := 142) (mb := 207) (off := 1053) (by decide +kernel) (by decide) (lk_of (by decide +kernel)) (lk_of (by decide +kernel)) (by decide +kernel : MF 142 0 10 3) (by decide +kernel : MF 207 0 11 5) hS hs rfl rfl (cr_queues hS h hN0 hN)
theorem lc_rule (hS : SH S) (h : ST N I) (hN0 : 100 ≤ N) (hN : N < 66000000) (hI : ∀ k, isI (I (-2) k)) (hs : SCR S i L) : LX d N S I 283 (LA i x5 x6 x7) :=
  lc0 (ma := 145) (mb := 193) (off := 1040) (by decide +kernel) (by decide) (lk_of (by decide +kernel)) (lk_of (by decide +kernel)) (by decide +kernel : MF 145 0 10 2) (by decide +kernel : MF 193 0 11 2) hS hs rfl rfl (cr_rule hS h hN0 hN)
theorem lc_sheet (hS : SH S) (h : ST N I) (hN0 : 100 ≤ N) (hN : N < 66000000) (hI : ∀ k, isI (I (-2) k)) (hs : SCR S i L) : LX d N S I 364 (LA i x5 x6 x7) :=
  lc4 (ma := 146) (mb := 213) (off := 911) (by decide +kernel) (by decide) (lk_of (by decide +kernel)) (lk_of (by decide +kernel)) (by decide +kernel : MF 146 4 10 5) (by decide +kernel : MF 213 4 11 8) hS hs rfl rfl (cr_sheet hS h hN0 hN (hI (i + 1)) (hI (i + 2)) (hI (i + 3)) (hI (i + 4)))
theorem lc_puts (hS : SH S) (h : ST N I) (hN0 : 100 ≤ N) (hN : N < 66000000) (hI : ∀ k, isI (I (-2) k)) (hs : SCR S i L) : LX d N S I 425 (LA i x5 x6 x7) :=
  lc4 (ma := 147) (mb := 216) (off := 850) (by decide +kernel) (by decide) (lk_of (by decide +kernel)) (lk_of (by decide +kernel)) (by decide +kernel : MF 147 4 10 5) (by decide +kernel : MF 216 4 11 5) hS hs rfl rfl (cr_puts hS h hN0 hN (hI (i + 1)) (hI (i + 2)) (hI (i + 3)) (hI (i + 4)))
theorem lc_ring (hS : SH S) (h : ST N I) (hN0 : 100 ≤ N) (hN : N < 66000000) (hI : ∀ k, isI (I (-2) k)) (hs : SCR S i L) : LX d N S I 486 (LA i x5 x6 x7) :=
  lc1 (ma := 148) (mb := 233) (off := 825) (by decide +kernel) (by decide) (lk_of (by decide +kernel)) (lk_of (by decide +kernel)) (by decide +kernel : MF 148 1 10 2) (by decide +kernel : MF 233 1 11 2) hS hs rfl rfl (cr_ring hS h hN0 hN (hI (i + 1)))
theorem lc_ticks (hS : SH S) (h : ST N I) (hN0 : 100 ≤ N) (hN : N < 66000000) (hI : ∀ k, isI (I (-2) k)) (hs : SCR S i L) : LX d N S I 511 (LA i x5 x6 x7) :=
  lc1 (ma := 149) (mb := 235) (off := 800) (by decide +kernel) (by decide) (lk_of (by decide +kernel)) (lk_of (by decide +kernel)) (by decide +kernel : MF 149 1 10 2) (by decide +kernel : MF 235 1 11 2) hS hs rfl rfl (cr_ticks hS h hN0 hN (hI (i + 1)))
theorem lc_takes (hS : SH S) (h : ST N I) (hN0 : 100 ≤ N) (hN : N < 66000000) (hI : ∀ k, isI (I (-2) k)) (hs : SCR S i L) : LX d N S I 536 (LA i x5 x6 x7) :=
  lc1 (ma := 150) (mb := 256) (off := 775) (by decide +kernel) (by decide) (lk_of (by decide +kernel)) (lk_of (by decide +kernel)) (by decide +kernel : MF 150 1 10 2) (by decide +kernel : MF 256 1 11 3) hS hs rfl rfl (cr_takes hS h hN0 hN (hI (i + 1)))
theorem lc_calls (hS : SH S) (h : ST N I) (hN0 : 100 ≤ N) (hN : N < 66000000) (hI : ∀ k, isI (I (-2) k)) (hs : SCR S i L) : LX d N S I 561 (LA i x5 x6 x7) :=
  lc2 (ma := 151) (mb := 258) (off := 738) (by decide +kernel) (by decide) (lk_of (by decide +kernel)) (lk_of (by decide +kernel)) (by decide +kernel : MF 151 2 10 3) (by decide +kernel : MF 258 2 11 3) hS hs rfl rfl (cr_calls hS h hN0 hN (hI (i + 1)) (hI (i + 2)))
theorem lc_resets (hS : SH S) (h : ST N I) (hN0 : 100 ≤ N) (hN : N < 66000000) (hI : ∀ k, isI (I (-2) k)) (hs : SCR S i L) : LX d N S I 598 (LA i x5 x6 x7) :=
  lc0 (ma := 152) (mb := 261) (off := 725) (by decide +kernel) (by decide) (lk_of (by decide +kernel)) (lk_of (by decide +kernel)) (by decide +kernel : MF 152 0 10 1) (by decide +kernel : MF 261 0 11 1) hS hs rfl rfl (cr_resets hS h hN0 hN)
theorem lc_weighs (hS : SH S) (h : ST N I) (hN0 : 100 ≤ N) (hN : N < 66000000) (hI : ∀ k, isI (I (-2) k)) (hs : SCR S i L) : LX d N S I 611 (LA i x5 x6 x7) :=
  lc2 (ma := 153) (mb := 263) (off := 688) (by decide +kernel) (by decide) (lk_of (by decide +kernel)) (lk_of (by decide +kernel)) (by decide +kernel : MF 153 2 10 3) (by decide +kernel : MF 263 2 11 3) hS hs rfl rfl (cr_weighs hS h hN0 hN (hI (i + 1)) (hI (i + 2)))
theorem lc_depth (hS : SH S) (h : ST N I) (hN0 : 100 ≤ N) (hN : N < 66000000) (hI : ∀ k, isI (I (-2) k)) (hs : SCR S i L) : LX d N S I 648 (LA i x5 x6 x7) :=
  lc1 (ma := 154) (mb := 265) (off := 663) (by decide +kernel) (by decide) (lk_of (by decide +kernel)) (lk_of (by decide +kernel)) (by decide +kernel : MF 154 1 10 2) (by decide +kernel : MF 265 1 11 2) hS hs rfl rfl (cr_depth hS h hN0 hN (hI (i + 1)))
theorem lc_day (hS : SH S) (h : ST N I) (hN0 : 100 ≤ N) (hN : N < 66000000) (hI : ∀ k, isI (I (-2) k)) (hs : SCR S i L) : LX d N S I 673 (LA i x5 x6 x7) :=
  lc0 (ma := 155) (mb := 267) (off := 650) (by decide +kernel) (by decide) (lk_of (by decide +kernel)) (lk_of (by decide +kernel)) (by decide +kernel : MF 155 0 10 6) (by decide +kernel : MF 267 0 11 2) hS hs rfl rfl (cr_day hS h hN0 hN)
theorem lc_undo (hS : SH S) (h : ST N I) (hN0 : 100 ≤ N) (hN : N < 66000000) (hI : ∀ k, isI (I (-2) k)) (hs : SCR S i L) : LX d N S I 686 (LA i x5 x6 x7) :=
  lc0 (ma := 160) (mb := 215) (off := 637) (by decide +kernel) (by decide) (lk_of (by decide +kernel)) (lk_of (by decide +kernel)) (by decide +kernel : MF 160 0 10 1) (by decide +kernel : MF 215 0 11 2) hS hs rfl rfl (cr_undo hS h hN0 hN)
theorem lc_waiting (hS : SH S) (h : ST N I) (hN0 : 100 ≤ N) (hN : N < 66000000) (hI : ∀ k, isI (I (-2) k)) (hs : SCR S i L) : LX d N S I 699 (LA i x5 x6 x7) :=
  lc1 (ma := 161) (mb := 271) (off := 612) (by decide +kernel) (by decide) (lk_of (by decide +kernel)) (lk_of (by decide +kernel)) (by decide +kernel : MF 161 1 10 6) (by decide +kernel : MF 271 1 11 3) hS hs rfl rfl (cr_waiting hS h hN0 hN (hI (i + 1)))
theorem lc_running (hS : SH S) (h : ST N I) (hN0 : 100 ≤ N) (hN : N < 66000000) (hI : ∀ k, isI (I (-2) k)) (hs : SCR S i L) : LX d N S I 724 (LA i x5 x6 x7) :=
  lc0 (ma := 162) (mb := 272) (off := 599) (by decide +kernel) (by decide) (lk_of (by decide +kernel)) (lk_of (by decide +kernel)) (by decide +kernel : MF 162 0 10 1) (by decide +kernel : MF 272 0 11 3) hS hs rfl rfl (cr_running hS h hN0 hN)
theorem lc_outbox (hS : SH S) (h : ST N I) (hN0 : 100 ≤ N) (hN : N < 66000000) (hI : ∀ k, isI (I (-2) k)) (hs : SCR S i L) : LX d N S I 737 (LA i x5 x6 x7) :=
  lc0 (ma := 163) (mb := 273) (off := 586) (by decide +kernel) (by decide) (lk_of (by decide +kernel)) (lk_of (by decide +kernel)) (by decide +kernel : MF 163 0 10 1) (by decide +kernel : MF 273 0 11 3) hS hs rfl rfl (cr_outbox hS h hN0 hN)
theorem lc_phases (hS : SH S) (h : ST N I) (hN0 : 100 ≤ N) (hN : N < 66000000) (hI : ∀ k, isI (I (-2) k)) (hs : SCR S i L) : LX d N S I 750 (LA i x5 x6 x7) :=
  lc1 (ma := 164) (mb := 274) (off := 561) (by decide +kernel) (by decide) (lk_of (by decide +kernel)) (lk_of (by decide +kernel)) (by decide +kernel : MF 164 1 10 3) (by decide +kernel : MF 274 1 11 5) hS hs rfl rfl (cr_phases hS h hN0 hN (hI (i + 1)))
theorem lc_room (hS : SH S) (h : ST N I) (hN0 : 100 ≤ N) (hN : N < 66000000) (hI : ∀ k, isI (I (-2) k)) (hs : SCR S i L) : LX d N S I 775 (LA i x5 x6 x7) :=
  lc1 (ma := 165) (mb := 276) (off := 536) (by decide +kernel) (by decide) (lk_of (by decide +kernel)) (lk_of (by decide +kernel)) (by decide +kernel : MF 165 1 10 3) (by decide +kernel : MF 276 1 11 5) hS hs rfl rfl (cr_room hS h hN0 hN (hI (i + 1)))
theorem lc_block (hS : SH S) (h : ST N I) (hN0 : 100 ≤ N) (hN : N < 66000000) (hI : ∀ k, isI (I (-2) k)) (hs : SCR S i L) : LX d N S I 800 (LA i x5 x6 x7) :=
  lc1 (ma := 166) (mb := 277) (off := 511) (by decide +kernel) (by decide) (lk_of (by decide +kernel)) (lk_of (by decide +kernel)) (by decide +kernel : MF 166 1 10 2) (by decide +kernel : MF 277 1 11 5) hS hs rfl rfl (cr_block hS h hN0 hN (hI (i + 1)))
theorem lc_next (hS : SH S) (h : ST N I) (hN0 : 100 ≤ N) (hN : N < 66000000) (hI : ∀ k, isI (I (-2) k)) (hs : SCR S i L) : LX d N S I 825 (LA i x5 x6 x7) :=
  lc0 (ma := 167) (mb := 279) (off := 498) (by decide +kernel) (by decide) (lk_of (by decide +kernel)) (lk_of (by decide +kernel)) (by decide +kernel : MF 167 0 10 3) (by decide +kernel : MF 279 0 11 2) hS hs rfl rfl (cr_next hS h hN0 hN)
theorem lc_deals (hS : SH S) (h : ST N I) (hN0 : 100 ≤ N) (hN : N < 66000000) (hI : ∀ k, isI (I (-2) k)) (hs : SCR S i L) : LX d N S I 838 (LA i x5 x6 x7) :=
  lc1 (ma := 168) (mb := 281) (off := 473) (by decide +kernel) (by decide) (lk_of (by decide +kernel)) (lk_of (by decide +kernel)) (by decide +kernel : MF 168 1 10 2) (by decide +kernel : MF 281 1 11 4) hS hs rfl rfl (cr_deals hS h hN0 hN (hI (i + 1)))
theorem lc_when (hS : SH S) (h : ST N I) (hN0 : 100 ≤ N) (hN : N < 66000000) (hI : ∀ k, isI (I (-2) k)) (hs : SCR S i L) : LX d N S I 863 (LA i x5 x6 x7) :=
  lc2 (ma := 169) (mb := 282) (off := 436) (by decide +kernel) (by decide) (lk_of (by decide +kernel)) (lk_of (by decide +kernel)) (by decide +kernel : MF 169 2 10 4) (by decide +kernel : MF 282 2 11 6) hS hs rfl rfl (cr_when hS h hN0 hN (hI (i + 1)) (hI (i + 2)))
theorem lc_drains (hS : SH S) (h : ST N I) (hN0 : 100 ≤ N) (hN : N < 66000000) (hI : ∀ k, isI (I (-2) k)) (hs : SCR S i L) : LX d N S I 900 (LA i x5 x6 x7) :=
  lc0 (ma := 170) (mb := 283) (off := 423) (by decide +kernel) (by decide) (lk_of (by decide +kernel)) (lk_of (by decide +kernel)) (by decide +kernel : MF 170 0 10 2) (by decide +kernel : MF 283 0 11 2) hS hs rfl rfl (cr_drains hS h hN0 hN)
theorem lc_would (hS : SH S) (h : ST N I) (hN0 : 100 ≤ N) (hN : N < 66000000) (hI : ∀ k, isI (I (-2) k)) (hs : SCR S i L) : LX d N S I 913 (LA i x5 x6 x7) :=
  lc1 (ma := 171) (mb := 287) (off := 398) (by decide +kernel) (by decide) (lk_of (by decide +kernel)) (lk_of (by decide +kernel)) (by decide +kernel : MF 171 1 10 2) (by decide +kernel : MF 287 1 11 3) hS hs rfl rfl (cr_would hS h hN0 hN (hI (i + 1)))
theorem lc_needs (hS : SH S) (h : ST N I) (hN0 : 100 ≤ N) (hN : N < 66000000) (hI : ∀ k, isI (I (-2) k)) (hs : SCR S i L) : LX d N S I 938 (LA i x5 x6 x7) :=
  lc1 (ma := 172) (mb := 288) (off := 373) (by decide +kernel) (by decide) (lk_of (by decide +kernel)) (lk_of (by decide +kernel)) (by decide +kernel : MF 172 1 10 5) (by decide +kernel : MF 288 1 11 3) hS hs rfl rfl (cr_needs hS h hN0 hN (hI (i + 1)))
theorem lc_bells (hS : SH S) (h : ST N I) (hN0 : 100 ≤ N) (hN : N < 66000000) (hI : ∀ k, isI (I (-2) k)) (hs : SCR S i L) : LX d N S I 963 (LA i x5 x6 x7) :=
  lc0 (ma := 173) (mb := 289) (off := 360) (by decide +kernel) (by decide) (lk_of (by decide +kernel)) (lk_of (by decide +kernel)) (by decide +kernel : MF 173 0 10 1) (by decide +kernel : MF 289 0 11 1) hS hs rfl rfl (cr_bells hS h hN0 hN)
theorem lc_recall (hS : SH S) (h : ST N I) (hN0 : 100 ≤ N) (hN : N < 66000000) (hI : ∀ k, isI (I (-2) k)) (hs : SCR S i L) : LX d N S I 976 (LA i x5 x6 x7) :=
  lc2 (ma := 174) (mb := 290) (off := 323) (by decide +kernel) (by decide) (lk_of (by decide +kernel)) (lk_of (by decide +kernel)) (by decide +kernel : MF 174 2 10 4) (by decide +kernel : MF 290 2 11 5) hS hs rfl rfl (cr_recall hS h hN0 hN (hI (i + 1)) (hI (i + 2)))
theorem lc_served (hS : SH S) (h : ST N I) (hN0 : 100 ≤ N) (hN : N < 66000000) (hI : ∀ k, isI (I (-2) k)) (hs : SCR S i L) : LX d N S I 1013 (LA i x5 x6 x7) :=
  lc0 (ma := 175) (mb := 291) (off := 310) (by decide +kernel) (by decide) (lk_of (by decide +kernel)) (lk_of (by decide +kernel)) (by decide +kernel : MF 175 0 10 4) (by decide +kernel : MF 291 0 11 2) hS hs rfl rfl (cr_served hS h hN0 hN)
theorem lc_heard (hS : SH S) (h : ST N I) (hN0 : 100 ≤ N) (hN : N < 66000000) (hI : ∀ k, isI (I (-2) k)) (hs : SCR S i L) : LX d N S I 1026 (LA i x5 x6 x7) :=
  lc2 (ma := 176) (mb := 292) (off := 273) (by decide +kernel) (by decide) (lk_of (by decide +kernel)) (lk_of (by decide +kernel)) (by decide +kernel : MF 176 2 10 3) (by decide +kernel : MF 292 2 11 3) hS hs rfl rfl (cr_heard hS h hN0 hN (hI (i + 1)) (hI (i + 2)))
theorem lc_denies (hS : SH S) (h : ST N I) (hN0 : 100 ≤ N) (hN : N < 66000000) (hI : ∀ k, isI (I (-2) k)) (hs : SCR S i L) : LX d N S I 1063 (LA i x5 x6 x7) :=
  lc0 (ma := 177) (mb := 294) (off := 260) (by decide +kernel) (by decide) (lk_of (by decide +kernel)) (lk_of (by decide +kernel)) (by decide +kernel : MF 177 0 10 1) (by decide +kernel : MF 294 0 11 2) hS hs rfl rfl (cr_denies hS h hN0 hN)
theorem lc_fits (hS : SH S) (h : ST N I) (hN0 : 100 ≤ N) (hN : N < 66000000) (hI : ∀ k, isI (I (-2) k)) (hs : SCR S i L) : LX d N S I 1076 (LA i x5 x6 x7) :=
  lc0 (ma := 178) (mb := 295) (off := 247) (by decide +kernel) (by decide) (lk_of (by decide +kernel)) (lk_of (by decide +kernel)) (by decide +kernel : MF 178 0 10 1) (by decide +kernel : MF 295 0 11 5) hS hs rfl rfl (cr_fits hS h hN0 hN)
theorem lc_asks (hS : SH S) (h : ST N I) (hN0 : 100 ≤ N) (hN : N < 66000000) (hI : ∀ k, isI (I (-2) k)) (hs : SCR S i L) : LX d N S I 1089 (LA i x5 x6 x7) :=
  lc0 (ma := 179) (mb := 299) (off := 234) (by decide +kernel) (by decide) (lk_of (by decide +kernel)) (lk_of (by decide +kernel)) (by decide +kernel : MF 179 0 10 1) (by decide +kernel : MF 299 0 11 8) hS hs rfl rfl (cr_asks hS h hN0 hN)
theorem lc_laps (hS : SH S) (h : ST N I) (hN0 : 100 ≤ N) (hN : N < 66000000) (hI : ∀ k, isI (I (-2) k)) (hs : SCR S i L) : LX d N S I 1102 (LA i x5 x6 x7) :=
  lc3 (ma := 180) (mb := 301) (off := 185) (by decide +kernel) (by decide) (lk_of (by decide +kernel)) (lk_of (by decide +kernel)) (by decide +kernel : MF 180 3 10 4) (by decide +kernel : MF 301 3 11 6) hS hs rfl rfl (cr_laps hS h hN0 hN (hI (i + 1)) (hI (i + 2)) (hI (i + 3)))
theorem lc_law (hS : SH S) (h : ST N I) (hN0 : 100 ≤ N) (hN : N < 66000000) (hI : ∀ k, isI (I (-2) k)) (hs : SCR S i L) : LX d N S I 1151 (LA i x5 x6 x7) :=
  lc0 (ma := 181) (mb := 302) (off := 172) (by decide +kernel) (by decide) (lk_of (by decide +kernel)) (lk_of (by decide +kernel)) (by decide +kernel : MF 181 0 10 4) (by decide +kernel : MF 302 0 11 5) hS hs rfl rfl (cr_law hS h hN0 hN)
theorem lc_years (hS : SH S) (h : ST N I) (hN0 : 100 ≤ N) (hN : N < 66000000) (hI : ∀ k, isI (I (-2) k)) (hs : SCR S i L) : LX d N S I 1164 (LA i x5 x6 x7) :=
  lc2 (ma := 183) (mb := 304) (off := 135) (by decide +kernel) (by decide) (lk_of (by decide +kernel)) (lk_of (by decide +kernel)) (by decide +kernel : MF 183 2 10 5) (by decide +kernel : MF 304 2 11 6) hS hs rfl rfl (cr_years hS h hN0 hN (hI (i + 1)) (hI (i + 2)))
theorem lc_keep (hS : SH S) (h : ST N I) (hN0 : 100 ≤ N) (hN : N < 66000000) (hI : ∀ k, isI (I (-2) k)) (hs : SCR S i L) : LX d N S I 1201 (LA i x5 x6 x7) :=
  lc1 (ma := 184) (mb := 307) (off := 110) (by decide +kernel) (by decide) (lk_of (by decide +kernel)) (lk_of (by decide +kernel)) (by decide +kernel : MF 184 1 10 2) (by decide +kernel : MF 307 1 11 3) hS hs rfl rfl (cr_keep hS h hN0 hN (hI (i + 1)))
theorem lc_again (hS : SH S) (h : ST N I) (hN0 : 100 ≤ N) (hN : N < 66000000) (hI : ∀ k, isI (I (-2) k)) (hs : SCR S i L) : LX d N S I 1226 (LA i x5 x6 x7) :=
  lc1 (ma := 185) (mb := 308) (off := 85) (by decide +kernel) (by decide) (lk_of (by decide +kernel)) (lk_of (by decide +kernel)) (by decide +kernel : MF 185 1 10 2) (by decide +kernel : MF 308 1 11 3) hS hs rfl rfl (cr_again hS h hN0 hN (hI (i + 1)))
theorem lc_count (hS : SH S) (h : ST N I) (hN0 : 100 ≤ N) (hN : N < 66000000) (hI : ∀ k, isI (I (-2) k)) (hs : SCR S i L) : LX d N S I 1251 (LA i x5 x6 x7) :=
  lc1 (ma := 186) (mb := 309) (off := 60) (by decide +kernel) (by decide) (lk_of (by decide +kernel)) (lk_of (by decide +kernel)) (by decide +kernel : MF 186 1 10 2) (by decide +kernel : MF 309 1 11 5) hS hs rfl rfl (cr_count hS h hN0 hN (hI (i + 1)))
end r121
