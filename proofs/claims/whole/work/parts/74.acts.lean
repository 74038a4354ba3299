/-! calls: puts, ring, calls, weighs, depth */ -/
section r74
variable {d : Nat} {S : SS} {I J G G' : II} {C : CF} {ρ σ τ : RW} {b a q id op bl v k c N M : Int}
theorem putsS_b : -3 ≤ (putsS C ρ q op bl v).1 ∧ (putsS C ρ q op bl v).1 ≤ 15 := by
  unfold putsS
  split
  · split
    · rcases freeS_b (ρ := ρ) (q := q) with e | ⟨e0, e1, _⟩
      · rw [if_pos (by omega)]; simp
      · rw [if_neg (by omega)]
        show -3 ≤ freeS ρ q ∧ freeS ρ q ≤ 15
        omega
    · simp
  · simp
theorem ringsS_b : -2 ≤ (ringsS C ρ q).1 ∧ (ringsS C ρ q).1 ≤ 1 := by
  unfold ringsS
  split
  · split
    · simp
    · split
      · simp
      · simp
  · simp
theorem callsS_1 : (callsS C ρ q id).1 = callsAnsS C ρ q id := by
  unfold callsS
  split
  · rename_i h; exact h.symm
  · split
    · rename_i h; exact h.symm
    · rfl
theorem weighsS_b (h : miscOK ρ) : -2 ≤ (weighsS ρ c v).1 ∧ (weighsS ρ c v).1 ≤ 19 := by
  unfold weighsS
  split
  · rename_i g
    have := h.2.1 (814 + c) (by omega) (by omega)
    split
    · simp
    · show -2 ≤ 10 + ρ (814 + c) ∧ 10 + ρ (814 + c) ≤ 19
      omega
  · simp
theorem depthS_b (h : miscOK ρ) : -2 ≤ (depthS ρ v).1 ∧ (depthS ρ v).1 ≤ 14 := by
  have := h.2.2.2.2
  unfold depthS
  split
  · show -2 ≤ (if ρ 826 = v then -2 else 10 + ρ 826) ∧ (if ρ 826 = v then -2 else 10 + ρ 826) ≤ 14
    split <;> omega
  · simp
theorem call_puts (hS : SH S) (h : ST N I) (hN0 : 100 ≤ N) (hN : N < 70000000) (hq : isI q) (hop : isI op) (hbl : isI bl) (hv : isI v) :
    ∃ r I1 I2, ev (d + 100) 147 0 [(2, 0), (0, q), (0, op), (0, bl), (0, v)] [] S I = some ((0, r), S, I1) ∧ ev (d + 100) 216 0 [(2, 427), (0, q), (0, op), (0, bl), (0, v)] [] S I1 = some ((0, r), S, I2) ∧ ST (N + 100000) I2 := by
  obtain ⟨hQ, hM⟩ := hS
  obtain ⟨G, g1, g2, g3, g4, g5⟩ := act_beg (S := S) (d + 97) hQ h
  obtain ⟨_, _, _, ⟨hk, hD⟩, _, ⟨p0, p1, p2, p3, _⟩, _, hB⟩ := id h
  obtain ⟨G', k1, k2, k3⟩ := c_write (d := d + 95) (S := S) (b := 5) (by decide) (DA5 hQ) g4 hD.2.1 hk hB.1 (by omega) hq hop hbl hv
  obtain ⟨w1, w2, w3⟩ := putsS_WF (q := q) (op := op) (bl := bl) (v := v) hD.2.1 hk hB.1 hN0
  have ab := putsS_b (C := cfM I) (ρ := I 438) (q := q) (op := op) (bl := bl) (v := v)
  have e67 : G' 67 = I 67 := by rw [k3 67 (by omega), g5]
  obtain ⟨B, I2, b1, b2, b3, b4, b5⟩ := act_end (a := (putsS (cfM I) (I 438) q op bl v).1) hM h ⟨by omega, by omega⟩ w1 (w3 1 hD.2.2) (BdN_le w2 (by omega)) g2 g3 k2 k3
  have r1 := E147_0 (d := d + 99) (I := I) (a1 := q) (a2 := op) (a3 := bl) (a4 := v) hQ
  rw [g1] at r1
  simp only [Option.bind_some, psh_u] at r1
  rw [E147_11 hQ, k1] at r1
  simp only [Option.bind_some, psh_i] at r1
  rw [E147_27 (PA67 hQ), c_seal hQ (by rw [e67]; exact p0) (by rw [e67]; exact p1) (by rw [e67]; exact p2) (by rw [e67]; exact p3) ⟨by omega, by omega⟩, e67] at r1
  simp only [Option.bind_some, psh_i, E147_30] at r1
  refine ⟨_, _, I2, r1, ?_, b5⟩
  rw [E216_0 hM, b1]
  simp only [Option.bind_some, psh_u]
  rw [E216_9 hM, m_puts (d := d + 94) hM (Or.inl rfl) (by rw [b2]; exact hk) (by rw [b3]; exact WF_Cn hD.2.1.1 hB.1 (by omega)) hq hop hbl hv, b2, b3]
  simp only [Option.bind_some, psh_i]
  rw [E216_23 hM, b4]
  simp only [Option.bind_some, psh_i]
  rw [E216_26]
theorem call_ring (hS : SH S) (h : ST N I) (hN0 : 100 ≤ N) (hN : N < 70000000) (hq : isI q) :
    ∃ r I1 I2, ev (d + 100) 148 0 [(2, 0), (0, q)] [] S I = some ((0, r), S, I1) ∧ ev (d + 100) 233 0 [(2, 427), (0, q)] [] S I1 = some ((0, r), S, I2) ∧ ST (N + 100000) I2 := by
  obtain ⟨hQ, hM⟩ := hS
  obtain ⟨G, g1, g2, g3, g4, g5⟩ := act_beg (S := S) (d + 97) hQ h
  obtain ⟨_, _, _, ⟨hk, hD⟩, _, ⟨p0, p1, p2, p3, _⟩, _, hB⟩ := id h
  obtain ⟨G', k1, k2, k3⟩ := c_bell (d := d + 97) (S := S) (b := 5) (by decide) (DA5 hQ) g4 hD.2.1 hk hB.1 (by omega) hq
  obtain ⟨w1, w2, w3⟩ := ringsS_WF (q := q) hD.2.1 hk hB.1 hN0
  have ab := ringsS_b (C := cfM I) (ρ := I 438) (q := q)
  have e67 : G' 67 = I 67 := by rw [k3 67 (by omega), g5]
  obtain ⟨B, I2, b1, b2, b3, b4, b5⟩ := act_end (a := (ringsS (cfM I) (I 438) q).1) hM h ⟨by omega, by omega⟩ w1 (w3 1 hD.2.2) (BdN_le w2 (by omega)) g2 g3 k2 k3
  have r1 := E148_0 (d := d + 99) (I := I) (a1 := q) hQ
  rw [g1] at r1
  simp only [Option.bind_some, psh_u] at r1
  rw [E148_11 hQ, k1] at r1
  simp only [Option.bind_some, psh_i] at r1
  rw [E148_23 (PA67 hQ), c_seal hQ (by rw [e67]; exact p0) (by rw [e67]; exact p1) (by rw [e67]; exact p2) (by rw [e67]; exact p3) ⟨by omega, by omega⟩, e67] at r1
  simp only [Option.bind_some, psh_i, E148_26] at r1
  refine ⟨_, _, I2, r1, ?_, b5⟩
  rw [E233_0 hM, b1]
  simp only [Option.bind_some, psh_u]
  rw [E233_9 hM, m_rings (d := d + 97) hM (Or.inl rfl) (by rw [b2]; exact hk) (by rw [b3]; exact WF_Cn hD.2.1.1 hB.1 (by omega)) hq, b2, b3]
  simp only [Option.bind_some, psh_i]
  rw [E233_19 hM, b4]
  simp only [Option.bind_some, psh_i]
  rw [E233_22]
theorem call_calls (hS : SH S) (h : ST N I) (hN0 : 100 ≤ N) (hN : N < 70000000) (hq : isI q) (hid : isI id) :
    ∃ r I1 I2, ev (d + 100) 151 0 [(2, 0), (0, q), (0, id)] [] S I = some ((0, r), S, I1) ∧ ev (d + 100) 258 0 [(2, 427), (0, q), (0, id)] [] S I1 = some ((0, r), S, I2) ∧ ST (N + 100000) I2 := by
  obtain ⟨hQ, hM⟩ := hS
  obtain ⟨G, g1, g2, g3, g4, g5⟩ := act_beg (S := S) (d + 97) hQ h
  have h2 := h
  obtain ⟨_, _, _, ⟨hk, hD⟩, _, ⟨p0, p1, p2, p3, _⟩, _, hB⟩ := h2
  obtain ⟨G', k1, k2, k3⟩ := c_callBack (d := d + 95) (S := S) (b := 5) (by decide) (DA5 hQ) g4 hD.2.1 hk hB.1 (by omega) hq hid
  obtain ⟨w1, w2, w3, w4⟩ := callsS_WF (q := q) (id := id) hD.2.1 hk hB.1 hN0
  have ab := (callsAns_spec (ρ := I 438) (q := q) (id := id) hk).2.2
  rw [← callsS_1] at ab
  have e67 : G' 67 = I 67 := by rw [k3 67 (by omega), g5]
  obtain ⟨B, I2, b1, b2, b3, b4, b5⟩ := act_end (a := (callsS (cfM I) (I 438) q id).1) hM h ⟨by omega, by omega⟩ w1 (w3 1 hD.2.2) (BdN_le w2 (by omega)) g2 g3 k2 k3
  have r1 := E151_0 (d := d + 99) (I := I) (a1 := q) (a2 := id) hQ
  rw [g1] at r1
  simp only [Option.bind_some, psh_u] at r1
  rw [E151_11 hQ, k1] at r1
  simp only [Option.bind_some, psh_i] at r1
  rw [E151_24 (PA67 hQ), c_seal hQ (by rw [e67]; exact p0) (by rw [e67]; exact p1) (by rw [e67]; exact p2) (by rw [e67]; exact p3) ⟨by omega, by omega⟩, e67] at r1
  simp only [Option.bind_some, psh_i, E151_27] at r1
  refine ⟨_, _, I2, r1, ?_, b5⟩
  rw [E258_0 hM, b1]
  simp only [Option.bind_some, psh_u]
  rw [E258_9 hM, m_calls (d := d + 95) hM (Or.inl rfl) (by rw [b2]; exact hk) (by rw [b3]; exact WF_Cn hD.2.1.1 hB.1 (by omega)) hq hid (by rw [b2, b3]; exact w4), b2, b3]
  simp only [Option.bind_some, psh_i]
  rw [E258_20 hM, b4]
  simp only [Option.bind_some, psh_i]
  rw [E258_23]
theorem call_weighs (hS : SH S) (h : ST N I) (hN0 : 100 ≤ N) (hN : N < 70000000) (hc : isI c) (hv : isI v) :
    ∃ r I1 I2, ev (d + 100) 153 0 [(2, 0), (0, c), (0, v)] [] S I = some ((0, r), S, I1) ∧ ev (d + 100) 263 0 [(2, 427), (0, c), (0, v)] [] S I1 = some ((0, r), S, I2) ∧ ST (N + 100000) I2 := by
  obtain ⟨hQ, hM⟩ := hS
  obtain ⟨G, g1, g2, g3, g4, g5⟩ := act_beg (S := S) (d + 97) hQ h
  obtain ⟨_, _, _, ⟨hk, hD⟩, _, ⟨p0, p1, p2, p3, _⟩, _, hB⟩ := id h
  obtain ⟨G', k1, k2, k3⟩ := c_weigh (d := d + 99) (S := S) (b := 5) (DA5 hQ) g4 hD.2.1 hc hv
  obtain ⟨w1, w2, w3⟩ := weighsS_WF (c := c) (v := v) hD.2.1 hB.1 hN0
  have ab := weighsS_b (c := c) (v := v) hD.2.1.1.2.2.2.1
  have e67 : G' 67 = I 67 := by rw [k3 67 (by omega), g5]
  obtain ⟨B, I2, b1, b2, b3, b4, b5⟩ := act_end (a := (weighsS (I 438) c v).1) hM h ⟨by omega, by omega⟩ w1 (w3 1 hD.2.2) (BdN_le w2 (by omega)) g2 g3 k2 k3
  have r1 := E153_0 (d := d + 99) (I := I) (a1 := c) (a2 := v) hQ
  rw [g1] at r1
  simp only [Option.bind_some, psh_u] at r1
  rw [E153_11 hQ, k1] at r1
  simp only [Option.bind_some, psh_i] at r1
  rw [E153_24 (PA67 hQ), c_seal hQ (by rw [e67]; exact p0) (by rw [e67]; exact p1) (by rw [e67]; exact p2) (by rw [e67]; exact p3) ⟨by omega, by omega⟩, e67] at r1
  simp only [Option.bind_some, psh_i, E153_27] at r1
  refine ⟨_, _, I2, r1, ?_, b5⟩
  rw [E263_0 hM, b1]
  simp only [Option.bind_some, psh_u]
  rw [E263_9 hM, m_weighs (d := d + 98) (r := 438) (isRw_K hM (Or.inl rfl)) (by rw [b3]; exact BdN_Bd hB.1 (by omega)) hc hv, b3]
  simp only [Option.bind_some, psh_i]
  rw [E263_19 hM, b4]
  simp only [Option.bind_some, psh_i]
  rw [E263_22]
theorem call_depth (hS : SH S) (h : ST N I) (hN0 : 100 ≤ N) (hN : N < 70000000) (hv : isI v) :
    ∃ r I1 I2, ev (d + 100) 154 0 [(2, 0), (0, v)] [] S I = some ((0, r), S, I1) ∧ ev (d + 100) 265 0 [(2, 427), (0, v)] [] S I1 = some ((0, r), S, I2) ∧ ST (N + 100000) I2 := by
  obtain ⟨hQ, hM⟩ := hS
  obtain ⟨G, g1, g2, g3, g4, g5⟩ := act_beg (S := S) (d + 97) hQ h
  obtain ⟨_, _, _, ⟨hk, hD⟩, _, ⟨p0, p1, p2, p3, _⟩, _, hB⟩ := id h
  obtain ⟨G', k1, k2, k3⟩ := c_deepen (d := d + 99) (S := S) (b := 5) (DA5 hQ) g4 hD.2.1 hv
  obtain ⟨w1, w2, w3⟩ := depthS_WF (v := v) hD.2.1 hB.1 hN0
  have ab := depthS_b (v := v) hD.2.1.1.2.2.2.1
  have e67 : G' 67 = I 67 := by rw [k3 67 (by omega), g5]
  obtain ⟨B, I2, b1, b2, b3, b4, b5⟩ := act_end (a := (depthS (I 438) v).1) hM h ⟨by omega, by omega⟩ w1 (w3 1 hD.2.2) (BdN_le w2 (by omega)) g2 g3 k2 k3
  have r1 := E154_0 (d := d + 99) (I := I) (a1 := v) hQ
  rw [g1] at r1
  simp only [Option.bind_some, psh_u] at r1
  rw [E154_11 hQ, k1] at r1
  simp only [Option.bind_some, psh_i] at r1
  rw [E154_23 (PA67 hQ), c_seal hQ (by rw [e67]; exact p0) (by rw [e67]; exact p1) (by rw [e67]; exact p2) (by rw [e67]; exact p3) ⟨by omega, by omega⟩, e67] at r1
  simp only [Option.bind_some, psh_i, E154_26] at r1
  refine ⟨_, _, I2, r1, ?_, b5⟩
  rw [E265_0 hM, b1]
  simp only [Option.bind_some, psh_u]
  rw [E265_9 hM, m_depth (d := d + 98) (r := 438) (isRw_K hM (Or.inl rfl)) (by rw [b3]; exact BdN_Bd hB.1 (by omega)) hv, b3]
  simp only [Option.bind_some, psh_i]
  rw [E265_18 hM, b4]
  simp only [Option.bind_some, psh_i]
  rw [E265_21]
end r74
