/-! what cells there are: by class -/
section shapes
variable {S : SS} {a : Int}
def WA (S : SS) (a : Int) : Prop := KO S a 0
theorem WA_o (h : WA S a) : KO S a 0 := h
def LA (S : SS) (a : Int) : Prop := KO S a 3 ∧ (sG S a 14 = a + 1 ∧ KA S (a + 1) 20 8) ∧ (sG S a 15 = a + 2 ∧ KA S (a + 2) 20 8) ∧ (sG S a 16 = a + 3 ∧ KA S (a + 3) 20 8)
theorem LA_o (h : LA S a) : KO S a 3 := h.1
theorem LA_g14 (h : LA S a) : sG S a 14 = a + 1 := h.2.1.1
theorem LA_k14 (h : LA S a) : KA S (a + 1) 20 8 := h.2.1.2
theorem LA_g15 (h : LA S a) : sG S a 15 = a + 2 := h.2.2.1.1
theorem LA_k15 (h : LA S a) : KA S (a + 2) 20 8 := h.2.2.1.2
theorem LA_g16 (h : LA S a) : sG S a 16 = a + 3 := h.2.2.2.1
theorem LA_k16 (h : LA S a) : KA S (a + 3) 20 8 := h.2.2.2.2
def RA (S : SS) (a : Int) : Prop := KO S a 5 ∧ (sG S a 0 = a + 1 ∧ KA S (a + 1) 21 12)
theorem RA_o (h : RA S a) : KO S a 5 := h.1
theorem RA_g0 (h : RA S a) : sG S a 0 = a + 1 := h.2.1
theorem RA_k0 (h : RA S a) : KA S (a + 1) 21 12 := h.2.2
def TA (S : SS) (a : Int) : Prop := KO S a 7 ∧ (sG S a 0 = a + 1 ∧ KA S (a + 1) 22 80)
theorem TA_o (h : TA S a) : KO S a 7 := h.1
theorem TA_g0 (h : TA S a) : sG S a 0 = a + 1 := h.2.1
theorem TA_k0 (h : TA S a) : KA S (a + 1) 22 80 := h.2.2
def UA (S : SS) (a : Int) : Prop := KO S a 6 ∧ (sG S a 0 = a + 1 ∧ KA S (a + 1) 20 40) ∧ (sG S a 2 = a + 2 ∧ KA S (a + 2) 20 40) ∧ (sG S a 4 = a + 3 ∧ KA S (a + 3) 23 5) ∧ (sG S a 8 = a + 4 ∧ KA S (a + 4) 20 7) ∧ (sG S a 9 = a + 5 ∧ KA S (a + 5) 20 40)
theorem UA_o (h : UA S a) : KO S a 6 := h.1
theorem UA_g0 (h : UA S a) : sG S a 0 = a + 1 := h.2.1.1
theorem UA_k0 (h : UA S a) : KA S (a + 1) 20 40 := h.2.1.2
theorem UA_g2 (h : UA S a) : sG S a 2 = a + 2 := h.2.2.1.1
theorem UA_k2 (h : UA S a) : KA S (a + 2) 20 40 := h.2.2.1.2
theorem UA_g4 (h : UA S a) : sG S a 4 = a + 3 := h.2.2.2.1.1
theorem UA_k4 (h : UA S a) : KA S (a + 3) 23 5 := h.2.2.2.1.2
theorem UA_g8 (h : UA S a) : sG S a 8 = a + 4 := h.2.2.2.2.1.1
theorem UA_k8 (h : UA S a) : KA S (a + 4) 20 7 := h.2.2.2.2.1.2
theorem UA_g9 (h : UA S a) : sG S a 9 = a + 5 := h.2.2.2.2.2.1
theorem UA_k9 (h : UA S a) : KA S (a + 5) 20 40 := h.2.2.2.2.2.2
def HA (S : SS) (a : Int) : Prop := KO S a 2 ∧ (sG S a 0 = a + 1 ∧ KA S (a + 1) 20 12) ∧ (sG S a 1 = a + 2 ∧ KA S (a + 2) 20 12)
theorem HA_o (h : HA S a) : KO S a 2 := h.1
theorem HA_g0 (h : HA S a) : sG S a 0 = a + 1 := h.2.1.1
theorem HA_k0 (h : HA S a) : KA S (a + 1) 20 12 := h.2.1.2
theorem HA_g1 (h : HA S a) : sG S a 1 = a + 2 := h.2.2.1
theorem HA_k1 (h : HA S a) : KA S (a + 2) 20 12 := h.2.2.2
def DA (S : SS) (a : Int) : Prop := KO S a 1 ∧ (sG S a 1 = a + 1 ∧ KA S (a + 1) 25 5) ∧ (∀ q : Int, 0 ≤ q → q < 5 → sG S (a + 1) q = a + 11 + 4 * q ∧ LA S (a + 11 + 4 * q)) ∧ (sG S a 2 = a + 2 ∧ KA S (a + 2) 20 10) ∧ (sG S a 3 = a + 3 ∧ KA S (a + 3) 20 4) ∧ (sG S a 4 = a + 4 ∧ KA S (a + 4) 20 4) ∧ (sG S a 5 = a + 5 ∧ KA S (a + 5) 20 4) ∧ (sG S a 11 = a + 6 ∧ KA S (a + 6) 20 4) ∧ (sG S a 12 = a + 7 ∧ KA S (a + 7) 20 4) ∧ (sG S a 13 = a + 8 ∧ KA S (a + 8) 20 4) ∧ (sG S a 14 = a + 9 ∧ KA S (a + 9) 20 4) ∧ (sG S a 16 = a + 10 ∧ KA S (a + 10) 20 80)
theorem DA_o (h : DA S a) : KO S a 1 := h.1
theorem DA_g1 (h : DA S a) : sG S a 1 = a + 1 := h.2.1.1
theorem DA_k1 (h : DA S a) : KA S (a + 1) 25 5 := h.2.1.2
theorem DA_e1 (h : DA S a) : (∀ q : Int, 0 ≤ q → q < 5 → sG S (a + 1) q = a + 11 + 4 * q ∧ LA S (a + 11 + 4 * q)) := h.2.2.1
theorem DA_g2 (h : DA S a) : sG S a 2 = a + 2 := h.2.2.2.1.1
theorem DA_k2 (h : DA S a) : KA S (a + 2) 20 10 := h.2.2.2.1.2
theorem DA_g3 (h : DA S a) : sG S a 3 = a + 3 := h.2.2.2.2.1.1
theorem DA_k3 (h : DA S a) : KA S (a + 3) 20 4 := h.2.2.2.2.1.2
theorem DA_g4 (h : DA S a) : sG S a 4 = a + 4 := h.2.2.2.2.2.1.1
theorem DA_k4 (h : DA S a) : KA S (a + 4) 20 4 := h.2.2.2.2.2.1.2
theorem DA_g5 (h : DA S a) : sG S a 5 = a + 5 := h.2.2.2.2.2.2.1.1
theorem DA_k5 (h : DA S a) : KA S (a + 5) 20 4 := h.2.2.2.2.2.2.1.2
theorem DA_g11 (h : DA S a) : sG S a 11 = a + 6 := h.2.2.2.2.2.2.2.1.1
theorem DA_k11 (h : DA S a) : KA S (a + 6) 20 4 := h.2.2.2.2.2.2.2.1.2
theorem DA_g12 (h : DA S a) : sG S a 12 = a + 7 := h.2.2.2.2.2.2.2.2.1.1
theorem DA_k12 (h : DA S a) : KA S (a + 7) 20 4 := h.2.2.2.2.2.2.2.2.1.2
theorem DA_g13 (h : DA S a) : sG S a 13 = a + 8 := h.2.2.2.2.2.2.2.2.2.1.1
theorem DA_k13 (h : DA S a) : KA S (a + 8) 20 4 := h.2.2.2.2.2.2.2.2.2.1.2
theorem DA_g14 (h : DA S a) : sG S a 14 = a + 9 := h.2.2.2.2.2.2.2.2.2.2.1.1
theorem DA_k14 (h : DA S a) : KA S (a + 9) 20 4 := h.2.2.2.2.2.2.2.2.2.2.1.2
theorem DA_g16 (h : DA S a) : sG S a 16 = a + 10 := h.2.2.2.2.2.2.2.2.2.2.2.1
theorem DA_k16 (h : DA S a) : KA S (a + 10) 20 80 := h.2.2.2.2.2.2.2.2.2.2.2.2
def PA (S : SS) (a : Int) : Prop := KO S a 4 ∧ (sG S a 0 = a + 1 ∧ KA S (a + 1) 24 9) ∧ (∀ q : Int, 0 ≤ q → q < 9 → sG S (a + 1) q = a + 4 + 31 * q ∧ DA S (a + 4 + 31 * q)) ∧ (sG S a 3 = a + 2 ∧ KA S (a + 2) 24 2) ∧ (∀ q : Int, 0 ≤ q → q < 2 → sG S (a + 2) q = a + 283 + 31 * q ∧ DA S (a + 283 + 31 * q)) ∧ (sG S a 4 = a + 3 ∧ KA S (a + 3) 23 2)
theorem PA_o (h : PA S a) : KO S a 4 := h.1
theorem PA_g0 (h : PA S a) : sG S a 0 = a + 1 := h.2.1.1
theorem PA_k0 (h : PA S a) : KA S (a + 1) 24 9 := h.2.1.2
theorem PA_e0 (h : PA S a) : (∀ q : Int, 0 ≤ q → q < 9 → sG S (a + 1) q = a + 4 + 31 * q ∧ DA S (a + 4 + 31 * q)) := h.2.2.1
theorem PA_g3 (h : PA S a) : sG S a 3 = a + 2 := h.2.2.2.1.1
theorem PA_k3 (h : PA S a) : KA S (a + 2) 24 2 := h.2.2.2.1.2
theorem PA_e3 (h : PA S a) : (∀ q : Int, 0 ≤ q → q < 2 → sG S (a + 2) q = a + 283 + 31 * q ∧ DA S (a + 283 + 31 * q)) := h.2.2.2.2.1
theorem PA_g4 (h : PA S a) : sG S a 4 = a + 3 := h.2.2.2.2.2.1
theorem PA_k4 (h : PA S a) : KA S (a + 3) 23 2 := h.2.2.2.2.2.2
def QA (S : SS) (a : Int) : Prop := KO S a 8 ∧ (sG S a 0 = a + 1 ∧ TA S (a + 1)) ∧ (sG S a 1 = a + 3 ∧ RA S (a + 3)) ∧ (sG S a 2 = a + 5 ∧ DA S (a + 5)) ∧ (sG S a 3 = a + 36 ∧ DA S (a + 36)) ∧ (sG S a 4 = a + 67 ∧ PA S (a + 67)) ∧ (sG S a 5 = a + 412 ∧ UA S (a + 412)) ∧ (sG S a 6 = a + 418 ∧ UA S (a + 418)) ∧ (sG S a 7 = a + 424 ∧ HA S (a + 424))
theorem QA_o (h : QA S a) : KO S a 8 := h.1
theorem QA_g0 (h : QA S a) : sG S a 0 = a + 1 := h.2.1.1
theorem QA_k0 (h : QA S a) : TA S (a + 1) := h.2.1.2
theorem QA_g1 (h : QA S a) : sG S a 1 = a + 3 := h.2.2.1.1
theorem QA_k1 (h : QA S a) : RA S (a + 3) := h.2.2.1.2
theorem QA_g2 (h : QA S a) : sG S a 2 = a + 5 := h.2.2.2.1.1
theorem QA_k2 (h : QA S a) : DA S (a + 5) := h.2.2.2.1.2
theorem QA_g3 (h : QA S a) : sG S a 3 = a + 36 := h.2.2.2.2.1.1
theorem QA_k3 (h : QA S a) : DA S (a + 36) := h.2.2.2.2.1.2
theorem QA_g4 (h : QA S a) : sG S a 4 = a + 67 := h.2.2.2.2.2.1.1
theorem QA_k4 (h : QA S a) : PA S (a + 67) := h.2.2.2.2.2.1.2
theorem QA_g5 (h : QA S a) : sG S a 5 = a + 412 := h.2.2.2.2.2.2.1.1
theorem QA_k5 (h : QA S a) : UA S (a + 412) := h.2.2.2.2.2.2.1.2
theorem QA_g6 (h : QA S a) : sG S a 6 = a + 418 := h.2.2.2.2.2.2.2.1.1
theorem QA_k6 (h : QA S a) : UA S (a + 418) := h.2.2.2.2.2.2.2.1.2
theorem QA_g7 (h : QA S a) : sG S a 7 = a + 424 := h.2.2.2.2.2.2.2.2.1
theorem QA_k7 (h : QA S a) : HA S (a + 424) := h.2.2.2.2.2.2.2.2.2
def MA (S : SS) (a : Int) : Prop := KO S a 9 ∧ (sG S a 2 = a + 1 ∧ KA S (a + 1) 21 24) ∧ (sG S a 3 = a + 2 ∧ KA S (a + 2) 20 80) ∧ (sG S a 8 = a + 3 ∧ KA S (a + 3) 20 80) ∧ (sG S a 9 = a + 4 ∧ KA S (a + 4) 20 80) ∧ (sG S a 12 = a + 5 ∧ KA S (a + 5) 20 80) ∧ (sG S a 13 = a + 6 ∧ KA S (a + 6) 20 7) ∧ (sG S a 16 = a + 7 ∧ KA S (a + 7) 20 5) ∧ (sG S a 17 = a + 8 ∧ KA S (a + 8) 20 5) ∧ (sG S a 18 = a + 9 ∧ KA S (a + 9) 20 5) ∧ (sG S a 19 = a + 10 ∧ KA S (a + 10) 20 5) ∧ (sG S a 20 = a + 11 ∧ KA S (a + 11) 20 844) ∧ (sG S a 21 = a + 12 ∧ KA S (a + 12) 20 844) ∧ (sG S a 23 = a + 13 ∧ KA S (a + 13) 20 7596) ∧ (sG S a 27 = a + 14 ∧ KA S (a + 14) 20 80) ∧ (sG S a 28 = a + 15 ∧ KA S (a + 15) 20 80) ∧ (sG S a 29 = a + 16 ∧ KA S (a + 16) 20 80) ∧ (sG S a 30 = a + 17 ∧ KA S (a + 17) 20 80) ∧ (sG S a 31 = a + 18 ∧ KA S (a + 18) 20 80) ∧ (sG S a 33 = a + 19 ∧ KA S (a + 19) 20 4) ∧ (sG S a 34 = a + 20 ∧ KA S (a + 20) 20 5) ∧ (sG S a 37 = a + 21 ∧ KA S (a + 21) 20 12) ∧ (sG S a 38 = a + 22 ∧ KA S (a + 22) 20 12) ∧ (sG S a 39 = a + 23 ∧ KA S (a + 23) 20 41) ∧ (sG S a 40 = a + 24 ∧ KA S (a + 24) 20 80) ∧ (sG S a 42 = a + 25 ∧ KA S (a + 25) 23 2) ∧ (sG S a 43 = a + 26 ∧ KA S (a + 26) 20 2) ∧ (sG S a 44 = a + 27 ∧ KA S (a + 27) 20 1688)
theorem MA_o (h : MA S a) : KO S a 9 := h.1
theorem MA_g2 (h : MA S a) : sG S a 2 = a + 1 := h.2.1.1
theorem MA_k2 (h : MA S a) : KA S (a + 1) 21 24 := h.2.1.2
theorem MA_g3 (h : MA S a) : sG S a 3 = a + 2 := h.2.2.1.1
theorem MA_k3 (h : MA S a) : KA S (a + 2) 20 80 := h.2.2.1.2
theorem MA_g8 (h : MA S a) : sG S a 8 = a + 3 := h.2.2.2.1.1
theorem MA_k8 (h : MA S a) : KA S (a + 3) 20 80 := h.2.2.2.1.2
theorem MA_g9 (h : MA S a) : sG S a 9 = a + 4 := h.2.2.2.2.1.1
theorem MA_k9 (h : MA S a) : KA S (a + 4) 20 80 := h.2.2.2.2.1.2
theorem MA_g12 (h : MA S a) : sG S a 12 = a + 5 := h.2.2.2.2.2.1.1
theorem MA_k12 (h : MA S a) : KA S (a + 5) 20 80 := h.2.2.2.2.2.1.2
theorem MA_g13 (h : MA S a) : sG S a 13 = a + 6 := h.2.2.2.2.2.2.1.1
theorem MA_k13 (h : MA S a) : KA S (a + 6) 20 7 := h.2.2.2.2.2.2.1.2
theorem MA_g16 (h : MA S a) : sG S a 16 = a + 7 := h.2.2.2.2.2.2.2.1.1
theorem MA_k16 (h : MA S a) : KA S (a + 7) 20 5 := h.2.2.2.2.2.2.2.1.2
theorem MA_g17 (h : MA S a) : sG S a 17 = a + 8 := h.2.2.2.2.2.2.2.2.1.1
theorem MA_k17 (h : MA S a) : KA S (a + 8) 20 5 := h.2.2.2.2.2.2.2.2.1.2
theorem MA_g18 (h : MA S a) : sG S a 18 = a + 9 := h.2.2.2.2.2.2.2.2.2.1.1
theorem MA_k18 (h : MA S a) : KA S (a + 9) 20 5 := h.2.2.2.2.2.2.2.2.2.1.2
theorem MA_g19 (h : MA S a) : sG S a 19 = a + 10 := h.2.2.2.2.2.2.2.2.2.2.1.1
theorem MA_k19 (h : MA S a) : KA S (a + 10) 20 5 := h.2.2.2.2.2.2.2.2.2.2.1.2
theorem MA_g20 (h : MA S a) : sG S a 20 = a + 11 := h.2.2.2.2.2.2.2.2.2.2.2.1.1
theorem MA_k20 (h : MA S a) : KA S (a + 11) 20 844 := h.2.2.2.2.2.2.2.2.2.2.2.1.2
theorem MA_g21 (h : MA S a) : sG S a 21 = a + 12 := h.2.2.2.2.2.2.2.2.2.2.2.2.1.1
theorem MA_k21 (h : MA S a) : KA S (a + 12) 20 844 := h.2.2.2.2.2.2.2.2.2.2.2.2.1.2
theorem MA_g23 (h : MA S a) : sG S a 23 = a + 13 := h.2.2.2.2.2.2.2.2.2.2.2.2.2.1.1
theorem MA_k23 (h : MA S a) : KA S (a + 13) 20 7596 := h.2.2.2.2.2.2.2.2.2.2.2.2.2.1.2
theorem MA_g27 (h : MA S a) : sG S a 27 = a + 14 := h.2.2.2.2.2.2.2.2.2.2.2.2.2.2.1.1
theorem MA_k27 (h : MA S a) : KA S (a + 14) 20 80 := h.2.2.2.2.2.2.2.2.2.2.2.2.2.2.1.2
theorem MA_g28 (h : MA S a) : sG S a 28 = a + 15 := h.2.2.2.2.2.2.2.2.2.2.2.2.2.2.2.1.1
theorem MA_k28 (h : MA S a) : KA S (a + 15) 20 80 := h.2.2.2.2.2.2.2.2.2.2.2.2.2.2.2.1.2
theorem MA_g29 (h : MA S a) : sG S a 29 = a + 16 := h.2.2.2.2.2.2.2.2.2.2.2.2.2.2.2.2.1.1
theorem MA_k29 (h : MA S a) : KA S (a + 16) 20 80 := h.2.2.2.2.2.2.2.2.2.2.2.2.2.2.2.2.1.2
theorem MA_g30 (h : MA S a) : sG S a 30 = a + 17 := h.2.2.2.2.2.2.2.2.2.2.2.2.2.2.2.2.2.1.1
theorem MA_k30 (h : MA S a) : KA S (a + 17) 20 80 := h.2.2.2.2.2.2.2.2.2.2.2.2.2.2.2.2.2.1.2
theorem MA_g31 (h : MA S a) : sG S a 31 = a + 18 := h.2.2.2.2.2.2.2.2.2.2.2.2.2.2.2.2.2.2.1.1
theorem MA_k31 (h : MA S a) : KA S (a + 18) 20 80 := h.2.2.2.2.2.2.2.2.2.2.2.2.2.2.2.2.2.2.1.2
theorem MA_g33 (h : MA S a) : sG S a 33 = a + 19 := h.2.2.2.2.2.2.2.2.2.2.2.2.2.2.2.2.2.2.2.1.1
theorem MA_k33 (h : MA S a) : KA S (a + 19) 20 4 := h.2.2.2.2.2.2.2.2.2.2.2.2.2.2.2.2.2.2.2.1.2
theorem MA_g34 (h : MA S a) : sG S a 34 = a + 20 := h.2.2.2.2.2.2.2.2.2.2.2.2.2.2.2.2.2.2.2.2.1.1
theorem MA_k34 (h : MA S a) : KA S (a + 20) 20 5 := h.2.2.2.2.2.2.2.2.2.2.2.2.2.2.2.2.2.2.2.2.1.2
theorem MA_g37 (h : MA S a) : sG S a 37 = a + 21 := h.2.2.2.2.2.2.2.2.2.2.2.2.2.2.2.2.2.2.2.2.2.1.1
theorem MA_k37 (h : MA S a) : KA S (a + 21) 20 12 := h.2.2.2.2.2.2.2.2.2.2.2.2.2.2.2.2.2.2.2.2.2.1.2
theorem MA_g38 (h : MA S a) : sG S a 38 = a + 22 := h.2.2.2.2.2.2.2.2.2.2.2.2.2.2.2.2.2.2.2.2.2.2.1.1
theorem MA_k38 (h : MA S a) : KA S (a + 22) 20 12 := h.2.2.2.2.2.2.2.2.2.2.2.2.2.2.2.2.2.2.2.2.2.2.1.2
theorem MA_g39 (h : MA S a) : sG S a 39 = a + 23 := h.2.2.2.2.2.2.2.2.2.2.2.2.2.2.2.2.2.2.2.2.2.2.2.1.1
theorem MA_k39 (h : MA S a) : KA S (a + 23) 20 41 := h.2.2.2.2.2.2.2.2.2.2.2.2.2.2.2.2.2.2.2.2.2.2.2.1.2
theorem MA_g40 (h : MA S a) : sG S a 40 = a + 24 := h.2.2.2.2.2.2.2.2.2.2.2.2.2.2.2.2.2.2.2.2.2.2.2.2.1.1
theorem MA_k40 (h : MA S a) : KA S (a + 24) 20 80 := h.2.2.2.2.2.2.2.2.2.2.2.2.2.2.2.2.2.2.2.2.2.2.2.2.1.2
theorem MA_g42 (h : MA S a) : sG S a 42 = a + 25 := h.2.2.2.2.2.2.2.2.2.2.2.2.2.2.2.2.2.2.2.2.2.2.2.2.2.1.1
theorem MA_k42 (h : MA S a) : KA S (a + 25) 23 2 := h.2.2.2.2.2.2.2.2.2.2.2.2.2.2.2.2.2.2.2.2.2.2.2.2.2.1.2
theorem MA_g43 (h : MA S a) : sG S a 43 = a + 26 := h.2.2.2.2.2.2.2.2.2.2.2.2.2.2.2.2.2.2.2.2.2.2.2.2.2.2.1.1
theorem MA_k43 (h : MA S a) : KA S (a + 26) 20 2 := h.2.2.2.2.2.2.2.2.2.2.2.2.2.2.2.2.2.2.2.2.2.2.2.2.2.2.1.2
theorem MA_g44 (h : MA S a) : sG S a 44 = a + 27 := h.2.2.2.2.2.2.2.2.2.2.2.2.2.2.2.2.2.2.2.2.2.2.2.2.2.2.2.1
theorem MA_k44 (h : MA S a) : KA S (a + 27) 20 1688 := h.2.2.2.2.2.2.2.2.2.2.2.2.2.2.2.2.2.2.2.2.2.2.2.2.2.2.2.2
end shapes
/-! helps -/
theorem sx_zsK {d mi pc : Nat} {al st : List AV} {S : SS} {I : II} {a v i len : Int} (hd : decode (mB mi) pc = .ok (.bastore, 1)) (g : KA S a 23 len) (hv : v = 0 ∨ v = 1) : ev d mi pc al ((0, v) :: (0, i) :: (2, a) :: st) S I = gdR (0 ≤ w i ∧ w i < len) (ev d mi (pc + 1) al st S (up2 I a (w i) v)) := by
  rw [sx_zs hd g]
  by_cases hc : 0 ≤ w i ∧ w i < len
  · rw [gdR_pos hc, gdR_pos ⟨hc, hv⟩]
  · rw [gdR, gdR, if_neg hc, if_neg (fun h => hc h.1)]
theorem up2_same (I : II) (a k v : Int) : up2 I a k v a k = v := by simp [up2]
theorem up2_slot {I : II} {a b j k v : Int} (h : k ≠ j) : up2 I a j v b k = I b k := by simp [up2, h]
theorem up2_cell {I : II} {a b j k v : Int} (h : b ≠ a) : up2 I a j v b k = I b k := by simp [up2, h]
theorem cpy_cell {I : II} {a sp b dp n x k : Int} (h : x ≠ b) : cpy I a sp b dp n x k = I x k := by simp [cpy, h]
theorem ite_go {c : Prop} [Decidable c] {z x y : RR} (h1 : c → z = x) (h2 : ¬ c → z = y) : z = if c then x else y := by
  by_cases h : c
  · rw [if_pos h, h1 h]
  · rw [if_neg h, h2 h]
theorem null_ok {x : Int} (h : x = -1 ∨ 0 ≤ x) : x ≠ -3 := by omega
theorem null_okS {x : Int} (h : x = -1 ∨ isT (-10 - x)) : x ≠ -3 := by omega
theorem w_lCmp (x y : Int) : w (lCmp x y) = lCmp x y := by
  unfold lCmp; split
  · decide
  · split <;> decide
theorem mP_0 : mP 0 = 4 := by decide +kernel
theorem mL_0 : mL 0 = 4 := by decide +kernel
theorem mC_0 : mC 0 = 0 := by decide +kernel
theorem mP_1 : mP 1 = 1 := by decide +kernel
theorem mL_1 : mL 1 = 1 := by decide +kernel
theorem mC_1 : mC 1 = 0 := by decide +kernel
theorem mP_2 : mP 2 = 1 := by decide +kernel
theorem mL_2 : mL 2 = 1 := by decide +kernel
theorem mC_2 : mC 2 = 0 := by decide +kernel
theorem mP_3 : mP 3 = 1 := by decide +kernel
theorem mL_3 : mL 3 = 1 := by decide +kernel
theorem mC_3 : mC 3 = 0 := by decide +kernel
theorem mP_4 : mP 4 = 1 := by decide +kernel
theorem mL_4 : mL 4 = 1 := by decide +kernel
theorem mC_4 : mC 4 = 0 := by decide +kernel
theorem mP_5 : mP 5 = 1 := by decide +kernel
theorem mL_5 : mL 5 = 1 := by decide +kernel
theorem mC_5 : mC 5 = 0 := by decide +kernel
theorem mP_6 : mP 6 = 2 := by decide +kernel
theorem mL_6 : mL 6 = 2 := by decide +kernel
theorem mC_6 : mC 6 = 0 := by decide +kernel
theorem mP_7 : mP 7 = 4 := by decide +kernel
theorem mL_7 : mL 7 = 4 := by decide +kernel
theorem mC_7 : mC 7 = 1 := by decide +kernel
theorem mP_8 : mP 8 = 1 := by decide +kernel
theorem mL_8 : mL 8 = 1 := by decide +kernel
theorem mC_8 : mC 8 = 1 := by decide +kernel
theorem mP_9 : mP 9 = 1 := by decide +kernel
theorem mL_9 : mL 9 = 1 := by decide +kernel
theorem mC_9 : mC 9 = 1 := by decide +kernel
theorem mP_10 : mP 10 = 1 := by decide +kernel
theorem mL_10 : mL 10 = 1 := by decide +kernel
theorem mC_10 : mC 10 = 1 := by decide +kernel
theorem mP_11 : mP 11 = 1 := by decide +kernel
theorem mL_11 : mL 11 = 1 := by decide +kernel
theorem mC_11 : mC 11 = 1 := by decide +kernel
theorem mP_12 : mP 12 = 1 := by decide +kernel
theorem mL_12 : mL 12 = 2 := by decide +kernel
theorem mC_12 : mC 12 = 2 := by decide +kernel
theorem mP_13 : mP 13 = 1 := by decide +kernel
theorem mL_13 : mL 13 = 2 := by decide +kernel
theorem mC_13 : mC 13 = 2 := by decide +kernel
theorem mP_14 : mP 14 = 0 := by decide +kernel
theorem mL_14 : mL 14 = 2 := by decide +kernel
theorem mC_14 : mC 14 = 3 := by decide +kernel
theorem mP_15 : mP 15 = 4 := by decide +kernel
theorem mL_15 : mL 15 = 6 := by decide +kernel
theorem mC_15 : mC 15 = 3 := by decide +kernel
theorem mP_16 : mP 16 = 4 := by decide +kernel
theorem mL_16 : mL 16 = 7 := by decide +kernel
theorem mC_16 : mC 16 = 3 := by decide +kernel
theorem mP_17 : mP 17 = 2 := by decide +kernel
theorem mL_17 : mL 17 = 3 := by decide +kernel
theorem mC_17 : mC 17 = 3 := by decide +kernel
theorem mP_18 : mP 18 = 0 := by decide +kernel
theorem mL_18 : mL 18 = 3 := by decide +kernel
theorem mC_18 : mC 18 = 3 := by decide +kernel
theorem mP_19 : mP 19 = 1 := by decide +kernel
theorem mL_19 : mL 19 = 3 := by decide +kernel
theorem mC_19 : mC 19 = 3 := by decide +kernel
theorem mP_20 : mP 20 = 4 := by decide +kernel
theorem mL_20 : mL 20 = 6 := by decide +kernel
theorem mC_20 : mC 20 = 3 := by decide +kernel
theorem mP_21 : mP 21 = 1 := by decide +kernel
theorem mL_21 : mL 21 = 2 := by decide +kernel
theorem mC_21 : mC 21 = 3 := by decide +kernel
theorem mP_22 : mP 22 = 1 := by decide +kernel
theorem mL_22 : mL 22 = 4 := by decide +kernel
theorem mC_22 : mC 22 = 3 := by decide +kernel
theorem mP_23 : mP 23 = 3 := by decide +kernel
theorem mL_23 : mL 23 = 8 := by decide +kernel
theorem mC_23 : mC 23 = 3 := by decide +kernel
theorem mP_24 : mP 24 = 1 := by decide +kernel
theorem mL_24 : mL 24 = 4 := by decide +kernel
theorem mC_24 : mC 24 = 3 := by decide +kernel
theorem mP_25 : mP 25 = 1 := by decide +kernel
theorem mL_25 : mL 25 = 3 := by decide +kernel
theorem mC_25 : mC 25 = 3 := by decide +kernel
theorem mP_26 : mP 26 = 0 := by decide +kernel
theorem mL_26 : mL 26 = 3 := by decide +kernel
theorem mC_26 : mC 26 = 3 := by decide +kernel
theorem mP_27 : mP 27 = 2 := by decide +kernel
theorem mL_27 : mL 27 = 3 := by decide +kernel
theorem mC_27 : mC 27 = 3 := by decide +kernel
theorem mP_28 : mP 28 = 2 := by decide +kernel
theorem mL_28 : mL 28 = 4 := by decide +kernel
theorem mC_28 : mC 28 = 3 := by decide +kernel
theorem mP_29 : mP 29 = 1 := by decide +kernel
theorem mL_29 : mL 29 = 2 := by decide +kernel
theorem mC_29 : mC 29 = 3 := by decide +kernel
theorem mP_30 : mP 30 = 4 := by decide +kernel
theorem mL_30 : mL 30 = 5 := by decide +kernel
theorem mC_30 : mC 30 = 3 := by decide +kernel
theorem mP_31 : mP 31 = 2 := by decide +kernel
theorem mL_31 : mL 31 = 3 := by decide +kernel
theorem mC_31 : mC 31 = 3 := by decide +kernel
theorem mP_32 : mP 32 = 3 := by decide +kernel
theorem mL_32 : mL 32 = 5 := by decide +kernel
theorem mC_32 : mC 32 = 3 := by decide +kernel
theorem mP_33 : mP 33 = 0 := by decide +kernel
theorem mL_33 : mL 33 = 4 := by decide +kernel
theorem mC_33 : mC 33 = 3 := by decide +kernel
theorem mP_34 : mP 34 = 0 := by decide +kernel
theorem mL_34 : mL 34 = 2 := by decide +kernel
theorem mC_34 : mC 34 = 3 := by decide +kernel
theorem mP_35 : mP 35 = 0 := by decide +kernel
theorem mL_35 : mL 35 = 3 := by decide +kernel
theorem mC_35 : mC 35 = 3 := by decide +kernel
theorem mP_36 : mP 36 = 1 := by decide +kernel
theorem mL_36 : mL 36 = 6 := by decide +kernel
theorem mC_36 : mC 36 = 3 := by decide +kernel
theorem mP_37 : mP 37 = 0 := by decide +kernel
theorem mL_37 : mL 37 = 3 := by decide +kernel
theorem mC_37 : mC 37 = 3 := by decide +kernel
theorem mP_38 : mP 38 = 2 := by decide +kernel
theorem mL_38 : mL 38 = 6 := by decide +kernel
theorem mC_38 : mC 38 = 3 := by decide +kernel
theorem mP_39 : mP 39 = 2 := by decide +kernel
theorem mL_39 : mL 39 = 5 := by decide +kernel
theorem mC_39 : mC 39 = 3 := by decide +kernel
theorem mP_40 : mP 40 = 2 := by decide +kernel
theorem mL_40 : mL 40 = 5 := by decide +kernel
theorem mC_40 : mC 40 = 3 := by decide +kernel
theorem mP_41 : mP 41 = 2 := by decide +kernel
theorem mL_41 : mL 41 = 6 := by decide +kernel
theorem mC_41 : mC 41 = 3 := by decide +kernel
theorem mP_42 : mP 42 = 2 := by decide +kernel
theorem mL_42 : mL 42 = 6 := by decide +kernel
theorem mC_42 : mC 42 = 3 := by decide +kernel
theorem mP_43 : mP 43 = 1 := by decide +kernel
theorem mL_43 : mL 43 = 3 := by decide +kernel
theorem mC_43 : mC 43 = 3 := by decide +kernel
theorem mP_44 : mP 44 = 1 := by decide +kernel
theorem mL_44 : mL 44 = 6 := by decide +kernel
theorem mC_44 : mC 44 = 3 := by decide +kernel
theorem mP_45 : mP 45 = 0 := by decide +kernel
theorem mL_45 : mL 45 = 1 := by decide +kernel
theorem mC_45 : mC 45 = 3 := by decide +kernel
theorem mP_46 : mP 46 = 0 := by decide +kernel
theorem mL_46 : mL 46 = 3 := by decide +kernel
theorem mC_46 : mC 46 = 3 := by decide +kernel
theorem mP_47 : mP 47 = 2 := by decide +kernel
theorem mL_47 : mL 47 = 4 := by decide +kernel
theorem mC_47 : mC 47 = 3 := by decide +kernel
theorem mP_48 : mP 48 = 1 := by decide +kernel
theorem mL_48 : mL 48 = 3 := by decide +kernel
theorem mC_48 : mC 48 = 3 := by decide +kernel
theorem mP_49 : mP 49 = 1 := by decide +kernel
theorem mL_49 : mL 49 = 3 := by decide +kernel
theorem mC_49 : mC 49 = 3 := by decide +kernel
theorem mP_50 : mP 50 = 1 := by decide +kernel
theorem mL_50 : mL 50 = 4 := by decide +kernel
theorem mC_50 : mC 50 = 3 := by decide +kernel
theorem mP_51 : mP 51 = 1 := by decide +kernel
theorem mL_51 : mL 51 = 6 := by decide +kernel
theorem mC_51 : mC 51 = 3 := by decide +kernel
theorem mP_52 : mP 52 = 1 := by decide +kernel
theorem mL_52 : mL 52 = 5 := by decide +kernel
theorem mC_52 : mC 52 = 3 := by decide +kernel
theorem mP_53 : mP 53 = 1 := by decide +kernel
theorem mL_53 : mL 53 = 2 := by decide +kernel
theorem mC_53 : mC 53 = 3 := by decide +kernel
theorem mP_54 : mP 54 = 2 := by decide +kernel
theorem mL_54 : mL 54 = 8 := by decide +kernel
theorem mC_54 : mC 54 = 3 := by decide +kernel
theorem mP_55 : mP 55 = 4 := by decide +kernel
theorem mL_55 : mL 55 = 9 := by decide +kernel
theorem mC_55 : mC 55 = 3 := by decide +kernel
theorem mP_56 : mP 56 = 1 := by decide +kernel
theorem mL_56 : mL 56 = 4 := by decide +kernel
theorem mC_56 : mC 56 = 3 := by decide +kernel
theorem mP_57 : mP 57 = 0 := by decide +kernel
theorem mL_57 : mL 57 = 2 := by decide +kernel
theorem mC_57 : mC 57 = 3 := by decide +kernel
theorem mP_58 : mP 58 = 0 := by decide +kernel
theorem mL_58 : mL 58 = 2 := by decide +kernel
theorem mC_58 : mC 58 = 3 := by decide +kernel
theorem mP_59 : mP 59 = 2 := by decide +kernel
theorem mL_59 : mL 59 = 4 := by decide +kernel
theorem mC_59 : mC 59 = 3 := by decide +kernel
theorem mP_60 : mP 60 = 2 := by decide +kernel
theorem mL_60 : mL 60 = 5 := by decide +kernel
theorem mC_60 : mC 60 = 3 := by decide +kernel
theorem mP_61 : mP 61 = 1 := by decide +kernel
theorem mL_61 : mL 61 = 4 := by decide +kernel
theorem mC_61 : mC 61 = 3 := by decide +kernel
theorem mP_62 : mP 62 = 2 := by decide +kernel
theorem mL_62 : mL 62 = 6 := by decide +kernel
theorem mC_62 : mC 62 = 3 := by decide +kernel
theorem mP_63 : mP 63 = 2 := by decide +kernel
theorem mL_63 : mL 63 = 3 := by decide +kernel
theorem mC_63 : mC 63 = 3 := by decide +kernel
theorem mP_64 : mP 64 = 3 := by decide +kernel
theorem mL_64 : mL 64 = 8 := by decide +kernel
theorem mC_64 : mC 64 = 3 := by decide +kernel
theorem mP_65 : mP 65 = 0 := by decide +kernel
theorem mL_65 : mL 65 = 1 := by decide +kernel
theorem mC_65 : mC 65 = 4 := by decide +kernel
theorem mP_66 : mP 66 = 2 := by decide +kernel
theorem mL_66 : mL 66 = 3 := by decide +kernel
theorem mC_66 : mC 66 = 4 := by decide +kernel
theorem mP_67 : mP 67 = 1 := by decide +kernel
theorem mL_67 : mL 67 = 1 := by decide +kernel
theorem mC_67 : mC 67 = 4 := by decide +kernel
theorem mP_68 : mP 68 = 0 := by decide +kernel
theorem mL_68 : mL 68 = 2 := by decide +kernel
theorem mC_68 : mC 68 = 4 := by decide +kernel
theorem mP_69 : mP 69 = 2 := by decide +kernel
theorem mL_69 : mL 69 = 6 := by decide +kernel
theorem mC_69 : mC 69 = 4 := by decide +kernel
theorem mP_70 : mP 70 = 3 := by decide +kernel
theorem mL_70 : mL 70 = 5 := by decide +kernel
theorem mC_70 : mC 70 = 4 := by decide +kernel
theorem mP_71 : mP 71 = 4 := by decide +kernel
theorem mL_71 : mL 71 = 4 := by decide +kernel
theorem mC_71 : mC 71 = 4 := by decide +kernel
theorem mP_72 : mP 72 = 2 := by decide +kernel
theorem mL_72 : mL 72 = 10 := by decide +kernel
theorem mC_72 : mC 72 = 4 := by decide +kernel
theorem mP_73 : mP 73 = 2 := by decide +kernel
theorem mL_73 : mL 73 = 7 := by decide +kernel
theorem mC_73 : mC 73 = 4 := by decide +kernel
theorem mP_74 : mP 74 = 0 := by decide +kernel
theorem mL_74 : mL 74 = 1 := by decide +kernel
theorem mC_74 : mC 74 = 5 := by decide +kernel
theorem mP_75 : mP 75 = 1 := by decide +kernel
theorem mL_75 : mL 75 = 2 := by decide +kernel
theorem mC_75 : mC 75 = 5 := by decide +kernel
theorem mP_76 : mP 76 = 3 := by decide +kernel
theorem mL_76 : mL 76 = 5 := by decide +kernel
theorem mC_76 : mC 76 = 5 := by decide +kernel
theorem mP_77 : mP 77 = 0 := by decide +kernel
theorem mL_77 : mL 77 = 1 := by decide +kernel
theorem mC_77 : mC 77 = 5 := by decide +kernel
theorem mP_78 : mP 78 = 0 := by decide +kernel
theorem mL_78 : mL 78 = 2 := by decide +kernel
theorem mC_78 : mC 78 = 5 := by decide +kernel
theorem mP_79 : mP 79 = 1 := by decide +kernel
theorem mL_79 : mL 79 = 2 := by decide +kernel
theorem mC_79 : mC 79 = 5 := by decide +kernel
theorem mP_80 : mP 80 = 0 := by decide +kernel
theorem mL_80 : mL 80 = 2 := by decide +kernel
theorem mC_80 : mC 80 = 5 := by decide +kernel
theorem mP_81 : mP 81 = 1 := by decide +kernel
theorem mL_81 : mL 81 = 2 := by decide +kernel
theorem mC_81 : mC 81 = 5 := by decide +kernel
theorem mP_82 : mP 82 = 1 := by decide +kernel
theorem mL_82 : mL 82 = 2 := by decide +kernel
theorem mC_82 : mC 82 = 5 := by decide +kernel
theorem mP_83 : mP 83 = 0 := by decide +kernel
theorem mL_83 : mL 83 = 1 := by decide +kernel
theorem mC_83 : mC 83 = 5 := by decide +kernel
theorem mP_84 : mP 84 = 0 := by decide +kernel
theorem mL_84 : mL 84 = 1 := by decide +kernel
theorem mC_84 : mC 84 = 5 := by decide +kernel
theorem mP_85 : mP 85 = 0 := by decide +kernel
theorem mL_85 : mL 85 = 2 := by decide +kernel
theorem mC_85 : mC 85 = 5 := by decide +kernel
theorem mP_86 : mP 86 = 1 := by decide +kernel
theorem mL_86 : mL 86 = 2 := by decide +kernel
theorem mC_86 : mC 86 = 5 := by decide +kernel
theorem mP_87 : mP 87 = 0 := by decide +kernel
theorem mL_87 : mL 87 = 2 := by decide +kernel
theorem mC_87 : mC 87 = 5 := by decide +kernel
theorem mP_88 : mP 88 = 1 := by decide +kernel
theorem mL_88 : mL 88 = 2 := by decide +kernel
theorem mC_88 : mC 88 = 5 := by decide +kernel
theorem mP_89 : mP 89 = 1 := by decide +kernel
theorem mL_89 : mL 89 = 2 := by decide +kernel
theorem mC_89 : mC 89 = 5 := by decide +kernel
theorem mP_90 : mP 90 = 1 := by decide +kernel
theorem mL_90 : mL 90 = 2 := by decide +kernel
theorem mC_90 : mC 90 = 5 := by decide +kernel
theorem mP_91 : mP 91 = 0 := by decide +kernel
theorem mL_91 : mL 91 = 1 := by decide +kernel
theorem mC_91 : mC 91 = 5 := by decide +kernel
theorem mP_92 : mP 92 = 1 := by decide +kernel
theorem mL_92 : mL 92 = 3 := by decide +kernel
theorem mC_92 : mC 92 = 5 := by decide +kernel
theorem mP_93 : mP 93 = 0 := by decide +kernel
theorem mL_93 : mL 93 = 1 := by decide +kernel
theorem mC_93 : mC 93 = 5 := by decide +kernel
theorem mP_94 : mP 94 = 1 := by decide +kernel
theorem mL_94 : mL 94 = 2 := by decide +kernel
theorem mC_94 : mC 94 = 5 := by decide +kernel
theorem mP_95 : mP 95 = 0 := by decide +kernel
theorem mL_95 : mL 95 = 1 := by decide +kernel
theorem mC_95 : mC 95 = 5 := by decide +kernel
theorem mP_96 : mP 96 = 0 := by decide +kernel
theorem mL_96 : mL 96 = 1 := by decide +kernel
theorem mC_96 : mC 96 = 5 := by decide +kernel
theorem mP_97 : mP 97 = 0 := by decide +kernel
theorem mL_97 : mL 97 = 3 := by decide +kernel
theorem mC_97 : mC 97 = 5 := by decide +kernel
theorem mP_98 : mP 98 = 0 := by decide +kernel
theorem mL_98 : mL 98 = 1 := by decide +kernel
theorem mC_98 : mC 98 = 5 := by decide +kernel
theorem mP_99 : mP 99 = 1 := by decide +kernel
theorem mL_99 : mL 99 = 3 := by decide +kernel
theorem mC_99 : mC 99 = 5 := by decide +kernel
theorem mP_100 : mP 100 = 0 := by decide +kernel
theorem mL_100 : mL 100 = 3 := by decide +kernel
theorem mC_100 : mC 100 = 5 := by decide +kernel
theorem mP_101 : mP 101 = 0 := by decide +kernel
theorem mL_101 : mL 101 = 2 := by decide +kernel
theorem mC_101 : mC 101 = 6 := by decide +kernel
theorem mP_102 : mP 102 = 0 := by decide +kernel
theorem mL_102 : mL 102 = 1 := by decide +kernel
theorem mC_102 : mC 102 = 6 := by decide +kernel
theorem mP_103 : mP 103 = 1 := by decide +kernel
theorem mL_103 : mL 103 = 2 := by decide +kernel
theorem mC_103 : mC 103 = 6 := by decide +kernel
theorem mP_104 : mP 104 = 1 := by decide +kernel
theorem mL_104 : mL 104 = 2 := by decide +kernel
theorem mC_104 : mC 104 = 6 := by decide +kernel
theorem mP_105 : mP 105 = 1 := by decide +kernel
theorem mL_105 : mL 105 = 2 := by decide +kernel
theorem mC_105 : mC 105 = 6 := by decide +kernel
theorem mP_106 : mP 106 = 2 := by decide +kernel
theorem mL_106 : mL 106 = 3 := by decide +kernel
theorem mC_106 : mC 106 = 6 := by decide +kernel
theorem mP_107 : mP 107 = 2 := by decide +kernel
theorem mL_107 : mL 107 = 3 := by decide +kernel
theorem mC_107 : mC 107 = 6 := by decide +kernel
theorem mP_108 : mP 108 = 0 := by decide +kernel
theorem mL_108 : mL 108 = 1 := by decide +kernel
theorem mC_108 : mC 108 = 7 := by decide +kernel
theorem mP_109 : mP 109 = 2 := by decide +kernel
theorem mL_109 : mL 109 = 5 := by decide +kernel
theorem mC_109 : mC 109 = 7 := by decide +kernel
theorem mP_110 : mP 110 = 1 := by decide +kernel
theorem mL_110 : mL 110 = 3 := by decide +kernel
theorem mC_110 : mC 110 = 7 := by decide +kernel
theorem mP_111 : mP 111 = 0 := by decide +kernel
theorem mL_111 : mL 111 = 1 := by decide +kernel
theorem mC_111 : mC 111 = 7 := by decide +kernel
theorem mP_112 : mP 112 = 1 := by decide +kernel
theorem mL_112 : mL 112 = 3 := by decide +kernel
theorem mC_112 : mC 112 = 7 := by decide +kernel
theorem mP_113 : mP 113 = 3 := by decide +kernel
theorem mL_113 : mL 113 = 7 := by decide +kernel
theorem mC_113 : mC 113 = 7 := by decide +kernel
theorem mP_114 : mP 114 = 1 := by decide +kernel
theorem mL_114 : mL 114 = 2 := by decide +kernel
theorem mC_114 : mC 114 = 7 := by decide +kernel
theorem mP_115 : mP 115 = 0 := by decide +kernel
theorem mL_115 : mL 115 = 1 := by decide +kernel
theorem mC_115 : mC 115 = 8 := by decide +kernel
theorem mP_116 : mP 116 = 1 := by decide +kernel
theorem mL_116 : mL 116 = 4 := by decide +kernel
theorem mC_116 : mC 116 = 8 := by decide +kernel
theorem mP_117 : mP 117 = 1 := by decide +kernel
theorem mL_117 : mL 117 = 2 := by decide +kernel
theorem mC_117 : mC 117 = 8 := by decide +kernel
theorem mP_118 : mP 118 = 1 := by decide +kernel
theorem mL_118 : mL 118 = 2 := by decide +kernel
theorem mC_118 : mC 118 = 8 := by decide +kernel
theorem mP_119 : mP 119 = 1 := by decide +kernel
theorem mL_119 : mL 119 = 2 := by decide +kernel
theorem mC_119 : mC 119 = 8 := by decide +kernel
theorem mP_120 : mP 120 = 1 := by decide +kernel
theorem mL_120 : mL 120 = 3 := by decide +kernel
theorem mC_120 : mC 120 = 8 := by decide +kernel
theorem mP_121 : mP 121 = 1 := by decide +kernel
theorem mL_121 : mL 121 = 2 := by decide +kernel
theorem mC_121 : mC 121 = 8 := by decide +kernel
theorem mP_122 : mP 122 = 0 := by decide +kernel
theorem mL_122 : mL 122 = 1 := by decide +kernel
theorem mC_122 : mC 122 = 8 := by decide +kernel
theorem mP_123 : mP 123 = 1 := by decide +kernel
theorem mL_123 : mL 123 = 3 := by decide +kernel
theorem mC_123 : mC 123 = 8 := by decide +kernel
theorem mP_124 : mP 124 = 1 := by decide +kernel
theorem mL_124 : mL 124 = 1 := by decide +kernel
theorem mC_124 : mC 124 = 8 := by decide +kernel
theorem mP_125 : mP 125 = 0 := by decide +kernel
theorem mL_125 : mL 125 = 1 := by decide +kernel
theorem mC_125 : mC 125 = 8 := by decide +kernel
theorem mP_126 : mP 126 = 1 := by decide +kernel
theorem mL_126 : mL 126 = 2 := by decide +kernel
theorem mC_126 : mC 126 = 8 := by decide +kernel
theorem mP_127 : mP 127 = 1 := by decide +kernel
theorem mL_127 : mL 127 = 2 := by decide +kernel
theorem mC_127 : mC 127 = 8 := by decide +kernel
theorem mP_128 : mP 128 = 5 := by decide +kernel
theorem mL_128 : mL 128 = 6 := by decide +kernel
theorem mC_128 : mC 128 = 8 := by decide +kernel
theorem mP_129 : mP 129 = 0 := by decide +kernel
theorem mL_129 : mL 129 = 4 := by decide +kernel
theorem mC_129 : mC 129 = 8 := by decide +kernel
theorem mP_130 : mP 130 = 1 := by decide +kernel
theorem mL_130 : mL 130 = 3 := by decide +kernel
theorem mC_130 : mC 130 = 8 := by decide +kernel
theorem mP_131 : mP 131 = 3 := by decide +kernel
theorem mL_131 : mL 131 = 3 := by decide +kernel
theorem mC_131 : mC 131 = 8 := by decide +kernel
theorem mP_132 : mP 132 = 0 := by decide +kernel
theorem mL_132 : mL 132 = 1 := by decide +kernel
theorem mC_132 : mC 132 = 9 := by decide +kernel
theorem mP_133 : mP 133 = 1 := by decide +kernel
theorem mL_133 : mL 133 = 3 := by decide +kernel
theorem mC_133 : mC 133 = 9 := by decide +kernel
theorem mP_134 : mP 134 = 1 := by decide +kernel
theorem mL_134 : mL 134 = 2 := by decide +kernel
theorem mC_134 : mC 134 = 9 := by decide +kernel
theorem mP_135 : mP 135 = 1 := by decide +kernel
theorem mL_135 : mL 135 = 2 := by decide +kernel
theorem mC_135 : mC 135 = 9 := by decide +kernel
theorem mP_136 : mP 136 = 1 := by decide +kernel
theorem mL_136 : mL 136 = 2 := by decide +kernel
theorem mC_136 : mC 136 = 9 := by decide +kernel
theorem mP_137 : mP 137 = 0 := by decide +kernel
theorem mL_137 : mL 137 = 1 := by decide +kernel
theorem mC_137 : mC 137 = 9 := by decide +kernel
theorem mP_138 : mP 138 = 1 := by decide +kernel
theorem mL_138 : mL 138 = 2 := by decide +kernel
theorem mC_138 : mC 138 = 9 := by decide +kernel
theorem mP_139 : mP 139 = 0 := by decide +kernel
theorem mL_139 : mL 139 = 1 := by decide +kernel
theorem mC_139 : mC 139 = 10 := by decide +kernel
theorem mP_140 : mP 140 = 1 := by decide +kernel
theorem mL_140 : mL 140 = 2 := by decide +kernel
theorem mC_140 : mC 140 = 10 := by decide +kernel
theorem mP_141 : mP 141 = 1 := by decide +kernel
theorem mL_141 : mL 141 = 2 := by decide +kernel
theorem mC_141 : mC 141 = 10 := by decide +kernel
theorem mP_142 : mP 142 = 0 := by decide +kernel
theorem mL_142 : mL 142 = 3 := by decide +kernel
theorem mC_142 : mC 142 = 10 := by decide +kernel
theorem mP_143 : mP 143 = 0 := by decide +kernel
theorem mL_143 : mL 143 = 2 := by decide +kernel
theorem mC_143 : mC 143 = 10 := by decide +kernel
theorem mP_144 : mP 144 = 1 := by decide +kernel
theorem mL_144 : mL 144 = 1 := by decide +kernel
theorem mC_144 : mC 144 = 10 := by decide +kernel
theorem mP_145 : mP 145 = 0 := by decide +kernel
theorem mL_145 : mL 145 = 2 := by decide +kernel
theorem mC_145 : mC 145 = 10 := by decide +kernel
theorem mP_146 : mP 146 = 4 := by decide +kernel
theorem mL_146 : mL 146 = 5 := by decide +kernel
theorem mC_146 : mC 146 = 10 := by decide +kernel
theorem mP_147 : mP 147 = 4 := by decide +kernel
theorem mL_147 : mL 147 = 5 := by decide +kernel
theorem mC_147 : mC 147 = 10 := by decide +kernel
theorem mP_148 : mP 148 = 1 := by decide +kernel
theorem mL_148 : mL 148 = 2 := by decide +kernel
theorem mC_148 : mC 148 = 10 := by decide +kernel
theorem mP_149 : mP 149 = 1 := by decide +kernel
theorem mL_149 : mL 149 = 2 := by decide +kernel
theorem mC_149 : mC 149 = 10 := by decide +kernel
theorem mP_150 : mP 150 = 1 := by decide +kernel
theorem mL_150 : mL 150 = 2 := by decide +kernel
theorem mC_150 : mC 150 = 10 := by decide +kernel
theorem mP_151 : mP 151 = 2 := by decide +kernel
theorem mL_151 : mL 151 = 3 := by decide +kernel
theorem mC_151 : mC 151 = 10 := by decide +kernel
theorem mP_152 : mP 152 = 0 := by decide +kernel
theorem mL_152 : mL 152 = 1 := by decide +kernel
theorem mC_152 : mC 152 = 10 := by decide +kernel
theorem mP_153 : mP 153 = 2 := by decide +kernel
theorem mL_153 : mL 153 = 3 := by decide +kernel
theorem mC_153 : mC 153 = 10 := by decide +kernel
theorem mP_154 : mP 154 = 1 := by decide +kernel
theorem mL_154 : mL 154 = 2 := by decide +kernel
theorem mC_154 : mC 154 = 10 := by decide +kernel
theorem mP_155 : mP 155 = 0 := by decide +kernel
theorem mL_155 : mL 155 = 6 := by decide +kernel
theorem mC_155 : mC 155 = 10 := by decide +kernel
theorem mP_156 : mP 156 = 0 := by decide +kernel
theorem mL_156 : mL 156 = 4 := by decide +kernel
theorem mC_156 : mC 156 = 10 := by decide +kernel
theorem mP_157 : mP 157 = 1 := by decide +kernel
theorem mL_157 : mL 157 = 1 := by decide +kernel
theorem mC_157 : mC 157 = 10 := by decide +kernel
theorem mP_158 : mP 158 = 1 := by decide +kernel
theorem mL_158 : mL 158 = 3 := by decide +kernel
theorem mC_158 : mC 158 = 10 := by decide +kernel
theorem mP_159 : mP 159 = 1 := by decide +kernel
theorem mL_159 : mL 159 = 3 := by decide +kernel
theorem mC_159 : mC 159 = 10 := by decide +kernel
theorem mP_160 : mP 160 = 0 := by decide +kernel
theorem mL_160 : mL 160 = 1 := by decide +kernel
theorem mC_160 : mC 160 = 10 := by decide +kernel
theorem mP_161 : mP 161 = 1 := by decide +kernel
theorem mL_161 : mL 161 = 6 := by decide +kernel
theorem mC_161 : mC 161 = 10 := by decide +kernel
theorem mP_162 : mP 162 = 0 := by decide +kernel
theorem mL_162 : mL 162 = 1 := by decide +kernel
theorem mC_162 : mC 162 = 10 := by decide +kernel
theorem mP_163 : mP 163 = 0 := by decide +kernel
theorem mL_163 : mL 163 = 1 := by decide +kernel
theorem mC_163 : mC 163 = 10 := by decide +kernel
theorem mP_164 : mP 164 = 1 := by decide +kernel
theorem mL_164 : mL 164 = 3 := by decide +kernel
theorem mC_164 : mC 164 = 10 := by decide +kernel
theorem mP_165 : mP 165 = 1 := by decide +kernel
theorem mL_165 : mL 165 = 3 := by decide +kernel
theorem mC_165 : mC 165 = 10 := by decide +kernel
theorem mP_166 : mP 166 = 1 := by decide +kernel
theorem mL_166 : mL 166 = 2 := by decide +kernel
theorem mC_166 : mC 166 = 10 := by decide +kernel
theorem mP_167 : mP 167 = 0 := by decide +kernel
theorem mL_167 : mL 167 = 3 := by decide +kernel
theorem mC_167 : mC 167 = 10 := by decide +kernel
theorem mP_168 : mP 168 = 1 := by decide +kernel
theorem mL_168 : mL 168 = 2 := by decide +kernel
theorem mC_168 : mC 168 = 10 := by decide +kernel
theorem mP_169 : mP 169 = 2 := by decide +kernel
theorem mL_169 : mL 169 = 4 := by decide +kernel
theorem mC_169 : mC 169 = 10 := by decide +kernel
theorem mP_170 : mP 170 = 0 := by decide +kernel
theorem mL_170 : mL 170 = 2 := by decide +kernel
theorem mC_170 : mC 170 = 10 := by decide +kernel
theorem mP_171 : mP 171 = 1 := by decide +kernel
theorem mL_171 : mL 171 = 2 := by decide +kernel
theorem mC_171 : mC 171 = 10 := by decide +kernel
theorem mP_172 : mP 172 = 1 := by decide +kernel
theorem mL_172 : mL 172 = 5 := by decide +kernel
theorem mC_172 : mC 172 = 10 := by decide +kernel
theorem mP_173 : mP 173 = 0 := by decide +kernel
theorem mL_173 : mL 173 = 1 := by decide +kernel
theorem mC_173 : mC 173 = 10 := by decide +kernel
theorem mP_174 : mP 174 = 2 := by decide +kernel
theorem mL_174 : mL 174 = 4 := by decide +kernel
theorem mC_174 : mC 174 = 10 := by decide +kernel
theorem mP_175 : mP 175 = 0 := by decide +kernel
theorem mL_175 : mL 175 = 4 := by decide +kernel
theorem mC_175 : mC 175 = 10 := by decide +kernel
theorem mP_176 : mP 176 = 2 := by decide +kernel
theorem mL_176 : mL 176 = 3 := by decide +kernel
theorem mC_176 : mC 176 = 10 := by decide +kernel
theorem mP_177 : mP 177 = 0 := by decide +kernel
theorem mL_177 : mL 177 = 1 := by decide +kernel
theorem mC_177 : mC 177 = 10 := by decide +kernel
theorem mP_178 : mP 178 = 0 := by decide +kernel
theorem mL_178 : mL 178 = 1 := by decide +kernel
theorem mC_178 : mC 178 = 10 := by decide +kernel
theorem mP_179 : mP 179 = 0 := by decide +kernel
theorem mL_179 : mL 179 = 1 := by decide +kernel
theorem mC_179 : mC 179 = 10 := by decide +kernel
theorem mP_180 : mP 180 = 3 := by decide +kernel
theorem mL_180 : mL 180 = 4 := by decide +kernel
theorem mC_180 : mC 180 = 10 := by decide +kernel
theorem mP_181 : mP 181 = 0 := by decide +kernel
theorem mL_181 : mL 181 = 4 := by decide +kernel
theorem mC_181 : mC 181 = 10 := by decide +kernel
theorem mP_182 : mP 182 = 1 := by decide +kernel
theorem mL_182 : mL 182 = 3 := by decide +kernel
theorem mC_182 : mC 182 = 10 := by decide +kernel
theorem mP_183 : mP 183 = 2 := by decide +kernel
theorem mL_183 : mL 183 = 5 := by decide +kernel
theorem mC_183 : mC 183 = 10 := by decide +kernel
theorem mP_184 : mP 184 = 1 := by decide +kernel
theorem mL_184 : mL 184 = 2 := by decide +kernel
theorem mC_184 : mC 184 = 10 := by decide +kernel
theorem mP_185 : mP 185 = 1 := by decide +kernel
theorem mL_185 : mL 185 = 2 := by decide +kernel
theorem mC_185 : mC 185 = 10 := by decide +kernel
theorem mP_186 : mP 186 = 1 := by decide +kernel
theorem mL_186 : mL 186 = 2 := by decide +kernel
theorem mC_186 : mC 186 = 10 := by decide +kernel
theorem mP_187 : mP 187 = 2 := by decide +kernel
theorem mL_187 : mL 187 = 4 := by decide +kernel
theorem mC_187 : mC 187 = 10 := by decide +kernel
theorem mP_188 : mP 188 = 1 := by decide +kernel
theorem mL_188 : mL 188 = 2 := by decide +kernel
theorem mC_188 : mC 188 = 10 := by decide +kernel
theorem mP_189 : mP 189 = 0 := by decide +kernel
theorem mL_189 : mL 189 = 1 := by decide +kernel
theorem mC_189 : mC 189 = 11 := by decide +kernel
theorem mP_190 : mP 190 = 1 := by decide +kernel
theorem mL_190 : mL 190 = 3 := by decide +kernel
theorem mC_190 : mC 190 = 11 := by decide +kernel
theorem mP_191 : mP 191 = 1 := by decide +kernel
theorem mL_191 : mL 191 = 2 := by decide +kernel
theorem mC_191 : mC 191 = 11 := by decide +kernel
theorem mP_192 : mP 192 = 3 := by decide +kernel
theorem mL_192 : mL 192 = 6 := by decide +kernel
theorem mC_192 : mC 192 = 11 := by decide +kernel
theorem mP_193 : mP 193 = 0 := by decide +kernel
theorem mL_193 : mL 193 = 2 := by decide +kernel
theorem mC_193 : mC 193 = 11 := by decide +kernel
theorem mP_194 : mP 194 = 0 := by decide +kernel
theorem mL_194 : mL 194 = 3 := by decide +kernel
theorem mC_194 : mC 194 = 11 := by decide +kernel
theorem mP_195 : mP 195 = 1 := by decide +kernel
theorem mL_195 : mL 195 = 3 := by decide +kernel
theorem mC_195 : mC 195 = 11 := by decide +kernel
theorem mP_196 : mP 196 = 1 := by decide +kernel
theorem mL_196 : mL 196 = 4 := by decide +kernel
theorem mC_196 : mC 196 = 11 := by decide +kernel
theorem mP_197 : mP 197 = 0 := by decide +kernel
theorem mL_197 : mL 197 = 2 := by decide +kernel
theorem mC_197 : mC 197 = 11 := by decide +kernel
theorem mP_198 : mP 198 = 1 := by decide +kernel
theorem mL_198 : mL 198 = 3 := by decide +kernel
theorem mC_198 : mC 198 = 11 := by decide +kernel
theorem mP_199 : mP 199 = 1 := by decide +kernel
theorem mL_199 : mL 199 = 1 := by decide +kernel
theorem mC_199 : mC 199 = 11 := by decide +kernel
theorem mP_200 : mP 200 = 1 := by decide +kernel
theorem mL_200 : mL 200 = 2 := by decide +kernel
theorem mC_200 : mC 200 = 11 := by decide +kernel
theorem mP_201 : mP 201 = 0 := by decide +kernel
theorem mL_201 : mL 201 = 1 := by decide +kernel
theorem mC_201 : mC 201 = 11 := by decide +kernel
theorem mP_202 : mP 202 = 1 := by decide +kernel
theorem mL_202 : mL 202 = 4 := by decide +kernel
theorem mC_202 : mC 202 = 11 := by decide +kernel
theorem mP_203 : mP 203 = 1 := by decide +kernel
theorem mL_203 : mL 203 = 3 := by decide +kernel
theorem mC_203 : mC 203 = 11 := by decide +kernel
theorem mP_204 : mP 204 = 3 := by decide +kernel
theorem mL_204 : mL 204 = 5 := by decide +kernel
theorem mC_204 : mC 204 = 11 := by decide +kernel
theorem mP_205 : mP 205 = 2 := by decide +kernel
theorem mL_205 : mL 205 = 4 := by decide +kernel
theorem mC_205 : mC 205 = 11 := by decide +kernel
theorem mP_206 : mP 206 = 0 := by decide +kernel
theorem mL_206 : mL 206 = 2 := by decide +kernel
theorem mC_206 : mC 206 = 11 := by decide +kernel
theorem mP_207 : mP 207 = 0 := by decide +kernel
theorem mL_207 : mL 207 = 5 := by decide +kernel
theorem mC_207 : mC 207 = 11 := by decide +kernel
theorem mP_208 : mP 208 = 2 := by decide +kernel
theorem mL_208 : mL 208 = 3 := by decide +kernel
theorem mC_208 : mC 208 = 11 := by decide +kernel
theorem mP_209 : mP 209 = 2 := by decide +kernel
theorem mL_209 : mL 209 = 3 := by decide +kernel
theorem mC_209 : mC 209 = 11 := by decide +kernel
theorem mP_210 : mP 210 = 1 := by decide +kernel
theorem mL_210 : mL 210 = 2 := by decide +kernel
theorem mC_210 : mC 210 = 11 := by decide +kernel
theorem mP_211 : mP 211 = 0 := by decide +kernel
theorem mL_211 : mL 211 = 1 := by decide +kernel
theorem mC_211 : mC 211 = 11 := by decide +kernel
theorem mP_212 : mP 212 = 3 := by decide +kernel
theorem mL_212 : mL 212 = 3 := by decide +kernel
theorem mC_212 : mC 212 = 11 := by decide +kernel
theorem mP_213 : mP 213 = 4 := by decide +kernel
theorem mL_213 : mL 213 = 8 := by decide +kernel
theorem mC_213 : mC 213 = 11 := by decide +kernel
theorem mP_214 : mP 214 = 1 := by decide +kernel
theorem mL_214 : mL 214 = 3 := by decide +kernel
theorem mC_214 : mC 214 = 11 := by decide +kernel
theorem mP_215 : mP 215 = 0 := by decide +kernel
theorem mL_215 : mL 215 = 2 := by decide +kernel
theorem mC_215 : mC 215 = 11 := by decide +kernel
theorem mP_216 : mP 216 = 4 := by decide +kernel
theorem mL_216 : mL 216 = 5 := by decide +kernel
theorem mC_216 : mC 216 = 11 := by decide +kernel
theorem mP_217 : mP 217 = 0 := by decide +kernel
theorem mL_217 : mL 217 = 2 := by decide +kernel
theorem mC_217 : mC 217 = 11 := by decide +kernel
theorem mP_218 : mP 218 = 5 := by decide +kernel
theorem mL_218 : mL 218 = 8 := by decide +kernel
theorem mC_218 : mC 218 = 11 := by decide +kernel
theorem mP_219 : mP 219 = 2 := by decide +kernel
theorem mL_219 : mL 219 = 3 := by decide +kernel
theorem mC_219 : mC 219 = 11 := by decide +kernel
theorem mP_220 : mP 220 = 3 := by decide +kernel
theorem mL_220 : mL 220 = 3 := by decide +kernel
theorem mC_220 : mC 220 = 11 := by decide +kernel
theorem mP_221 : mP 221 = 3 := by decide +kernel
theorem mL_221 : mL 221 = 4 := by decide +kernel
theorem mC_221 : mC 221 = 11 := by decide +kernel
theorem mP_222 : mP 222 = 2 := by decide +kernel
theorem mL_222 : mL 222 = 2 := by decide +kernel
theorem mC_222 : mC 222 = 11 := by decide +kernel
theorem mP_223 : mP 223 = 3 := by decide +kernel
theorem mL_223 : mL 223 = 5 := by decide +kernel
theorem mC_223 : mC 223 = 11 := by decide +kernel
theorem mP_224 : mP 224 = 1 := by decide +kernel
theorem mL_224 : mL 224 = 1 := by decide +kernel
theorem mC_224 : mC 224 = 11 := by decide +kernel
theorem mP_225 : mP 225 = 2 := by decide +kernel
theorem mL_225 : mL 225 = 2 := by decide +kernel
theorem mC_225 : mC 225 = 11 := by decide +kernel
theorem mP_226 : mP 226 = 3 := by decide +kernel
theorem mL_226 : mL 226 = 4 := by decide +kernel
theorem mC_226 : mC 226 = 11 := by decide +kernel
theorem mP_227 : mP 227 = 1 := by decide +kernel
theorem mL_227 : mL 227 = 1 := by decide +kernel
theorem mC_227 : mC 227 = 11 := by decide +kernel
theorem mP_228 : mP 228 = 3 := by decide +kernel
theorem mL_228 : mL 228 = 5 := by decide +kernel
theorem mC_228 : mC 228 = 11 := by decide +kernel
theorem mP_229 : mP 229 = 2 := by decide +kernel
theorem mL_229 : mL 229 = 2 := by decide +kernel
theorem mC_229 : mC 229 = 11 := by decide +kernel
theorem mP_230 : mP 230 = 4 := by decide +kernel
theorem mL_230 : mL 230 = 4 := by decide +kernel
theorem mC_230 : mC 230 = 11 := by decide +kernel
theorem mP_231 : mP 231 = 1 := by decide +kernel
theorem mL_231 : mL 231 = 2 := by decide +kernel
theorem mC_231 : mC 231 = 11 := by decide +kernel
theorem mP_232 : mP 232 = 1 := by decide +kernel
theorem mL_232 : mL 232 = 3 := by decide +kernel
theorem mC_232 : mC 232 = 11 := by decide +kernel
theorem mP_233 : mP 233 = 1 := by decide +kernel
theorem mL_233 : mL 233 = 2 := by decide +kernel
theorem mC_233 : mC 233 = 11 := by decide +kernel
theorem mP_234 : mP 234 = 2 := by decide +kernel
theorem mL_234 : mL 234 = 6 := by decide +kernel
theorem mC_234 : mC 234 = 11 := by decide +kernel
theorem mP_235 : mP 235 = 1 := by decide +kernel
theorem mL_235 : mL 235 = 2 := by decide +kernel
theorem mC_235 : mC 235 = 11 := by decide +kernel
theorem mP_236 : mP 236 = 2 := by decide +kernel
theorem mL_236 : mL 236 = 4 := by decide +kernel
theorem mC_236 : mC 236 = 11 := by decide +kernel
theorem mP_237 : mP 237 = 1 := by decide +kernel
theorem mL_237 : mL 237 = 4 := by decide +kernel
theorem mC_237 : mC 237 = 11 := by decide +kernel
theorem mP_238 : mP 238 = 2 := by decide +kernel
theorem mL_238 : mL 238 = 10 := by decide +kernel
theorem mC_238 : mC 238 = 11 := by decide +kernel
theorem mP_239 : mP 239 = 5 := by decide +kernel
theorem mL_239 : mL 239 = 6 := by decide +kernel
theorem mC_239 : mC 239 = 11 := by decide +kernel
theorem mP_240 : mP 240 = 2 := by decide +kernel
theorem mL_240 : mL 240 = 3 := by decide +kernel
theorem mC_240 : mC 240 = 11 := by decide +kernel
theorem mP_241 : mP 241 = 1 := by decide +kernel
theorem mL_241 : mL 241 = 7 := by decide +kernel
theorem mC_241 : mC 241 = 11 := by decide +kernel
theorem mP_242 : mP 242 = 2 := by decide +kernel
theorem mL_242 : mL 242 = 3 := by decide +kernel
theorem mC_242 : mC 242 = 11 := by decide +kernel
theorem mP_243 : mP 243 = 1 := by decide +kernel
theorem mL_243 : mL 243 = 3 := by decide +kernel
theorem mC_243 : mC 243 = 11 := by decide +kernel
theorem mP_244 : mP 244 = 1 := by decide +kernel
theorem mL_244 : mL 244 = 4 := by decide +kernel
theorem mC_244 : mC 244 = 11 := by decide +kernel
theorem mP_245 : mP 245 = 2 := by decide +kernel
theorem mL_245 : mL 245 = 2 := by decide +kernel
theorem mC_245 : mC 245 = 11 := by decide +kernel
theorem mP_246 : mP 246 = 1 := by decide +kernel
theorem mL_246 : mL 246 = 10 := by decide +kernel
theorem mC_246 : mC 246 = 11 := by decide +kernel
theorem mP_247 : mP 247 = 1 := by decide +kernel
theorem mL_247 : mL 247 = 5 := by decide +kernel
theorem mC_247 : mC 247 = 11 := by decide +kernel
theorem mP_248 : mP 248 = 2 := by decide +kernel
theorem mL_248 : mL 248 = 5 := by decide +kernel
theorem mC_248 : mC 248 = 11 := by decide +kernel
theorem mP_249 : mP 249 = 1 := by decide +kernel
theorem mL_249 : mL 249 = 3 := by decide +kernel
theorem mC_249 : mC 249 = 11 := by decide +kernel
theorem mP_250 : mP 250 = 2 := by decide +kernel
theorem mL_250 : mL 250 = 4 := by decide +kernel
theorem mC_250 : mC 250 = 11 := by decide +kernel
theorem mP_251 : mP 251 = 3 := by decide +kernel
theorem mL_251 : mL 251 = 4 := by decide +kernel
theorem mC_251 : mC 251 = 11 := by decide +kernel
theorem mP_252 : mP 252 = 0 := by decide +kernel
theorem mL_252 : mL 252 = 4 := by decide +kernel
theorem mC_252 : mC 252 = 11 := by decide +kernel
theorem mP_253 : mP 253 = 3 := by decide +kernel
theorem mL_253 : mL 253 = 3 := by decide +kernel
theorem mC_253 : mC 253 = 11 := by decide +kernel
theorem mP_254 : mP 254 = 3 := by decide +kernel
theorem mL_254 : mL 254 = 4 := by decide +kernel
theorem mC_254 : mC 254 = 11 := by decide +kernel
theorem mP_255 : mP 255 = 1 := by decide +kernel
theorem mL_255 : mL 255 = 3 := by decide +kernel
theorem mC_255 : mC 255 = 11 := by decide +kernel
theorem mP_256 : mP 256 = 1 := by decide +kernel
theorem mL_256 : mL 256 = 3 := by decide +kernel
theorem mC_256 : mC 256 = 11 := by decide +kernel
theorem mP_257 : mP 257 = 2 := by decide +kernel
theorem mL_257 : mL 257 = 4 := by decide +kernel
theorem mC_257 : mC 257 = 11 := by decide +kernel
theorem mP_258 : mP 258 = 2 := by decide +kernel
theorem mL_258 : mL 258 = 3 := by decide +kernel
theorem mC_258 : mC 258 = 11 := by decide +kernel
theorem mP_259 : mP 259 = 3 := by decide +kernel
theorem mL_259 : mL 259 = 6 := by decide +kernel
theorem mC_259 : mC 259 = 11 := by decide +kernel
theorem mP_260 : mP 260 = 3 := by decide +kernel
theorem mL_260 : mL 260 = 6 := by decide +kernel
theorem mC_260 : mC 260 = 11 := by decide +kernel
theorem mP_261 : mP 261 = 0 := by decide +kernel
theorem mL_261 : mL 261 = 1 := by decide +kernel
theorem mC_261 : mC 261 = 11 := by decide +kernel
theorem mP_262 : mP 262 = 2 := by decide +kernel
theorem mL_262 : mL 262 = 8 := by decide +kernel
theorem mC_262 : mC 262 = 11 := by decide +kernel
theorem mP_263 : mP 263 = 2 := by decide +kernel
theorem mL_263 : mL 263 = 3 := by decide +kernel
theorem mC_263 : mC 263 = 11 := by decide +kernel
theorem mP_264 : mP 264 = 3 := by decide +kernel
theorem mL_264 : mL 264 = 4 := by decide +kernel
theorem mC_264 : mC 264 = 11 := by decide +kernel
theorem mP_265 : mP 265 = 1 := by decide +kernel
theorem mL_265 : mL 265 = 2 := by decide +kernel
theorem mC_265 : mC 265 = 11 := by decide +kernel
theorem mP_266 : mP 266 = 2 := by decide +kernel
theorem mL_266 : mL 266 = 3 := by decide +kernel
theorem mC_266 : mC 266 = 11 := by decide +kernel
theorem mP_267 : mP 267 = 0 := by decide +kernel
theorem mL_267 : mL 267 = 2 := by decide +kernel
theorem mC_267 : mC 267 = 11 := by decide +kernel
theorem mP_268 : mP 268 = 0 := by decide +kernel
theorem mL_268 : mL 268 = 2 := by decide +kernel
theorem mC_268 : mC 268 = 11 := by decide +kernel
theorem mP_269 : mP 269 = 0 := by decide +kernel
theorem mL_269 : mL 269 = 3 := by decide +kernel
theorem mC_269 : mC 269 = 11 := by decide +kernel
theorem mP_270 : mP 270 = 1 := by decide +kernel
theorem mL_270 : mL 270 = 3 := by decide +kernel
theorem mC_270 : mC 270 = 11 := by decide +kernel
theorem mP_271 : mP 271 = 1 := by decide +kernel
theorem mL_271 : mL 271 = 3 := by decide +kernel
theorem mC_271 : mC 271 = 11 := by decide +kernel
theorem mP_272 : mP 272 = 0 := by decide +kernel
theorem mL_272 : mL 272 = 3 := by decide +kernel
theorem mC_272 : mC 272 = 11 := by decide +kernel
theorem mP_273 : mP 273 = 0 := by decide +kernel
theorem mL_273 : mL 273 = 3 := by decide +kernel
theorem mC_273 : mC 273 = 11 := by decide +kernel
theorem mP_274 : mP 274 = 1 := by decide +kernel
theorem mL_274 : mL 274 = 5 := by decide +kernel
theorem mC_274 : mC 274 = 11 := by decide +kernel
theorem mP_275 : mP 275 = 2 := by decide +kernel
theorem mL_275 : mL 275 = 3 := by decide +kernel
theorem mC_275 : mC 275 = 11 := by decide +kernel
theorem mP_276 : mP 276 = 1 := by decide +kernel
theorem mL_276 : mL 276 = 5 := by decide +kernel
theorem mC_276 : mC 276 = 11 := by decide +kernel
theorem mP_277 : mP 277 = 1 := by decide +kernel
theorem mL_277 : mL 277 = 5 := by decide +kernel
theorem mC_277 : mC 277 = 11 := by decide +kernel
theorem mP_278 : mP 278 = 3 := by decide +kernel
theorem mL_278 : mL 278 = 3 := by decide +kernel
theorem mC_278 : mC 278 = 11 := by decide +kernel
theorem mP_279 : mP 279 = 0 := by decide +kernel
theorem mL_279 : mL 279 = 2 := by decide +kernel
theorem mC_279 : mC 279 = 11 := by decide +kernel
theorem mP_280 : mP 280 = 0 := by decide +kernel
theorem mL_280 : mL 280 = 2 := by decide +kernel
theorem mC_280 : mC 280 = 11 := by decide +kernel
theorem mP_281 : mP 281 = 1 := by decide +kernel
theorem mL_281 : mL 281 = 4 := by decide +kernel
theorem mC_281 : mC 281 = 11 := by decide +kernel
theorem mP_282 : mP 282 = 2 := by decide +kernel
theorem mL_282 : mL 282 = 6 := by decide +kernel
theorem mC_282 : mC 282 = 11 := by decide +kernel
theorem mP_283 : mP 283 = 0 := by decide +kernel
theorem mL_283 : mL 283 = 2 := by decide +kernel
theorem mC_283 : mC 283 = 11 := by decide +kernel
theorem mP_284 : mP 284 = 1 := by decide +kernel
theorem mL_284 : mL 284 = 3 := by decide +kernel
theorem mC_284 : mC 284 = 11 := by decide +kernel
theorem mP_285 : mP 285 = 1 := by decide +kernel
theorem mL_285 : mL 285 = 4 := by decide +kernel
theorem mC_285 : mC 285 = 11 := by decide +kernel
theorem mP_286 : mP 286 = 1 := by decide +kernel
theorem mL_286 : mL 286 = 3 := by decide +kernel
theorem mC_286 : mC 286 = 11 := by decide +kernel
theorem mP_287 : mP 287 = 1 := by decide +kernel
theorem mL_287 : mL 287 = 3 := by decide +kernel
theorem mC_287 : mC 287 = 11 := by decide +kernel
theorem mP_288 : mP 288 = 1 := by decide +kernel
theorem mL_288 : mL 288 = 3 := by decide +kernel
theorem mC_288 : mC 288 = 11 := by decide +kernel
theorem mP_289 : mP 289 = 0 := by decide +kernel
theorem mL_289 : mL 289 = 1 := by decide +kernel
theorem mC_289 : mC 289 = 11 := by decide +kernel
theorem mP_290 : mP 290 = 2 := by decide +kernel
theorem mL_290 : mL 290 = 5 := by decide +kernel
theorem mC_290 : mC 290 = 11 := by decide +kernel
theorem mP_291 : mP 291 = 0 := by decide +kernel
theorem mL_291 : mL 291 = 2 := by decide +kernel
theorem mC_291 : mC 291 = 11 := by decide +kernel
theorem mP_292 : mP 292 = 2 := by decide +kernel
theorem mL_292 : mL 292 = 3 := by decide +kernel
theorem mC_292 : mC 292 = 11 := by decide +kernel
theorem mP_293 : mP 293 = 1 := by decide +kernel
theorem mL_293 : mL 293 = 1 := by decide +kernel
theorem mC_293 : mC 293 = 11 := by decide +kernel
theorem mP_294 : mP 294 = 0 := by decide +kernel
theorem mL_294 : mL 294 = 2 := by decide +kernel
theorem mC_294 : mC 294 = 11 := by decide +kernel
theorem mP_295 : mP 295 = 0 := by decide +kernel
theorem mL_295 : mL 295 = 5 := by decide +kernel
theorem mC_295 : mC 295 = 11 := by decide +kernel
theorem mP_296 : mP 296 = 2 := by decide +kernel
theorem mL_296 : mL 296 = 5 := by decide +kernel
theorem mC_296 : mC 296 = 11 := by decide +kernel
theorem mP_297 : mP 297 = 2 := by decide +kernel
theorem mL_297 : mL 297 = 6 := by decide +kernel
theorem mC_297 : mC 297 = 11 := by decide +kernel
theorem mP_298 : mP 298 = 4 := by decide +kernel
theorem mL_298 : mL 298 = 6 := by decide +kernel
theorem mC_298 : mC 298 = 11 := by decide +kernel
theorem mP_299 : mP 299 = 0 := by decide +kernel
theorem mL_299 : mL 299 = 8 := by decide +kernel
theorem mC_299 : mC 299 = 11 := by decide +kernel
theorem mP_300 : mP 300 = 2 := by decide +kernel
theorem mL_300 : mL 300 = 6 := by decide +kernel
theorem mC_300 : mC 300 = 11 := by decide +kernel
theorem mP_301 : mP 301 = 3 := by decide +kernel
theorem mL_301 : mL 301 = 6 := by decide +kernel
theorem mC_301 : mC 301 = 11 := by decide +kernel
theorem mP_302 : mP 302 = 0 := by decide +kernel
theorem mL_302 : mL 302 = 5 := by decide +kernel
theorem mC_302 : mC 302 = 11 := by decide +kernel
theorem mP_303 : mP 303 = 0 := by decide +kernel
theorem mL_303 : mL 303 = 2 := by decide +kernel
theorem mC_303 : mC 303 = 11 := by decide +kernel
theorem mP_304 : mP 304 = 2 := by decide +kernel
theorem mL_304 : mL 304 = 6 := by decide +kernel
theorem mC_304 : mC 304 = 11 := by decide +kernel
theorem mP_305 : mP 305 = 1 := by decide +kernel
theorem mL_305 : mL 305 = 2 := by decide +kernel
theorem mC_305 : mC 305 = 11 := by decide +kernel
theorem mP_306 : mP 306 = 2 := by decide +kernel
theorem mL_306 : mL 306 = 5 := by decide +kernel
theorem mC_306 : mC 306 = 11 := by decide +kernel
theorem mP_307 : mP 307 = 1 := by decide +kernel
theorem mL_307 : mL 307 = 3 := by decide +kernel
theorem mC_307 : mC 307 = 11 := by decide +kernel
theorem mP_308 : mP 308 = 1 := by decide +kernel
theorem mL_308 : mL 308 = 3 := by decide +kernel
theorem mC_308 : mC 308 = 11 := by decide +kernel
theorem mP_309 : mP 309 = 1 := by decide +kernel
theorem mL_309 : mL 309 = 5 := by decide +kernel
theorem mC_309 : mC 309 = 11 := by decide +kernel
theorem mP_310 : mP 310 = 1 := by decide +kernel
theorem mL_310 : mL 310 = 2 := by decide +kernel
theorem mC_310 : mC 310 = 11 := by decide +kernel
theorem mP_311 : mP 311 = 1 := by decide +kernel
theorem mL_311 : mL 311 = 1 := by decide +kernel
theorem mC_311 : mC 311 = 13 := by decide +kernel
theorem mP_312 : mP 312 = 1 := by decide +kernel
theorem mL_312 : mL 312 = 2 := by decide +kernel
theorem mC_312 : mC 312 = 15 := by decide +kernel
theorem mP_313 : mP 313 = 2 := by decide +kernel
theorem mL_313 : mL 313 = 3 := by decide +kernel
theorem mC_313 : mC 313 = 15 := by decide +kernel
theorem mP_314 : mP 314 = 0 := by decide +kernel
theorem mL_314 : mL 314 = 1 := by decide +kernel
theorem mC_314 : mC 314 = 15 := by decide +kernel
theorem mP_315 : mP 315 = 0 := by decide +kernel
theorem mL_315 : mL 315 = 1 := by decide +kernel
theorem mC_315 : mC 315 = 15 := by decide +kernel
theorem mP_316 : mP 316 = 0 := by decide +kernel
theorem mL_316 : mL 316 = 1 := by decide +kernel
theorem mC_316 : mC 316 = 15 := by decide +kernel
theorem mP_317 : mP 317 = 1 := by decide +kernel
theorem mL_317 : mL 317 = 2 := by decide +kernel
theorem mC_317 : mC 317 = 15 := by decide +kernel
theorem mP_318 : mP 318 = 2 := by decide +kernel
theorem mL_318 : mL 318 = 2 := by decide +kernel
theorem mC_318 : mC 318 = 15 := by decide +kernel
theorem mP_319 : mP 319 = 4 := by decide +kernel
theorem mL_319 : mL 319 = 4 := by decide +kernel
theorem mC_319 : mC 319 = 16 := by decide +kernel
theorem mP_320 : mP 320 = 1 := by decide +kernel
theorem mL_320 : mL 320 = 1 := by decide +kernel
theorem mC_320 : mC 320 = 16 := by decide +kernel
theorem mP_321 : mP 321 = 4 := by decide +kernel
theorem mL_321 : mL 321 = 6 := by decide +kernel
theorem mC_321 : mC 321 = 16 := by decide +kernel
theorem mP_322 : mP 322 = 2 := by decide +kernel
theorem mL_322 : mL 322 = 2 := by decide +kernel
theorem mC_322 : mC 322 = 16 := by decide +kernel
theorem mP_323 : mP 323 = 2 := by decide +kernel
theorem mL_323 : mL 323 = 4 := by decide +kernel
theorem mC_323 : mC 323 = 17 := by decide +kernel
theorem mP_324 : mP 324 = 3 := by decide +kernel
theorem mL_324 : mL 324 = 3 := by decide +kernel
theorem mC_324 : mC 324 = 18 := by decide +kernel
