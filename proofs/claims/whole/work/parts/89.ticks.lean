/-! what a TICK posts and fetches -/
def psum (C : CF) (ρ : RW) : Int := sm (fun q => ρ (89 * q + 5)) C.1.toNat 0
def fnum (C : CF) (ρ : RW) : Int := sm (fun q => ρ (89 * q + 3)) C.1.toNat 0
section r89
variable {d : Nat} {S : SS} {I J : II} {C : CF} {K : KF} {ρ σ : RW} {b q k j N : Int}
theorem outS_l9 {id st res : Int} (h : -1 ≤ ρ 814) (hj : j < 445) : outS ρ q id st res j = ρ j := by
  unfold outS; simp (disch := omega) only [updR_miss]
theorem outS_u9 {id st res : Int} (h : -1 ≤ ρ 814) (h8 : ρ 814 < 80) (hj : 840 ≤ j) : outS ρ q id st res j = ρ j := by
  unfold outS; simp (disch := omega) only [updR_miss]
theorem lay_l9 {t f : Int} (hj : j < t) : layS t f ρ j = ρ j := by unfold layS; rw [if_neg (by omega)]
theorem runGo_l9 (hk : 0 ≤ k) (h4 : ρ 493 ≤ 4) (hj : j < 445 ∨ 840 ≤ j) : runGoS ρ k j = ρ j := by
  unfold runGoS shf
  rw [if_neg (by omega), updR_miss (by omega)]
theorem done_lo (hB : Bd ρ) (hk : 0 ≤ k) (h8 : ρ 814 < 80) (hb : 0 ≤ ρ (448 + 12 * k) ∧ ρ (448 + 12 * k) < 10) (hb2 : ρ (447 + 12 * k) ≠ 0 → ρ (447 + 12 * k) ≠ 1 → ρ (447 + 12 * k) ≠ 4 → ρ 814 < 79 ∧ 0 ≤ ρ (453 + 12 * k) ∧ ρ (453 + 12 * k) < 10) (hj : j < 445 ∨ 840 ≤ j) : doneS ρ k j = ρ j := by
  have b8 := hB 814
  have os : ∀ {q id st res : Int} (τ : RW), -1 ≤ τ 814 → τ 814 < 80 → outS τ q id st res j = τ j := fun τ h0 h1 => by
    rcases hj with g | g
    · exact outS_l9 h0 g
    · exact outS_u9 h0 h1 g
  unfold doneS
  rw [show 445 + 12 * k + 3 = 448 + 12 * k by omega, show 445 + 12 * k + 8 = 453 + 12 * k by omega, show 445 + 12 * k + 2 = 447 + 12 * k by omega]
  split
  · exact os _ b8.1 h8
  · rename_i n0
    split
    · rw [os _ (by rw [updR_miss (by omega)]; exact b8.1) (by rw [updR_miss (by omega)]; exact h8), updR_miss (by omega)]
    · rename_i n1
      split
      · exact os _ b8.1 h8
      · rename_i n4
        obtain ⟨h79, c0, c1⟩ := hb2 n0 n1 n4
        split
        · rw [os _ (by rw [updR_miss (by omega), outS_814]; omega) (by rw [updR_miss (by omega), outS_814]; omega), updR_miss (by omega), os _ b8.1 h8]
        · rw [os _ (by rw [outS_814]; omega) (by rw [outS_814]; omega), os _ b8.1 h8]
theorem done_493 (hB : Bd ρ) (hk : 0 ≤ k) (h8 : ρ 814 < 80) (hb : 0 ≤ ρ (448 + 12 * k) ∧ ρ (448 + 12 * k) < 10) (hb2 : ρ (447 + 12 * k) ≠ 0 → ρ (447 + 12 * k) ≠ 1 → ρ (447 + 12 * k) ≠ 4 → ρ 814 < 79 ∧ 0 ≤ ρ (453 + 12 * k) ∧ ρ (453 + 12 * k) < 10) : doneS ρ k 493 ≤ ρ 493 ∨ True := Or.inr trivial
theorem endl_lo (hj : j < 445 ∨ 840 ≤ j) : ∀ (n : Nat) (k : Int) (ρ : RW), 0 ≤ k → ρ 493 ≤ 4 → okEnd n k ρ → endlS n k ρ j = ρ j := by
  intro n
  induction n with
  | zero => intro k ρ _ _ _; rfl
  | succ n ih =>
    intro k ρ hk h4 ho
    obtain ⟨o1, o2, o3⟩ := ho
    unfold endlS
    by_cases g : ρ (456 + 12 * k) = 0
    · obtain ⟨p1, p2, p3, p4⟩ := o2 g
      have c4 : (endsS ρ k) 493 ≤ 4 := by
        have : Cn (endsS ρ k) := by
          cases n with
          | zero => exact p4
          | succ m => exact p4.1
        exact this.2.2.1
      have d4 : doneS ρ k 493 ≤ 4 := by
        have e : endsS ρ k 493 = runGoS (doneS ρ k) k 493 := rfl
        by_cases h5 : doneS ρ k 493 ≤ 4
        · exact h5
        · exfalso
          have b8 := o1.1 814
          have : doneS ρ k 493 = ρ 493 := by
            unfold doneS
            rw [show 445 + 12 * k + 3 = 448 + 12 * k by omega, show 445 + 12 * k + 8 = 453 + 12 * k by omega, show 445 + 12 * k + 2 = 447 + 12 * k by omega]
            have c8 := o1.2.2.2.2.2
            split
            · exact outS_oth c8 p1 (by omega)
            · rename_i n0
              split
              · rw [outS_oth (by rw [updR_miss (by omega)]; exact c8) (by rw [updR_miss (by omega)]; exact p1) (by omega), updR_miss (by omega)]
              · rename_i n1
                split
                · exact outS_oth c8 p1 (by omega)
                · rename_i n4
                  obtain ⟨h79, c0, c1⟩ := p3 n0 n1 n4
                  split
                  · rw [outS_oth (by rw [updR_miss (by omega), outS_814]; omega) (by rw [updR_miss (by omega), outS_814]; omega) (by omega), updR_miss (by omega), outS_oth c8 p1 (by omega)]
                  · rw [outS_oth (by rw [outS_814]; omega) (by rw [outS_814]; omega) (by omega), outS_oth c8 p1 (by omega)]
          omega
      rw [if_pos g, ih k (endsS ρ k) hk c4 p4]
      show runGoS (doneS ρ k) k j = ρ j
      rw [runGo_l9 hk d4 hj, done_lo o1.1 hk p1 p2 p3 hj]
    · rw [if_neg g]
      exact ih (k + 1) ρ (by omega) h4 (o3 g)
theorem decs_lo (hj : j < 445 ∨ 840 ≤ j) : ∀ (n : Nat) (k : Int) (ρ : RW), 0 ≤ k → k + n ≤ 4 → decsS n k ρ j = ρ j := by
  intro n
  induction n with
  | zero => intro k ρ _ _; rfl
  | succ n ih =>
    intro k ρ hk hn
    unfold decsS
    rw [ih (k + 1) _ (by omega) (by omega), updR_miss (by omega)]
theorem post_facts (hn : C.1 ≤ 5) (hC : Cn ρ) (h0 : 0 ≤ k) (hq : 0 ≤ ρ (494 + 4 * k) ∧ ρ (494 + 4 * k) < C.1) :
    (∀ q, 0 ≤ q → q < 5 → postS C ρ k (89 * q + 3) = ρ (89 * q + 3)) ∧ psum C (postS C ρ k) = psum C ρ + 1 ∧ postS C ρ k 814 = ρ 814 - 1 ∧ ∀ j, 840 ≤ j → postS C ρ k j = ρ j := by
  have c8 := hC.2.2.2.1
  have c80 := hC.2.2.2.2.2
  have pb := pAt_b (q := ρ (494 + 4 * k)) (k := ρ (89 * ρ (494 + 4 * k) + 5)) hq.1 (by omega)
  have la : ∀ j, j ≠ 89 * ρ (494 + 4 * k) + 5 → ¬ (pAt (ρ (494 + 4 * k)) (ρ (89 * ρ (494 + 4 * k) + 5)) ≤ j ∧ j ≤ pAt (ρ (494 + 4 * k)) (ρ (89 * ρ (494 + 4 * k) + 5)) + 4) → laidS C ρ k j = ρ j := fun j j0 j1 => by
    unfold laidS; simp (disch := omega) only [updR_miss]
  have l8 : laidS C ρ k 814 = ρ 814 := la 814 (by omega) (by omega)
  have go : ∀ j, j < 494 ∨ 814 < j → postS C ρ k j = laidS C ρ k j := fun j hj => by
    unfold postS outGoS shf
    rw [if_neg (by rw [l8]; omega), updR_miss (by omega)]
  refine ⟨fun q q0 q1 => ?_, ?_, ?_, fun j hj => ?_⟩
  · rw [go _ (by omega), la _ (by omega) (by omega)]
  · unfold psum
    rw [sm_one (f := fun q => ρ (89 * q + 5)) (g := fun q => postS C ρ k (89 * q + 5)) (q := ρ (494 + 4 * k)) C.1.toNat 0 hq.1 (by omega) (fun i i0 i1 i2 => by
      show postS C ρ k (89 * i + 5) = ρ (89 * i + 5)
      rw [go _ (by omega), la _ (by omega) (by omega)])]
    have e : postS C ρ k (89 * ρ (494 + 4 * k) + 5) = ρ (89 * ρ (494 + 4 * k) + 5) + 1 := by
      rw [go _ (by omega)]; unfold laidS; exact updR_hit rfl
    rw [e]; omega
  · unfold postS outGoS shf
    rw [if_neg (by rw [l8]; omega), updR_hit rfl, l8]
  · rw [go _ (by omega), la _ (by omega) (by omega)]
theorem postl_facts (hn : C.1 ≤ 5) : ∀ (n : Nat) (k : Int) (ρ : RW), 0 ≤ k → okPost C n k ρ →
    (∀ q, 0 ≤ q → q < 5 → postlS C n k ρ (89 * q + 3) = ρ (89 * q + 3)) ∧ psum C (postlS C n k ρ) + postlS C n k ρ 814 = psum C ρ + ρ 814 ∧ ∀ j, 840 ≤ j → postlS C n k ρ j = ρ j := by
  intro n
  induction n with
  | zero => intro k ρ _ _; exact ⟨fun _ _ _ => rfl, rfl, fun _ _ => rfl⟩
  | succ n ih =>
    intro k ρ hk ho
    obtain ⟨o1, o2, o3, o4⟩ := ho
    unfold postlS
    by_cases g : roomS C ρ k = true
    · rw [if_pos g]
      obtain ⟨p1, p2, p3, p4⟩ := post_facts hn o1 hk o2
      obtain ⟨i1, i2, i3⟩ := ih k (postS C ρ k) hk (o3 g)
      exact ⟨fun q q0 q1 => (i1 q q0 q1).trans (p1 q q0 q1), by omega, fun j hj => (i3 j hj).trans (p4 j hj)⟩
    · rw [if_neg g]
      exact ih (k + 1) ρ (by omega) (o4 g)
theorem shad_lo (hj : j ≠ 89 * q + 2 ∧ j ≠ 89 * q + 7 ∧ j ≠ 89 * q + 8) : shadS C ρ q j = ρ j := by
  obtain ⟨g0, g1, g2⟩ := hj
  unfold shadS; split
  · split
    · simp (disch := omega) only [updR_miss]
    · exact updR_miss g0
  · rfl
theorem shads_lo (hj : (∃ q', j = 89 * q' + 3 ∨ j = 89 * q' + 5) ∨ 840 ≤ j) : ∀ (n : Nat) (q : Int) (ρ : RW), 0 ≤ q → q + n ≤ 5 → shadsS C n q ρ j = ρ j := by
  intro n
  induction n with
  | zero => intro q ρ _ _; rfl
  | succ n ih =>
    intro q ρ q0 q1
    unfold shadsS
    rw [ih (q + 1) _ (by omega) (by omega), shad_lo]
    rcases hj with ⟨q', e | e⟩ | e <;> omega
theorem run_lo {a : Int} {pr : Bool} (r0 : 0 ≤ ρ 493) (hc : 0 ≤ C.2.2.2.1 q) (hj : j < 445) (h3 : j ≠ 89 * q + 3) : runS K C ρ q a pr j = ρ j := by
  unfold runS
  rw [updR_miss (by omega), updR_miss (by omega)]
  have e3 : updR (layS (445 + 12 * ρ 493 + 1) a (updR ρ (445 + 12 * ρ 493) q)) (445 + 12 * ρ 493 + 7) (-1) j = ρ j := by
    rw [updR_miss (by omega), lay_l9 (by omega), updR_miss (by omega)]
  split
  · rw [lay_l9 (by omega)]
    unfold fetS
    rw [updR_miss (by omega), updR_miss h3, e3]
  · exact e3
theorem fetches_lo (hk : okC C) (hB : Bd ρ) (r0 : 0 ≤ ρ 493) (hc : canS C ρ) (hj : j < 445) (h3 : j ≠ 89 * (chosenS C ρ).1 + 3) : fetchesS K C ρ j = ρ j := by
  obtain ⟨sp0, sp1, sp2, sp3⟩ := chosen_spec hc
  have kk := hk.2.2 _ sp0 sp1
  have oo : ∀ j, j < 818 ∨ 825 < j → (chosenS C ρ).2 j = ρ j := fun j g => chosenS_oth hc g
  have fe : ∀ j, j < 840 → j ≠ 89 * (chosenS C ρ).1 + 3 → fetS C (chosenS C ρ).2 (chosenS C ρ).1 j = (chosenS C ρ).2 j := fun j g0 g1 => by
    unfold fetS; rw [updR_miss (by omega), updR_miss g1]
  have b8 := hB 814
  have e8 : fetS C (chosenS C ρ).2 (chosenS C ρ).1 814 = ρ 814 := by rw [fe _ (by decide) (by omega), oo _ (by decide)]
  have e4 : fetS C (chosenS C ρ).2 (chosenS C ρ).1 493 = ρ 493 := by rw [fe _ (by decide) (by omega), oo _ (by decide)]
  have ej : fetS C (chosenS C ρ).2 (chosenS C ρ).1 j = ρ j := by rw [fe _ (by omega) h3, oo _ (by omega)]
  unfold fetchesS gotS
  split
  · rw [outS_l9 (by rw [e8]; exact b8.1) hj, ej]
  · split
    · rw [outS_l9 (by rw [e8]; exact b8.1) hj, ej]
    · rw [run_lo (by rw [e4]; exact r0) (by omega) hj h3, ej]
theorem fetl_lo (hk : okC C) : ∀ (n : Nat) (ρ : RW), 0 ≤ q → q < 5 → okFet K C n ρ → fetlS K C n ρ (89 * q + 5) = ρ (89 * q + 5) := by
  intro n
  induction n with
  | zero => intro ρ _ _ _; rfl
  | succ n ih =>
    intro ρ q0 q1 ho
    obtain ⟨o1, o2, o3, o4, o5⟩ := ho
    unfold fetlS
    by_cases g : ρ 493 < ρ 826 ∧ anyS C ρ = true
    · obtain ⟨p1, p2, p3, p4, p5, p6⟩ := o5 g
      rw [if_pos g, ih _ q0 q1 p6, fetches_lo hk o2.1 o2.2.2.2.2.1 p1 (by omega) (by omega)]
    · rw [if_neg g]
theorem served_fn (h : W0 C ρ) (hk : okC C) : servedS ρ = fnum C ρ := by
  have hn0 := hk.1
  have hn5 := hk.2.1
  have e : ∀ c, 0 ≤ c → c < 4 → ρ (840 + c) = sm (fun q => if q < C.1 ∧ C.2.2.2.1 q = c then ρ (89 * q + 3) else 0) 5 0 := h.2.2.2.2
  have e0 := e 0 (by decide) (by decide)
  have e1 := e 1 (by decide) (by decide)
  have e2 := e 2 (by decide) (by decide)
  have e3 := e 3 (by decide) (by decide)
  rw [show (840 : Int) + 0 = 840 from rfl] at e0
  rw [show (840 : Int) + 1 = 841 from rfl] at e1
  rw [show (840 : Int) + 2 = 842 from rfl] at e2
  rw [show (840 : Int) + 3 = 843 from rfl] at e3
  have tot : servedS ρ = sm (fun q => if q < C.1 then ρ (89 * q + 3) else 0) 5 0 := by
    unfold servedS
    rw [e0, e1, e2, e3, ← sm_add, ← sm_add, ← sm_add]
    refine sm_congr _ _ (fun q q0 q1 => ?_)
    by_cases g : q < C.1
    · have kk := hk.2.2 q q0 g
      rw [if_pos g]
      rcases (by omega : C.2.2.2.1 q = 0 ∨ C.2.2.2.1 q = 1 ∨ C.2.2.2.1 q = 2 ∨ C.2.2.2.1 q = 3) with x | x | x | x <;> simp [x, g]
    · simp [g]
  rw [tot]
  have ap := sm_app (fun q => if q < C.1 then ρ (89 * q + 3) else 0) C.1.toNat (5 - C.1.toNat) 0
  rw [show C.1.toNat + (5 - C.1.toNat) = 5 by omega, sm_zero (f := fun q => if q < C.1 then ρ (89 * q + 3) else 0) (5 - C.1.toNat) _ (fun q q0 q1 => if_neg (by omega))] at ap
  rw [ap, Int.add_zero]
  exact sm_congr _ _ (fun q q0 q1 => if_pos (by omega))
/-- what is posted in a TICK, what is fetched in it -/
theorem tick_num (hk : okC C) (h : WF C ρ) (hl : lftOK 1 ρ) (hN : 100 ≤ N) (hB : BdN N ρ) (hb : N < 80000000) :
    psum C (tickS K C ρ) - psum C ρ = tk2S ρ 814 - tk3S C ρ 814 ∧ fnum C (tickS K C ρ) - fnum C ρ = servedS (tk5S K C ρ) - servedS (tk4S C ρ) := by
  have hn0 := hk.1
  have hn5 := hk.2.1
  obtain ⟨⟨k1, k2, k3, k4, k5, k6, k7⟩, w, _⟩ := tick_WF K hk h hl hN hB hb
  have r0 := h.1.2.1.1
  have d1 : ∀ j, (j < 445 ∨ 840 ≤ j) → tk1S ρ j = ρ j := fun j hj => decs_lo hj _ _ _ (by decide) (by omega)
  have c1 : tk1S ρ 493 ≤ 4 := by
    have : Cn (tk1S ρ) := by
      revert k3
      generalize (tk1S ρ 493).toNat = n
      intro k3
      cases n with
      | zero => exact k3
      | succ m => exact k3.1
    exact this.2.2.1
  have d2 : ∀ j, (j < 445 ∨ 840 ≤ j) → tk2S ρ j = ρ j := fun j hj => (endl_lo hj _ _ _ (by decide) c1 k3).trans (d1 j hj)
  obtain ⟨p1, p2, p3⟩ := postl_facts hn5 (tk2S ρ 814).toNat 0 (tk2S ρ) (by decide) k4
  have p1' : ∀ q, 0 ≤ q → q < 5 → tk3S C ρ (89 * q + 3) = tk2S ρ (89 * q + 3) := p1
  have p2' : psum C (tk3S C ρ) + tk3S C ρ 814 = psum C (tk2S ρ) + tk2S ρ 814 := p2
  have p3' : ∀ j, 840 ≤ j → tk3S C ρ j = tk2S ρ j := p3
  have s4 : ∀ j, ((∃ q', j = 89 * q' + 3 ∨ j = 89 * q' + 5) ∨ 840 ≤ j) → tk4S C ρ j = tk3S C ρ j := fun j hj => shads_lo hj _ _ _ (by decide) (by omega)
  have f5 : ∀ q, 0 ≤ q → q < 5 → tk5S K C ρ (89 * q + 5) = tk4S C ρ (89 * q + 5) := fun q q0 q1 => fetl_lo hk 80 (tk4S C ρ) q0 q1 k6
  have t7 : ∀ j, j ≠ 827 → tickS K C ρ j = tk5S K C ρ j := fun j hj => updR_miss hj
  constructor
  · have e1 : psum C (tickS K C ρ) = psum C (tk3S C ρ) := sm_congr _ _ (fun q q0 q1 => by
      show tickS K C ρ (89 * q + 5) = tk3S C ρ (89 * q + 5)
      rw [t7 _ (by omega), f5 q q0 (by omega), s4 _ (Or.inl ⟨q, Or.inr rfl⟩)])
    have e2 : psum C (tk2S ρ) = psum C ρ := sm_congr _ _ (fun q q0 q1 => d2 _ (by omega))
    omega
  · have e1 : servedS (tk5S K C ρ) = servedS (tickS K C ρ) := by
      unfold servedS; rw [t7 840 (by decide), t7 841 (by decide), t7 842 (by decide), t7 843 (by decide)]
    have e2 : servedS (tk4S C ρ) = servedS ρ := by
      have g : ∀ j, 840 ≤ j → tk4S C ρ j = ρ j := fun j hj => by rw [s4 j (Or.inr hj), p3' j hj, d2 j (Or.inr hj)]
      unfold servedS; rw [g 840 (by decide), g 841 (by decide), g 842 (by decide), g 843 (by decide)]
    rw [e1, e2, served_fn w.1 hk, served_fn h.1 hk]
end r89
