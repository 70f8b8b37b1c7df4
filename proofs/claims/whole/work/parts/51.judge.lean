/-! gos, one by one -/
def sdA (C : Cmp) : Nat → Nat
  | 0 => 0
  | i + 1 => sdA C i ^^^ caGs C i
def frA (C : Cmp) : Nat → Nat
  | 0 => 0
  | i + 1 => caGm C i + tmS C (caGs C i)
noncomputable def whyG (C : Cmp) (i : Nat) : Nat := if caGm C i < frA C i then 1 else cif (oneS (caGs C i) (sdA C i)) (whyS C (caGs C i) (caGm C i) (ntA C (caGm C i))) 2
theorem whyG_lt (C : Cmp) (i : Nat) : whyG C i < 7 := by
  unfold whyG
  split
  · decide
  · by_cases h : oneS (caGs C i) (sdA C i)
    · rw [cif_t h]; exact whyS_lt
    · rw [cif_f h]; decide
theorem sdA_lt {C : Cmp} (hC : Good C) : ∀ i, i ≤ caG C → sdA C i < 64 := by
  intro i
  induction i with
  | zero => intro _; show 0 < 64; decide
  | succ i ih =>
    intro hi
    exact lt64_xor (ih (by omega)) (Nat.lt_of_lt_of_le (hC.gs (g := i) (by omega)).2 (pw_le hC.p.n))
theorem frA_lt {C : Cmp} (hC : Good C) : ∀ i, i ≤ caG C → frA C i ≤ 300 := by
  intro i
  cases i with
  | zero => intro _; exact Nat.zero_le _
  | succ i =>
    intro hi
    have h1 := (hC.gs (g := i) (by omega)).1
    have h2 := tmS_le hC.p (caGs C i)
    show caGm C i + tmS C (caGs C i) ≤ 300
    omega
def IsJd (C : Cmp) (v : Int32) (sd : Nat) : Prop := (∃ i, i < caG C ∧ whyG C i ≠ 0 ∧ (∀ j, j < i → whyG C j = 0) ∧ v = nI (10 * i + whyG C i) ∧ sd = sdA C i) ∨ ((∀ j, j < caG C → whyG C j = 0) ∧ v = -1 ∧ sd = sdA C (caG C))
theorem IsJd.uniq {C : Cmp} {v w : Int32} {s r : Nat} (h : IsJd C v s) (g : IsJd C w r) : v = w ∧ s = r := by
  rcases h with ⟨i, h1, h2, h3, h4, h5⟩ | ⟨h1, h2, h3⟩ <;> rcases g with ⟨j, g1, g2, g3, g4, g5⟩ | ⟨g1, g2, g3⟩
  · have e1 : ¬ i < j := fun h => h2 (g3 i h)
    have e2 : ¬ j < i := fun h => g2 (h3 j h)
    obtain rfl : i = j := by omega
    rw [h4, g4, h5, g5]
    exact ⟨rfl, rfl⟩
  · exact absurd (g1 i h1) h2
  · exact absurd (h1 j g1) g2
  · rw [h2, g2, h3, g3]
    exact ⟨rfl, rfl⟩
theorem r_judge {M : MS} {C : Cmp} (hM : RM M C) (hC : Good C) : ∃ v M' sd, f_X11_judge M = some (v, M') ∧ (∀ j, j < 4 → M' j = M j) ∧ M' 13 0 = nI sd ∧ IsJd C v sd := by
  obtain ⟨M1, e1, p1, p2⟩ := r_carryNothing M
  have hg := hC.g
  unfold f_X11_judge
  rw [e1, Option.bind_some, Option.bind_some]
  have hlp := lp_for (b := fun q => b_X11_judge_13 q.1 q.2.1 q.2.2) (caG C) (fun i q => q.1 = nI (frA C i) ∧ q.2.1 = nI i ∧ (∀ j, j < 4 → q.2.2 j = M j) ∧ Z4 q.2.2 ∧ q.2.2 13 0 = nI (sdA C i) ∧ ∀ j, j < i → whyG C j = 0) (fun r => ∃ sd, (∀ j, j < 4 → r.2 j = M j) ∧ r.2 13 0 = nI sd ∧ IsJd C r.1 sd) ?_ ?_ (F := FU) (i := 0) (s := (0, 0, va_up M1 13 (fun _ => 0))) ⟨rfl, rfl, fun j hj => (up_n _ _ (by omega)).trans (p1 j (by omega)), p2, rfl, fun j h => by omega⟩ (Nat.zero_le _) (FU_gt (by omega))
  · obtain ⟨r, e, sd, q⟩ := hlp
    exact ⟨r.1, r.2, sd, e, q⟩
  · rintro ⟨q1, q2, q3⟩ ⟨h0, h1, h2, h3, h4, h5⟩
    have h1 : q2 = nI (caG C) := h1
    subst h1
    refine ⟨(-1, q3), ?_, sdA C (caG C), h2, h4, Or.inr ⟨h5, rfl, rfl⟩⟩
    show b_X11_judge_13 q1 (nI (caG C)) q3 = _
    unfold b_X11_judge_13
    rw [ln275, q_rd (by decide) (by decide), Option.bind_some, show q3 0 = M 0 from h2 0 (by decide), hM.g, if_pos (nI_le (Nat.le_refl _) (by omega))]
  · rintro i ⟨q1, q2, q3⟩ hi ⟨h0, h1, h2, h3, h4, h5⟩
    have h0 : q1 = nI (frA C i) := h0
    have h1 : q2 = nI i := h1
    subst h0 h1
    have h2 : ∀ j, j < 4 → q3 j = M j := h2
    have h4 : q3 13 0 = nI (sdA C i) := h4
    have hM3 : RM q3 C := by unfold RM; rw [h2 0 (by decide)]; exact hM
    obtain ⟨g1, g2⟩ := hC.gs hi
    have g3 : caGs C i < 64 := Nat.lt_of_lt_of_le g2 (pw_le hC.p.n)
    have hsd := sdA_lt hC i (by omega)
    have hfr := frA_lt hC i (by omega)
    have ha := Nat.lt_of_le_of_lt (Nat.and_le_left (n := sdA C i) (m := caGs C i)) hsd
    have hwl := whyG_lt C i
    show (∃ s', b_X11_judge_13 (nI (frA C i)) (nI i) q3 = _ ∧ _) ∨ (∃ r, b_X11_judge_13 (nI (frA C i)) (nI i) q3 = _ ∧ _)
    have key : ∀ w, w = whyG C i → (∃ s', j_X11_judge_106 (nI i) q3 (nI (caGm C i)) (nI (caGs C i)) (nI w) = some (Sum.inl s') ∧ (s'.1 = nI (frA C (i + 1)) ∧ s'.2.1 = nI (i + 1) ∧ (∀ j, j < 4 → s'.2.2 j = M j) ∧ Z4 s'.2.2 ∧ s'.2.2 13 0 = nI (sdA C (i + 1)) ∧ ∀ j, j < i + 1 → whyG C j = 0)) ∨ (∃ r, j_X11_judge_106 (nI i) q3 (nI (caGm C i)) (nI (caGs C i)) (nI w) = some (Sum.inr r) ∧ ∃ sd, (∀ j, j < 4 → r.2 j = M j) ∧ r.2 13 0 = nI sd ∧ IsJd C r.1 sd) := by
      intro w hw
      unfold j_X11_judge_106
      rw [ln0, i_le (by omega) (by omega)]
      by_cases hw0 : w ≤ 0
      · rw [if_pos hw0, r_timeOfSet hM3.q hC.p g3, Option.bind_some, nI_add, Option.bind_some, Option.bind_some, Option.bind_some, nI_1, h4, q_xor]
        refine Or.inl ⟨_, rfl, rfl, rfl, fun j hj => (up_n _ _ (by omega)).trans (h2 j hj), h3, rfl, fun j hj => ?_⟩
        rcases Nat.lt_or_ge j i with h8 | h8
        · exact h5 j h8
        · obtain rfl : j = i := by omega
          omega
      · rw [if_neg hw0, ln10, pk_mul, nI_add]
        refine Or.inr ⟨_, rfl, sdA C i, h2, h4, Or.inl ⟨i, hi, by omega, h5, by rw [hw], rfl⟩⟩
    unfold b_X11_judge_13 j_X11_judge_74 j_X11_judge_79
    rw [ln275, q_rd (by decide) (by decide), Option.bind_some, hM3.g, i_le (by omega) (by omega), if_neg (by omega), ln28, ln2, pk_mul, nI_add, q_rd (by omega) (by decide), Option.bind_some, (hM3.gs hi).1, ln1, nI_add, q_rd (by omega) (by decide), Option.bind_some, (hM3.gs hi).2, h4, q_and, ln0, r_whyNot hM3.q hC.p h3 g2 (by omega), Option.bind_some, if_neg (show ¬ nI 1 = nI 0 by decide), if_pos (show nI 0 = nI 0 from rfl), i_eq (by omega) (by omega), i_eq (by omega) (by omega)]
    simp (disch := omega) only [q_le]
    by_cases hf : frA C i ≤ caGm C i
    · rw [if_pos hf, if_pos hf]
      have e0 : whyG C i = cif (oneS (caGs C i) (sdA C i)) (whyS C (caGs C i) (caGm C i) (ntA C (caGm C i))) 2 := by
        unfold whyG
        rw [if_neg (by omega)]
      by_cases hz1 : sdA C i &&& caGs C i = 0
      · rw [if_pos hz1]
        exact key _ (by rw [e0, cif_t (show oneS (caGs C i) (sdA C i) from Or.inl (by rw [Nat.and_comm]; exact hz1))])
      · rw [if_neg hz1]
        by_cases hz2 : sdA C i &&& caGs C i = caGs C i
        · rw [if_pos hz2]
          exact key _ (by rw [e0, cif_t (show oneS (caGs C i) (sdA C i) from Or.inr (by rw [Nat.and_comm]; exact hz2))])
        · rw [if_neg hz2]
          exact key 2 (by rw [e0, cif_f (fun h => h.elim (fun h => hz1 (by rw [Nat.and_comm]; exact h)) (fun h => hz2 (by rw [Nat.and_comm]; exact h)))])
    · rw [if_neg hf, if_neg hf]
      have e0 : whyG C i = 1 := by
        unfold whyG
        rw [if_pos (by omega)]
      repeat' split
      all_goals exact key 1 e0.symm
theorem c_whyNoGo {S : CS} {C : Cmp} (hS : RC S C) (hC : Good C) {i : Nat} (hi : i < caG C) : f_X1_whyNoGo_3 S (nI i) (nI (sdA C i)) (nI (frA C i)) = some (nI (whyG C i)) := by
  have hg := hC.g
  obtain ⟨g1, g2⟩ := hC.gs hi
  have g3 : caGs C i < 64 := Nat.lt_of_lt_of_le g2 (pw_le hC.p.n)
  have hsd := sdA_lt hC i (by omega)
  have hfr := frA_lt hC i (by omega)
  unfold f_X1_whyNoGo_3 whyG
  rw [q_rd (by omega) (by decide), Option.bind_some, (hS.gs hi).1, i_le (by omega) (by omega), q_rd (by omega) (by decide), Option.bind_some, (hS.gs hi).2, c_isOnOneSide g3 hsd, Option.bind_some, Option.bind_some, Option.bind_some, Option.bind_some, c_isNight hS.q hC.p (by omega), Option.bind_some, c_whyNot hS.q hC.p g2 (by omega) (ntA_lt _ _), Option.bind_some]
  by_cases hf : frA C i ≤ caGm C i
  · rw [if_pos hf, if_neg (c := caGm C i < frA C i) (by omega)]
    by_cases ho : oneS (caGs C i) (sdA C i)
    · rw [oneI_t ho, if_neg (by decide), cif_t ho]
    · rw [oneI_f ho, if_pos (by decide), cif_f ho]; rfl
  · rw [if_neg hf, if_pos (c := caGm C i < frA C i) (by omega)]; rfl
theorem c_firstNoGo {S : CS} {C : Cmp} (hS : RC S C) (hC : Good C) : ∃ v sd, f_X1_firstNoGo_3 S = some v ∧ IsJd C v sd := by
  have hg := hC.g
  unfold f_X1_firstNoGo_3
  have hlp := lp_for (b := fun q => b_X1_firstNoGo_3_6 S q.1 q.2.1 q.2.2) (caG C) (fun i q => q = (nI (sdA C i), nI (frA C i), nI i) ∧ ∀ j, j < i → whyG C j = 0) (fun r => ∃ sd, IsJd C r sd) ?_ ?_ (F := FU) (i := 0) (s := (0, 0, 0)) ⟨rfl, fun j h => by omega⟩ (Nat.zero_le _) (FU_gt (by omega))
  · obtain ⟨r, e, sd, q⟩ := hlp
    exact ⟨r, sd, e, q⟩
  · rintro q ⟨rfl, h5⟩
    refine ⟨-1, ?_, sdA C (caG C), Or.inr ⟨h5, rfl, rfl⟩⟩
    show b_X1_firstNoGo_3_6 S (nI (sdA C (caG C))) (nI (frA C (caG C))) (nI (caG C)) = _
    unfold b_X1_firstNoGo_3_6
    rw [hS.g, if_pos (nI_le (Nat.le_refl _) (by omega))]
  · rintro i q hi ⟨rfl, h5⟩
    obtain ⟨g1, g2⟩ := hC.gs hi
    have g3 : caGs C i < 64 := Nat.lt_of_lt_of_le g2 (pw_le hC.p.n)
    have hwl := whyG_lt C i
    show (∃ s', b_X1_firstNoGo_3_6 S (nI (sdA C i)) (nI (frA C i)) (nI i) = _ ∧ _) ∨ (∃ r, b_X1_firstNoGo_3_6 S (nI (sdA C i)) (nI (frA C i)) (nI i) = _ ∧ _)
    unfold b_X1_firstNoGo_3_6
    rw [hS.g, i_le (by omega) (by omega), if_neg (by omega), c_whyNoGo hS hC hi, Option.bind_some, ln0, i_eq (by omega) (by omega)]
    by_cases hw : whyG C i = 0
    · rw [if_pos hw, q_rd (by omega) (by decide), Option.bind_some, (hS.gs hi).2, q_xor, Option.bind_some, q_rd (by omega) (by decide), Option.bind_some, (hS.gs hi).1, Option.bind_some, c_minutesOf hS.q hC.p g3, Option.bind_some, nI_add, Option.bind_some, Option.bind_some, nI_1]
      refine Or.inl ⟨_, rfl, rfl, fun j hj => ?_⟩
      rcases Nat.lt_or_ge j i with h8 | h8
      · exact h5 j h8
      · obtain rfl : j = i := by omega
        exact hw
    · rw [if_neg hw, ln10, pk_mul, nI_add]
      exact Or.inr ⟨_, rfl, sdA C i, Or.inl ⟨i, hi, hw, h5, rfl, rfl⟩⟩
theorem c_there {S : CS} {C : Cmp} (hS : RC S C) (hC : Good C) : ∃ v sd, f_X10_there_0 S = some (nI sd) ∧ IsJd C v sd := by
  have hg := hC.g
  obtain ⟨v, sd, e, h⟩ := c_firstNoGo hS hC
  have hJ : ∀ i, i ≤ caG C → j_X10_there_0_27 S (nI i) = some (nI (sdA C i)) := by
    intro i hi
    unfold j_X10_there_0_27
    have h1 := lp_seq (b := fun q => b_X10_there_0_33 S (nI i) q.1 q.2) i (fun j => (nI (sdA C j), nI j)) (nI (sdA C i)) ?_ ?_ (F := FU) (FU_gt (by omega))
    · rw [show ((0 : Int32), (0 : Int32)) = (nI (sdA C 0), nI 0) from rfl, h1]
      rfl
    · intro j hj
      show b_X10_there_0_33 S (nI i) (nI (sdA C j)) (nI j) = _
      unfold b_X10_there_0_33
      rw [i_le (by omega) (by omega), if_neg (by omega), ln20, i_le (by omega) (by omega), if_neg (by omega), q_rd (by omega) (by decide), Option.bind_some, (hS.gs (g := j) (by omega)).2, q_xor, Option.bind_some, Option.bind_some, nI_1]
      rfl
    · show b_X10_there_0_33 S (nI i) (nI (sdA C i)) (nI i) = _
      unfold b_X10_there_0_33
      rw [if_pos (nI_le (Nat.le_refl _) (by omega))]
  unfold f_X10_there_0
  rw [e, Option.bind_some]
  refine ⟨v, sd, ?_, h⟩
  rcases h with ⟨i, h1, h2, h3, h4, h5⟩ | ⟨h1, h2, h3⟩
  · have hw := whyG_lt C i
    rw [h4, h5, if_neg (fun h => m1_ne (by omega) h.symm)]
    unfold dvI
    rw [if_neg (by decide), Option.bind_some, ln10, pk_div (by omega) (by decide) (by decide), show (10 * i + whyG C i) / 10 = i from by omega]
    exact hJ i (by omega)
  · rw [h2, h3, if_pos (by rfl), hS.g]
    exact hJ _ (Nat.le_refl _)
