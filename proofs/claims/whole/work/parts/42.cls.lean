/-! the class' camp -/
section
variable {S : CS} {C : Cmp}
theorem c_u (hS : RCp S C) {i : Nat} (hi : i < 4) : rdI 4 (S.1 5) (nI i) = some (nI (caU C i)) := by rw [q_rd hi (by decide), hS.u hi]
theorem c_p (hS : RCp S C) (hC : Gp C) {p : Nat} (hp : p < caN C) : rdP (S.2.2 0) (nI p) = some (nI (caW C p), nI (caT C p), nI (caH C p), nI (caK C p)) := by
  have := hC.n
  rw [q_rdP (by omega), hS.p hp]
theorem c_isNight (hS : RCp S C) (hC : Gp C) {t : Nat} (ht : t < 2147483648) : f_X1_isNight_3 S (nI t) = some (nI (ntA C t)) := by
  have := hC.u
  unfold f_X1_isNight_3 ntA
  rw [ln3, c_u hS (by decide), Option.bind_some, i_lt ht (by omega)]
  repeat' split
  all_goals first | rfl | omega
theorem c_weightOf (hS : RCp S C) (hC : Gp C) {p t : Nat} (hp : p < caN C) (ht : t < 2147483648) : f_X1_weightOf_3 S (nI p) (nI t) = some (nI (wtA C p t)) := by
  have hk := hC.k hp
  have hu := hC.u
  unfold f_X1_weightOf_3 v_weightFor f_X6_weightFor f_X3_weightFor
  rw [c_p hS hC hp, ln1, c_u hS (by decide), ln2, c_u hS (by decide)]
  simp (disch := omega) only [Option.bind_some, ln0, ln3, ln4, ln5, q_eq, q_lt, nI_add, if_true]
  unfold wtA
  repeat' split
  all_goals first | rfl | omega
theorem c_minutes (hC : Gp C) {p : Nat} (hp : p < caN C) : v_minutes (nI (caW C p), nI (caT C p), nI (caH C p), nI (caK C p)) = some (nI (tmO C p)) := by
  have hk := hC.k hp
  unfold v_minutes f_X4_minutes f_X6_minutes
  simp (disch := omega) only [ln1, ln2, ln3, ln4, ln5, q_eq, pk_mul]
  unfold tmO
  repeat' split
  all_goals first | rfl | omega
theorem c_hasPorterIn {s p : Nat} (hs : s < 2147483648) (hp : p < 31) : f_X10_hasPorterIn (nI s) (nI p) = some (nI (bN s p)) := by
  have hb := bN_lt s p
  unfold f_X10_hasPorterIn
  rw [ln1, ln31, q_bit hs hp, ln0, i_eq (by omega) (by omega)]
  split
  · next h => rw [h]
  · next h => rw [show bN s p = 1 from by omega]
theorem c_minutesOf (hS : RCp S C) (hC : Gp C) {s : Nat} (hs : s < 64) : f_X1_minutesOf_3 S (nI s) = some (nI (tmS C s)) := by
  have hc := hC.n
  unfold f_X1_minutesOf_3
  have h := lp_seq (b := fun q => b_X1_minutesOf_3_4 S (nI s) q.1 q.2) (caN C) (fun i => (nI (mxT C s i), nI i)) (nI (tmS C s)) ?_ ?_ (F := FU) (FU_gt (by omega))
  · rw [show ((0 : Int32), (0 : Int32)) = (nI (mxT C s 0), nI 0) from rfl, h]
    rfl
  · intro i hi
    show b_X1_minutesOf_3_4 S (nI s) (nI (mxT C s i)) (nI i) = some (Sum.inl (nI (mxT C s (i + 1)), nI (i + 1)))
    have hb := bN_lt s i
    have hm := mxT_le hC s i (by omega)
    have ht := tmO_lt hC hi
    unfold b_X1_minutesOf_3_4
    rw [hS.n, c_hasPorterIn (by omega) (by omega), c_p hS hC hi]
    simp (disch := omega) only [Option.bind_some, c_minutes hC hi, ln0, ln1, q_le, q_eq, q_lt, nI_add]
    rw [if_neg (by omega)]
    rw [mxT_s]
    repeat' split
    all_goals first | rfl | omega
  · show b_X1_minutesOf_3_4 S (nI s) (nI (tmS C s)) (nI (caN C)) = _
    unfold b_X1_minutesOf_3_4
    rw [hS.n, if_pos (nI_le (Nat.le_refl _) (by omega))]
theorem c_hireOf (hS : RCp S C) (hC : Gp C) {s : Nat} (hs : s < 64) : f_X1_hireOf_3 S (nI s) = some (nI (hrS C s)) := by
  have hc := hC.n
  unfold f_X1_hireOf_3
  have h := lp_seq (b := fun q => b_X1_hireOf_3_4 S (nI s) q.1 q.2) (caN C) (fun i => (nI (smH C s i), nI i)) (nI (hrS C s)) ?_ ?_ (F := FU) (FU_gt (by omega))
  · rw [show ((0 : Int32), (0 : Int32)) = (nI (smH C s 0), nI 0) from rfl, h]
    rfl
  · intro i hi
    show b_X1_hireOf_3_4 S (nI s) (nI (smH C s i)) (nI i) = some (Sum.inl (nI (smH C s (i + 1)), nI (i + 1)))
    have hb := bN_lt s i
    unfold b_X1_hireOf_3_4
    rw [hS.n, c_hasPorterIn (by omega) (by omega), c_p hS hC hi]
    simp (disch := omega) only [Option.bind_some, ln0, ln1, q_le, q_eq, nI_add]
    rw [if_neg (by omega)]
    rw [smH_s]
    repeat' split
    all_goals first | rfl | omega
  · show b_X1_hireOf_3_4 S (nI s) (nI (hrS C s)) (nI (caN C)) = _
    unfold b_X1_hireOf_3_4
    rw [hS.n, if_pos (nI_le (Nat.le_refl _) (by omega))]
theorem c_isNeverSo (hC : Gp C) {p s nt : Nat} (hp : p < caN C) (hs : s < 64) (hn : nt < 2) : v_isNeverSo (nI (caW C p), nI (caT C p), nI (caH C p), nI (caK C p)) (nI p) (nI s) (nI nt) = some (nI (oneI (nev C p s nt))) := by
  have hk := hC.k hp
  have hc := hC.n
  unfold v_isNeverSo f_X6_isNeverSo f_X9_isNeverSo f_X0_isNeverSo
  rw [q_zr hn]
  by_cases h0 : p = 0
  · subst h0
    simp (disch := omega) only [Option.bind_some, ln0, ln1, ln2, ln3, ln4, ln5, q_eq, q_lt]
    rw [if_pos (c := 0 < 1) (by decide)]
    repeat' split
    all_goals first | omega | (rw [oneI_t (by unfold nev; omega)]) | (rw [oneI_f (by unfold nev; omega)]) | (rcases (show nt = 0 ∨ nt = 1 from by omega) with h | h <;> subst h <;> first | (rw [oneI_f (by unfold nev; omega)]) | (rw [oneI_t (by unfold nev; omega)]))
  · have hb := bN_lt s (p - 1)
    simp (disch := omega) only [Option.bind_some, ln0, ln1, ln2, ln3, ln4, ln5, q_eq, q_lt, q_sub, c_hasPorterIn]
    rw [if_neg (c := p < 1) (by omega)]
    repeat' split
    all_goals first | omega | (rw [oneI_t (by unfold nev; omega)]) | (rw [oneI_f (by unfold nev; omega)]) | (rcases (show nt = 0 ∨ nt = 1 from by omega) with h | h <;> subst h <;> first | (rw [oneI_f (by unfold nev; omega)]) | (rw [oneI_t (by unfold nev; omega)]))
theorem c_hasNeverSo (hS : RCp S C) (hC : Gp C) {s nt : Nat} (hs : s < 64) (hn : nt < 2) : f_X1_hasNeverSo_3 S (nI s) (nI nt) = some (nI (oneI (anv C s nt))) := by
  have hc := hC.n
  unfold f_X1_hasNeverSo_3
  have hlp := lp_for (b := fun q => b_X1_hasNeverSo_3_2 S (nI s) (nI nt) q) (caN C) (fun i q => q = nI i ∧ ∀ p, p < i → ¬ (bN s p = 1 ∧ nev C p s nt)) (fun r => r = nI (oneI (anv C s nt))) ?_ ?_ (F := FU) (i := 0) (s := 0) ⟨rfl, fun p h => absurd h (Nat.not_lt_zero p)⟩ (Nat.zero_le _) (FU_gt (by omega))
  · obtain ⟨r, h1, h2⟩ := hlp
    rw [h1, h2]
  · rintro q ⟨rfl, h⟩
    refine ⟨nI 0, ?_, ?_⟩
    · show b_X1_hasNeverSo_3_2 S (nI s) (nI nt) (nI (caN C)) = _
      unfold b_X1_hasNeverSo_3_2
      rw [hS.n, if_pos (nI_le (Nat.le_refl _) (by omega))]
      rfl
    · rw [oneI_f (fun ⟨p, h3, h4⟩ => h p h3 h4)]
  · rintro i q hi ⟨rfl, h⟩
    have hb := bN_lt s i
    show (∃ s', b_X1_hasNeverSo_3_2 S (nI s) (nI nt) (nI i) = _ ∧ _) ∨ (∃ r, b_X1_hasNeverSo_3_2 S (nI s) (nI nt) (nI i) = _ ∧ _)
    have e : b_X1_hasNeverSo_3_2 S (nI s) (nI nt) (nI i) = if bN s i = 0 then some (Sum.inl (nI (i + 1))) else if oneI (nev C i s nt) = 0 then some (Sum.inl (nI (i + 1))) else some (Sum.inr (nI 1)) := by
      have ho := oneI_lt (nev C i s nt)
      unfold b_X1_hasNeverSo_3_2
      rw [hS.n, c_hasPorterIn (by omega) (by omega), c_p hS hC hi]
      simp only [Option.bind_some]
      rw [c_isNeverSo hC hi hs hn, Option.bind_some, i_le (by omega) (by omega), if_neg (by omega), ln0, ln1, nI_add, i_eq (by omega) (by omega), i_eq (by omega) (by omega)]
    rw [e]
    by_cases h0 : bN s i = 0
    · rw [if_pos h0]
      refine Or.inl ⟨_, rfl, rfl, fun p hp hh => ?_⟩
      rcases Nat.lt_or_ge p i with h3 | h3
      · exact h p h3 hh
      · obtain rfl : p = i := by omega
        omega
    · rw [if_neg h0]
      by_cases h1 : nev C i s nt
      · rw [oneI_t h1, if_neg (by decide)]
        exact Or.inr ⟨_, rfl, by rw [oneI_t (show anv C s nt from ⟨i, hi, by omega, h1⟩)]⟩
      · rw [oneI_f h1, if_pos (by rfl)]
        refine Or.inl ⟨_, rfl, rfl, fun p hp hh => ?_⟩
        rcases Nat.lt_or_ge p i with h3 | h3
        · exact h p h3 hh
        · obtain rfl : p = i := by omega
          exact h1 hh.2
theorem c_hasGuide (hS : RCp S C) (hC : Gp C) {s : Nat} (hs : s < 64) : f_X1_hasGuide_3 S (nI s) = some (nI (oneI (∃ p, p < caN C ∧ bN s p = 1 ∧ caK C p = 5))) := by
  have hc := hC.n
  unfold f_X1_hasGuide_3
  have hlp := lp_for (b := fun q => b_X1_hasGuide_3_2 S (nI s) q) (caN C) (fun i q => q = nI i ∧ ∀ p, p < i → ¬ (bN s p = 1 ∧ caK C p = 5)) (fun r => r = nI (oneI (∃ p, p < caN C ∧ bN s p = 1 ∧ caK C p = 5))) ?_ ?_ (F := FU) (i := 0) (s := 0) ⟨rfl, fun p h => absurd h (Nat.not_lt_zero p)⟩ (Nat.zero_le _) (FU_gt (by omega))
  · obtain ⟨r, h1, h2⟩ := hlp
    rw [h1, h2]
  · rintro q ⟨rfl, h⟩
    refine ⟨nI 0, ?_, ?_⟩
    · show b_X1_hasGuide_3_2 S (nI s) (nI (caN C)) = _
      unfold b_X1_hasGuide_3_2
      rw [hS.n, if_pos (nI_le (Nat.le_refl _) (by omega))]
      rfl
    · rw [oneI_f (fun ⟨p, h3, h4⟩ => h p h3 h4)]
  · rintro i q hi ⟨rfl, h⟩
    have hb := bN_lt s i
    have hk := hC.k hi
    show (∃ s', b_X1_hasGuide_3_2 S (nI s) (nI i) = _ ∧ _) ∨ (∃ r, b_X1_hasGuide_3_2 S (nI s) (nI i) = _ ∧ _)
    have eg : v_isGuide (nI (caW C i), nI (caT C i), nI (caH C i), nI (caK C i)) = some (if caK C i = 5 then nI 1 else nI 0) := by
      unfold v_isGuide f_X6_isGuide f_X2_isGuide
      simp (disch := omega) only [ln0, ln1, ln2, ln3, ln4, ln5, q_eq]
      repeat' split
      all_goals first | rfl | omega
    have e : b_X1_hasGuide_3_2 S (nI s) (nI i) = if bN s i = 0 then some (Sum.inl (nI (i + 1))) else if caK C i = 5 then some (Sum.inr (nI 1)) else some (Sum.inl (nI (i + 1))) := by
      unfold b_X1_hasGuide_3_2
      rw [hS.n, c_hasPorterIn (by omega) (by omega), c_p hS hC hi]
      simp only [Option.bind_some]
      rw [eg, Option.bind_some, i_le (by omega) (by omega), if_neg (by omega), ln0, ln1, nI_add, i_eq (by omega) (by omega)]
      by_cases h5 : caK C i = 5
      · rw [if_pos h5, if_pos h5, if_neg (c := nI 1 = nI 0) (by decide)]
      · rw [if_neg h5, if_neg h5, if_pos (c := nI 0 = nI 0) rfl]
    rw [e]
    by_cases h0 : bN s i = 0
    · rw [if_pos h0]
      refine Or.inl ⟨_, rfl, rfl, fun p hp hh => ?_⟩
      rcases Nat.lt_or_ge p i with h3 | h3
      · exact h p h3 hh
      · obtain rfl : p = i := by omega
        omega
    · rw [if_neg h0]
      by_cases h1 : caK C i = 5
      · rw [if_pos h1]
        exact Or.inr ⟨_, rfl, by rw [oneI_t (⟨i, hi, by omega, h1⟩ : ∃ p, p < caN C ∧ bN s p = 1 ∧ caK C p = 5)]⟩
      · rw [if_neg h1]
        refine Or.inl ⟨_, rfl, rfl, fun p hp hh => ?_⟩
        rcases Nat.lt_or_ge p i with h3 | h3
        · exact h p h3 hh
        · obtain rfl : p = i := by omega
          exact h1 hh.2
theorem q_dif2 {a b g : Nat} (ha : a < 1000) (hb : b < 1000) (hg : g < 1000) : (nI g ≤ (if (0 : Int32) ≤ nI a - nI b then nI a - nI b else 0 - (nI a - nI b))) = (g ≤ (if b ≤ a then a - b else b - a)) := by
  by_cases h : b ≤ a
  · rw [pk_sub h, if_pos (nI_pos' (by omega)), q_le (by omega) (by omega), if_pos h]
  · have e : nI a - nI b = -nI (b - a) := by rw [← pk_sub (by omega : a ≤ b), Int32.neg_sub]
    rw [if_neg h, e, if_neg (by
      rw [Int32.le_iff_toInt_le, ← e, pk_sub_toInt (by omega) (by omega)]
      have : (0 : Int32).toInt = 0 := rfl
      omega), Int32.zero_sub, Int32.neg_neg, q_le (by omega) (by omega)]
theorem c_isUnlikeEnough (hS : RCp S C) (hC : Gp C) {s t : Nat} (hs : s < 2 ^ caN C) (h2 : pcn s = 2) (ht : t < 2147483648) : f_X1_isUnlikeEnough_3 S (nI s) (nI t) = some (nI (oneI (unl C (fs1 s) (fs2 s) t 0 0))) := by
  have hc := hC.n
  have hu := hC.u
  have hs6 : s < 64 := Nat.lt_of_lt_of_le hs (pw_le hc)
  obtain ⟨_, _, g1, g2, g3, g4, _, g6⟩ := q_pair s hs6 h2
  have ga := q_bitn _ hc s hs _ (by omega) g3
  have gb := q_bitn _ hc s hs _ (by omega) g4
  have hwa := wtA_lt hC (t := t) ga
  have hwb := wtA_lt hC (t := t) gb
  generalize ea : fs1 s = a at *
  generalize eb : fs2 s = b at *
  unfold f_X1_isUnlikeEnough_3
  have h := lp_seq (b := fun q => b_X1_isUnlikeEnough_3_8 S (nI s) (nI t) q.1 q.2.1 q.2.2) (caN C) (fun i => if i ≤ a then ((0 : Int32), (1 : Int32), nI i) else if i ≤ b then (nI (wtA C a t), (-1 : Int32), nI i) else (nI (wtA C a t) - nI (wtA C b t), (-1 : Int32), nI i)) (nI (wtA C a t) - nI (wtA C b t)) ?_ ?_ (F := FU) (FU_gt (by omega))
  · rw [if_pos (Nat.zero_le a)] at h
    rw [show ((0 : Int32), (1 : Int32), (0 : Int32)) = ((0 : Int32), (1 : Int32), nI 0) from rfl, h, Option.bind_some]
    unfold k_X1_isUnlikeEnough_3_8
    rw [show rdI 4 (S.1 5) 0 = some (nI (caU C 0)) from c_u hS (i := 0) (by decide), Option.bind_some, c_hasGuide hS hC hs6, Option.bind_some]
    by_cases h5 : ∃ p, p < caN C ∧ bN s p = 1 ∧ caK C p = 5
    · rw [oneI_t h5, oneI_t (c := unl C a b t 0 0) (by
        obtain ⟨p, k1, k2, k3⟩ := h5
        rcases Nat.decEq p a with k4 | k4
        · rcases Nat.decEq p b with k5 | k5
          · have := g6 p (by omega) k4 k5
            omega
          · subst k5
            exact Or.inr (Or.inl k3)
        · subst k4
          exact Or.inl k3)]
      repeat' split
      all_goals first | rfl | (rename_i h8; exact absurd h8 (by decide))
    · rw [oneI_f h5]
      have e2 := q_dif2 (a := wtA C a t) (b := wtA C b t) (g := caU C 0) (by omega) (by omega) (by omega)
      by_cases h6 : nI (caU C 0) ≤ (if (0 : Int32) ≤ nI (wtA C a t) - nI (wtA C b t) then nI (wtA C a t) - nI (wtA C b t) else 0 - (nI (wtA C a t) - nI (wtA C b t)))
      · rw [if_pos h6, oneI_t (c := unl C a b t 0 0) (Or.inr (Or.inr (by rw [e2] at h6; exact h6)))]
        rfl
      · rw [if_neg h6, oneI_f (c := unl C a b t 0 0) (by
          rintro (k | k | k)
          · exact h5 ⟨a, ga, g3, k⟩
          · exact h5 ⟨b, gb, g4, k⟩
          · rw [e2] at h6
            exact h6 k)]
        rfl
  · intro i hi
    have hb := bN_lt s i
    have step : ∀ x y : Int32, b_X1_isUnlikeEnough_3_8 S (nI s) (nI t) x y (nI i) = if bN s i = 0 then some (Sum.inl (x, y, nI (i + 1))) else some (Sum.inl (x + y * nI (wtA C i t), (-1), nI (i + 1))) := by
      intro x y
      unfold b_X1_isUnlikeEnough_3_8
      rw [hS.n, c_hasPorterIn (by omega) (by omega), c_weightOf hS hC hi ht, Option.bind_some, i_le (by omega) (by omega), if_neg (by omega), show (0 : Int32) = nI 0 from rfl, i_eq (by omega) (by omega)]
      simp only [Option.bind_some, nI_1]
    rcases Nat.lt_trichotomy i a with k | k | k
    · rw [if_pos (by omega), if_pos (by omega)]
      show b_X1_isUnlikeEnough_3_8 S (nI s) (nI t) 0 1 (nI i) = _
      rw [step, if_pos (g6 i (by omega) (by omega) (by omega))]
    · subst k
      rw [if_pos (by omega), if_neg (by omega), if_pos (by omega)]
      show b_X1_isUnlikeEnough_3_8 S (nI s) (nI t) 0 1 (nI i) = _
      rw [step, if_neg (by omega), Int32.one_mul, Int32.zero_add]
    · rcases Nat.lt_trichotomy i b with k2 | k2 | k2
      · rw [if_neg (by omega), if_pos (by omega), if_neg (by omega), if_pos (by omega)]
        show b_X1_isUnlikeEnough_3_8 S (nI s) (nI t) (nI (wtA C a t)) (-1) (nI i) = _
        rw [step, if_pos (g6 i (by omega) (by omega) (by omega))]
      · subst k2
        rw [if_neg (by omega), if_pos (by omega), if_neg (by omega), if_neg (by omega)]
        show b_X1_isUnlikeEnough_3_8 S (nI s) (nI t) (nI (wtA C a t)) (-1) (nI i) = _
        rw [step, if_neg (by omega), Int32.neg_mul, Int32.one_mul, ← Int32.sub_eq_add_neg]
      · rw [if_neg (by omega), if_neg (by omega), if_neg (by omega), if_neg (by omega)]
        show b_X1_isUnlikeEnough_3_8 S (nI s) (nI t) (nI (wtA C a t) - nI (wtA C b t)) (-1) (nI i) = _
        rw [step, if_pos (g6 i (by omega) (by omega) (by omega))]
  · rw [if_neg (by omega), if_neg (by omega)]
    show b_X1_isUnlikeEnough_3_8 S (nI s) (nI t) (nI (wtA C a t) - nI (wtA C b t)) (-1) (nI (caN C)) = _
    unfold b_X1_isUnlikeEnough_3_8
    rw [hS.n, if_pos (nI_le (Nat.le_refl _) (by omega))]
theorem q_bc : ∀ s, s < 64 → f_J6_bitCount_0f7a4 (nI s) = some (nI (pcn s)) := by decide +kernel
theorem c_whyNot (hS : RCp S C) (hC : Gp C) {s t nt : Nat} (hs : s < 2 ^ caN C) (ht : t < 1000) (hnt : nt < 2) : f_X1_whyNot_3 S (nI s) (nI t) (nI nt) = some (nI (whyS C s t nt)) := by
  have hc := hC.n
  have hs6 : s < 64 := Nat.lt_of_lt_of_le hs (pw_le hc)
  have hT := tmS_le hC s
  have hp6 : pcn s ≤ 6 := by
    have := bN_le s 0; have := bN_le s 1; have := bN_le s 2; have := bN_le s 3; have := bN_le s 4; have := bN_le s 5
    unfold pcn
    omega
  have hJ : j_X1_whyNot_3_44 S (nI s) (nI t) = some (nI (if 240 < t + tmS C s then 6 else 0)) := by
    unfold j_X1_whyNot_3_44
    rw [c_minutesOf hS hC hs6, Option.bind_some, nI_add, ln240, i_le (by omega) (by omega)]
    repeat' split
    all_goals first | rfl | omega
  have hK : ∀ k4, k4 = (if nt = 1 then 1 else 2) → j_X1_whyNot_3_13 S (nI s) (nI t) (nI nt) (nI (pcn s)) (nI k4) = some (nI (whyS C s t nt)) := by
    intro k4 hk4
    have hk4' : k4 ≤ 2 := by rw [hk4]; split <;> decide
    unfold j_X1_whyNot_3_13 whyS
    rw [i_eq (by omega) (by omega), ← hk4]
    by_cases h1 : pcn s = k4
    · rw [if_pos h1, if_pos h1, c_hasNeverSo hS hC hs6 hnt, Option.bind_some]
      by_cases h2 : anv C s nt
      · rw [oneI_t h2, if_neg (by decide), cif_t h2]; rfl
      · rw [oneI_f h2, if_pos (by decide), cif_f h2, show (0 : Int32) = nI 0 from rfl, i_eq (by omega) (by omega)]
        by_cases h3 : nt = 0
        · subst h3
          have h2p : pcn s = 2 := by rw [h1, hk4]; rfl
          rw [if_pos (by rfl), c_isUnlikeEnough hS hC hs h2p (by omega), Option.bind_some]
          by_cases h4 : unl C (fs1 s) (fs2 s) t 0 0
          · rw [oneI_t h4, if_neg (by decide), cif_f (fun h => h.2 h4), hJ]
          · rw [oneI_f h4, if_pos (by decide), cif_t ⟨rfl, h4⟩]; rfl
        · rw [if_neg h3, cif_f (fun h => h3 h.1), hJ]
    · rw [if_neg h1, if_neg h1]; rfl
  unfold f_X1_whyNot_3
  rw [q_bc s hs6, Option.bind_some, show (0 : Int32) = nI 0 from rfl, i_eq (by omega) (by omega)]
  by_cases h : nt = 0
  · rw [if_pos h]
    exact hK 2 (by rw [h]; rfl)
  · rw [if_neg h]
    exact hK 1 (by rw [if_pos (by omega)])
end
