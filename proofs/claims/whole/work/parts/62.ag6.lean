/-! images -/
theorem RCx.cpy {pd pd' : Nat → PD} {num gm gs tx ld num' gm' gs' tx' ld' : Nat → Int32} {n g l ln : Int32} {C : Cmp} (h : RCx pd num gm gs tx ld n g l ln C) (hG : Good C) (h1 : ∀ p, p < 6 → pd' p = pd p) (h2 : ∀ i, i < 4 → num' i = num i) (h3 : ∀ i, i < 20 → gm' i = gm i) (h4 : ∀ i, i < 20 → gs' i = gs i) (h5 : ∀ i, i < 200 → tx' i = tx i) (h6 : ∀ i, i < 5 → ld' i = ld i) : RCx pd' num' gm' gs' tx' ld' n g l ln C := by
  have hn := hG.p.n
  have hg := hG.g
  have hl := hG.l
  have hd := hG.ln
  obtain ⟨⟨g1, g2, g3⟩, g4, g5, g6, g7, g8, g9⟩ := h
  exact ⟨⟨g1, fun p hp => (h1 p (by omega)).trans (g2 p hp), fun i hi => (h2 i hi).trans (g3 i hi)⟩, g4, fun g hg => ⟨(h3 g (by omega)).trans (g5 g hg).1, (h4 g (by omega)).trans (g5 g hg).2⟩, g6, fun k hk => (h5 k (by omega)).trans (g7 k hk), g8, fun k hk => (h6 k (by omega)).trans (g9 k hk)⟩
theorem RMx.cpy {m m' : Nat → Int32} {C : Cmp} (h : RMx m C) (hG : Good C) (he : ∀ k, k < 277 → m' k = m k) : RMx m' C := by
  have hn := hG.p.n
  have hg := hG.g
  have hl := hG.l
  have hd := hG.ln
  obtain ⟨⟨g1, g2, g3⟩, g4, g5, g6, g7, g8, g9⟩ := h
  refine ⟨⟨?_, fun p hp => ?_, fun i hi => ?_⟩, ?_, fun g hg => ?_, ?_, fun j hj => ?_, ?_, fun j hj => ?_⟩
  · rw [he _ (by omega)]; exact g1
  · rw [he _ (by omega), he _ (by omega), he _ (by omega), he _ (by omega)]; exact g2 p hp
  · rw [he _ (by omega)]; exact g3 i hi
  · rw [he _ (by omega)]; exact g4
  · rw [he _ (by omega), he _ (by omega)]; exact g5 g hg
  · rw [he _ (by omega)]; exact g6
  · rw [he _ (by omega)]; exact g7 j hj
  · rw [he _ (by omega)]; exact g8
  · rw [he _ (by omega)]; exact g9 j hj
theorem c_td_10_3 (S : CS) : ∃ S1, lp (fun s => b_X1_takeDay_10_3_2 s.1 s.2) FU (0, S) = some S1 ∧ S1.1 = S.1 ∧ S1.2.1 = S.2.1 ∧ (∀ j, j ≠ 1 → S1.2.2 j = S.2.2 j) ∧ ∀ p, p < 6 → S1.2.2 1 p = S.2.2 0 p := by
  have hlp := lp_for (b := fun q => b_X1_takeDay_10_3_2 q.1 q.2) 6 (fun i q => q.1 = nI i ∧ q.2.1 = S.1 ∧ q.2.2.1 = S.2.1 ∧ (∀ j, j ≠ 1 → q.2.2.2 j = S.2.2 j) ∧ ∀ p, p < i → q.2.2.2 1 p = S.2.2 0 p) (fun r => r.1 = S.1 ∧ r.2.1 = S.2.1 ∧ (∀ j, j ≠ 1 → r.2.2 j = S.2.2 j) ∧ ∀ p, p < 6 → r.2.2 1 p = S.2.2 0 p) ?_ ?_ (F := FU) (i := 0) (s := (0, S)) ⟨rfl, rfl, rfl, fun _ _ => rfl, fun p h => by omega⟩ (Nat.zero_le _) (FU_gt (by decide))
  · obtain ⟨r, e, q⟩ := hlp
    exact ⟨r, e, q⟩
  · rintro ⟨q1, q2⟩ ⟨k0, k1⟩
    have k0 : q1 = nI 6 := k0
    subst k0
    refine ⟨q2, ?_, k1⟩
    show b_X1_takeDay_10_3_2 (nI 6) q2 = _
    unfold b_X1_takeDay_10_3_2
    rw [if_pos (by decide)]
  · rintro i ⟨q1, q2⟩ hi ⟨k0, k1, k2, k3, k4⟩
    have k0 : q1 = nI i := k0
    subst k0
    have k5 : ∀ j, j ≠ 1 → q2.2.2 j = S.2.2 j := k3
    have k6 : ∀ p, p < i → q2.2.2 1 p = S.2.2 0 p := k4
    refine Or.inl ⟨(nI (i + 1), siP q2 1 (va_up (q2.2.2 1) i (q2.2.2 0 i))), ?_, rfl, k1, k2, fun j hj => (up_n _ _ hj).trans (k5 j hj), fun p hp => ?_⟩
    · show b_X1_takeDay_10_3_2 (nI i) q2 = _
      unfold b_X1_takeDay_10_3_2
      rw [ln6, i_le (by omega) (by omega), if_neg (by omega), q_rdP hi, Option.bind_some, q_wrP hi, Option.bind_some, Option.bind_some, nI_1]
    · show va_up q2.2.2 1 (va_up (q2.2.2 1) i (q2.2.2 0 i)) 1 p = _
      rw [up_s]
      by_cases h9 : p = i
      · rw [h9, up_s, k5 0 (by decide)]
      · rw [up_n _ _ h9]; exact k6 p (by omega)
theorem c_takeDay_10_3 (S : CS) : ∃ S', f_X1_takeDay_10_3 S = some S' ∧ S'.2.1 = S.2.1 ∧ (∀ j, j ≠ 1 → S'.2.2 j = S.2.2 j) ∧ (∀ p, p < 6 → S'.2.2 1 p = S.2.2 0 p) ∧ (∀ k, k ≠ 12 → k ≠ 13 → k ≠ 14 → k ≠ 2006 → k ≠ 2007 → S'.1 k = S.1 k) ∧ (∀ i, i < 4 → S'.1 12 i = S.1 5 i) ∧ (∀ i, i < 20 → S'.1 13 i = S.1 6 i) ∧ (∀ i, i < 20 → S'.1 14 i = S.1 7 i) ∧ S'.1 2006 0 = S.1 1306 0 ∧ S'.1 2007 0 = S.1 1307 0 := by
  obtain ⟨S1, e1, p1, p2, p3, p4⟩ := c_td_10_3 S
  unfold f_X1_takeDay_10_3
  rw [e1, Option.bind_some]
  unfold k_X1_takeDay_10_3_2
  simp only [Option.bind_some]
  refine ⟨_, rfl, p2, p3, p4, fun k a1 a2 a3 a4 a5 => ?_, fun i hi => ?_, fun i hi => ?_, fun i hi => ?_, ?_, ?_⟩
  · rw [siI_n _ _ a5, siI_n _ _ a4, siI_n _ _ a3, siI_n _ _ a2, siI_n _ _ a1, p1]
  · show va_cpy (S1.1 5) (S1.1 12) 0 0 4 i = _
    rw [cpy_at hi, p1]
  · show va_cpy (S1.1 6) (S1.1 13) 0 0 20 i = _
    rw [cpy_at hi, p1]
  · show va_cpy (S1.1 7) (S1.1 14) 0 0 20 i = _
    rw [cpy_at hi, p1]
  · show S1.1 1306 0 = _
    rw [p1]
  · show S1.1 1307 0 = _
    rw [p1]
theorem c_copy_10_3 (S : CS) : ∃ S', f_X1_copy_10_3 S = some S' ∧ S'.2.1 = S.2.1 ∧ (∀ j, j ≠ 1 → S'.2.2 j = S.2.2 j) ∧ (∀ k, k ≠ 12 → k ≠ 13 → k ≠ 14 → k ≠ 15 → k ≠ 16 → k ≠ 2006 → k ≠ 2007 → k ≠ 2008 → k ≠ 2009 → S'.1 k = S.1 k) ∧ ∀ C, Good C → RCx (S.2.2 0) (S.1 5) (S.1 6) (S.1 7) (S.1 8) (S.1 9) (S.1 1306 0) (S.1 1307 0) (S.1 1308 0) (S.1 1309 0) C → RCx (S'.2.2 1) (S'.1 12) (S'.1 13) (S'.1 14) (S'.1 15) (S'.1 16) (S'.1 2006 0) (S'.1 2007 0) (S'.1 2008 0) (S'.1 2009 0) C := by
  obtain ⟨S1, e1, p2, p3, p4, p5, p6, p7, p8, p9, p10⟩ := c_takeDay_10_3 S
  unfold f_X1_copy_10_3
  rw [e1]
  simp only [Option.bind_some]
  refine ⟨_, rfl, p2, p3, fun k a1 a2 a3 a4 a5 a6 a7 a8 a9 => ?_, fun C hG hx => ?_⟩
  · rw [siI_n _ _ a9, siI_n _ _ a8, siI_n _ _ a5, siI_n _ _ a4]
    exact p5 k a1 a2 a3 a6 a7
  · have e3 : S1.1 8 = S.1 8 := p5 8 (by decide) (by decide) (by decide) (by decide) (by decide)
    have e4 : S1.1 9 = S.1 9 := p5 9 (by decide) (by decide) (by decide) (by decide) (by decide)
    have e8 : S1.1 1308 = S.1 1308 := p5 1308 (by decide) (by decide) (by decide) (by decide) (by decide)
    have e9 : S1.1 1309 = S.1 1309 := p5 1309 (by decide) (by decide) (by decide) (by decide) (by decide)
    show RCx (S1.2.2 1) (S1.1 12) (S1.1 13) (S1.1 14) (va_cpy (S1.1 8) (S1.1 15) 0 0 200) (va_cpy (S1.1 9) (S1.1 16) 0 0 5) (S1.1 2006 0) (S1.1 2007 0) (S1.1 1308 0) (S1.1 1309 0) C
    rw [p9, p10, e8, e9]
    exact hx.cpy hG p4 p6 p7 p8 (fun i hi => by rw [cpy_at hi, e3]) (fun i hi => by rw [cpy_at hi, e4])
theorem c_td_17_3 (S : CS) : ∃ S1, lp (fun s => b_X1_takeDay_17_3_2 s.1 s.2) FU (0, S) = some S1 ∧ S1.1 = S.1 ∧ S1.2.1 = S.2.1 ∧ (∀ j, j ≠ 2 → S1.2.2 j = S.2.2 j) ∧ ∀ p, p < 6 → S1.2.2 2 p = S.2.2 0 p := by
  have hlp := lp_for (b := fun q => b_X1_takeDay_17_3_2 q.1 q.2) 6 (fun i q => q.1 = nI i ∧ q.2.1 = S.1 ∧ q.2.2.1 = S.2.1 ∧ (∀ j, j ≠ 2 → q.2.2.2 j = S.2.2 j) ∧ ∀ p, p < i → q.2.2.2 2 p = S.2.2 0 p) (fun r => r.1 = S.1 ∧ r.2.1 = S.2.1 ∧ (∀ j, j ≠ 2 → r.2.2 j = S.2.2 j) ∧ ∀ p, p < 6 → r.2.2 2 p = S.2.2 0 p) ?_ ?_ (F := FU) (i := 0) (s := (0, S)) ⟨rfl, rfl, rfl, fun _ _ => rfl, fun p h => by omega⟩ (Nat.zero_le _) (FU_gt (by decide))
  · obtain ⟨r, e, q⟩ := hlp
    exact ⟨r, e, q⟩
  · rintro ⟨q1, q2⟩ ⟨k0, k1⟩
    have k0 : q1 = nI 6 := k0
    subst k0
    refine ⟨q2, ?_, k1⟩
    show b_X1_takeDay_17_3_2 (nI 6) q2 = _
    unfold b_X1_takeDay_17_3_2
    rw [if_pos (by decide)]
  · rintro i ⟨q1, q2⟩ hi ⟨k0, k1, k2, k3, k4⟩
    have k0 : q1 = nI i := k0
    subst k0
    have k5 : ∀ j, j ≠ 2 → q2.2.2 j = S.2.2 j := k3
    have k6 : ∀ p, p < i → q2.2.2 2 p = S.2.2 0 p := k4
    refine Or.inl ⟨(nI (i + 1), siP q2 2 (va_up (q2.2.2 2) i (q2.2.2 0 i))), ?_, rfl, k1, k2, fun j hj => (up_n _ _ hj).trans (k5 j hj), fun p hp => ?_⟩
    · show b_X1_takeDay_17_3_2 (nI i) q2 = _
      unfold b_X1_takeDay_17_3_2
      rw [ln6, i_le (by omega) (by omega), if_neg (by omega), q_rdP hi, Option.bind_some, q_wrP hi, Option.bind_some, Option.bind_some, nI_1]
    · show va_up q2.2.2 2 (va_up (q2.2.2 2) i (q2.2.2 0 i)) 2 p = _
      rw [up_s]
      by_cases h9 : p = i
      · rw [h9, up_s, k5 0 (by decide)]
      · rw [up_n _ _ h9]; exact k6 p (by omega)
theorem c_takeDay_17_3 (S : CS) : ∃ S', f_X1_takeDay_17_3 S = some S' ∧ S'.2.1 = S.2.1 ∧ (∀ j, j ≠ 2 → S'.2.2 j = S.2.2 j) ∧ (∀ p, p < 6 → S'.2.2 2 p = S.2.2 0 p) ∧ (∀ k, k ≠ 19 → k ≠ 20 → k ≠ 21 → k ≠ 2706 → k ≠ 2707 → S'.1 k = S.1 k) ∧ (∀ i, i < 4 → S'.1 19 i = S.1 5 i) ∧ (∀ i, i < 20 → S'.1 20 i = S.1 6 i) ∧ (∀ i, i < 20 → S'.1 21 i = S.1 7 i) ∧ S'.1 2706 0 = S.1 1306 0 ∧ S'.1 2707 0 = S.1 1307 0 := by
  obtain ⟨S1, e1, p1, p2, p3, p4⟩ := c_td_17_3 S
  unfold f_X1_takeDay_17_3
  rw [e1, Option.bind_some]
  unfold k_X1_takeDay_17_3_2
  simp only [Option.bind_some]
  refine ⟨_, rfl, p2, p3, p4, fun k a1 a2 a3 a4 a5 => ?_, fun i hi => ?_, fun i hi => ?_, fun i hi => ?_, ?_, ?_⟩
  · rw [siI_n _ _ a5, siI_n _ _ a4, siI_n _ _ a3, siI_n _ _ a2, siI_n _ _ a1, p1]
  · show va_cpy (S1.1 5) (S1.1 19) 0 0 4 i = _
    rw [cpy_at hi, p1]
  · show va_cpy (S1.1 6) (S1.1 20) 0 0 20 i = _
    rw [cpy_at hi, p1]
  · show va_cpy (S1.1 7) (S1.1 21) 0 0 20 i = _
    rw [cpy_at hi, p1]
  · show S1.1 1306 0 = _
    rw [p1]
  · show S1.1 1307 0 = _
    rw [p1]
theorem c_copy_17_3 (S : CS) : ∃ S', f_X1_copy_17_3 S = some S' ∧ S'.2.1 = S.2.1 ∧ (∀ j, j ≠ 2 → S'.2.2 j = S.2.2 j) ∧ (∀ k, k ≠ 19 → k ≠ 20 → k ≠ 21 → k ≠ 22 → k ≠ 23 → k ≠ 2706 → k ≠ 2707 → k ≠ 2708 → k ≠ 2709 → S'.1 k = S.1 k) ∧ ∀ C, Good C → RCx (S.2.2 0) (S.1 5) (S.1 6) (S.1 7) (S.1 8) (S.1 9) (S.1 1306 0) (S.1 1307 0) (S.1 1308 0) (S.1 1309 0) C → RCx (S'.2.2 2) (S'.1 19) (S'.1 20) (S'.1 21) (S'.1 22) (S'.1 23) (S'.1 2706 0) (S'.1 2707 0) (S'.1 2708 0) (S'.1 2709 0) C := by
  obtain ⟨S1, e1, p2, p3, p4, p5, p6, p7, p8, p9, p10⟩ := c_takeDay_17_3 S
  unfold f_X1_copy_17_3
  rw [e1]
  simp only [Option.bind_some]
  refine ⟨_, rfl, p2, p3, fun k a1 a2 a3 a4 a5 a6 a7 a8 a9 => ?_, fun C hG hx => ?_⟩
  · rw [siI_n _ _ a9, siI_n _ _ a8, siI_n _ _ a5, siI_n _ _ a4]
    exact p5 k a1 a2 a3 a6 a7
  · have e3 : S1.1 8 = S.1 8 := p5 8 (by decide) (by decide) (by decide) (by decide) (by decide)
    have e4 : S1.1 9 = S.1 9 := p5 9 (by decide) (by decide) (by decide) (by decide) (by decide)
    have e8 : S1.1 1308 = S.1 1308 := p5 1308 (by decide) (by decide) (by decide) (by decide) (by decide)
    have e9 : S1.1 1309 = S.1 1309 := p5 1309 (by decide) (by decide) (by decide) (by decide) (by decide)
    show RCx (S1.2.2 2) (S1.1 19) (S1.1 20) (S1.1 21) (va_cpy (S1.1 8) (S1.1 22) 0 0 200) (va_cpy (S1.1 9) (S1.1 23) 0 0 5) (S1.1 2706 0) (S1.1 2707 0) (S1.1 1308 0) (S1.1 1309 0) C
    rw [p9, p10, e8, e9]
    exact hx.cpy hG p4 p6 p7 p8 (fun i hi => by rw [cpy_at hi, e3]) (fun i hi => by rw [cpy_at hi, e4])
theorem c_td_3_10 (S : CS) : ∃ S1, lp (fun s => b_X1_takeDay_3_10_2 s.1 s.2) FU (0, S) = some S1 ∧ S1.1 = S.1 ∧ S1.2.1 = S.2.1 ∧ (∀ j, j ≠ 0 → S1.2.2 j = S.2.2 j) ∧ ∀ p, p < 6 → S1.2.2 0 p = S.2.2 1 p := by
  have hlp := lp_for (b := fun q => b_X1_takeDay_3_10_2 q.1 q.2) 6 (fun i q => q.1 = nI i ∧ q.2.1 = S.1 ∧ q.2.2.1 = S.2.1 ∧ (∀ j, j ≠ 0 → q.2.2.2 j = S.2.2 j) ∧ ∀ p, p < i → q.2.2.2 0 p = S.2.2 1 p) (fun r => r.1 = S.1 ∧ r.2.1 = S.2.1 ∧ (∀ j, j ≠ 0 → r.2.2 j = S.2.2 j) ∧ ∀ p, p < 6 → r.2.2 0 p = S.2.2 1 p) ?_ ?_ (F := FU) (i := 0) (s := (0, S)) ⟨rfl, rfl, rfl, fun _ _ => rfl, fun p h => by omega⟩ (Nat.zero_le _) (FU_gt (by decide))
  · obtain ⟨r, e, q⟩ := hlp
    exact ⟨r, e, q⟩
  · rintro ⟨q1, q2⟩ ⟨k0, k1⟩
    have k0 : q1 = nI 6 := k0
    subst k0
    refine ⟨q2, ?_, k1⟩
    show b_X1_takeDay_3_10_2 (nI 6) q2 = _
    unfold b_X1_takeDay_3_10_2
    rw [if_pos (by decide)]
  · rintro i ⟨q1, q2⟩ hi ⟨k0, k1, k2, k3, k4⟩
    have k0 : q1 = nI i := k0
    subst k0
    have k5 : ∀ j, j ≠ 0 → q2.2.2 j = S.2.2 j := k3
    have k6 : ∀ p, p < i → q2.2.2 0 p = S.2.2 1 p := k4
    refine Or.inl ⟨(nI (i + 1), siP q2 0 (va_up (q2.2.2 0) i (q2.2.2 1 i))), ?_, rfl, k1, k2, fun j hj => (up_n _ _ hj).trans (k5 j hj), fun p hp => ?_⟩
    · show b_X1_takeDay_3_10_2 (nI i) q2 = _
      unfold b_X1_takeDay_3_10_2
      rw [ln6, i_le (by omega) (by omega), if_neg (by omega), q_rdP hi, Option.bind_some, q_wrP hi, Option.bind_some, Option.bind_some, nI_1]
    · show va_up q2.2.2 0 (va_up (q2.2.2 0) i (q2.2.2 1 i)) 0 p = _
      rw [up_s]
      by_cases h9 : p = i
      · rw [h9, up_s, k5 1 (by decide)]
      · rw [up_n _ _ h9]; exact k6 p (by omega)
theorem c_takeDay_3_10 (S : CS) : ∃ S', f_X1_takeDay_3_10 S = some S' ∧ S'.2.1 = S.2.1 ∧ (∀ j, j ≠ 0 → S'.2.2 j = S.2.2 j) ∧ (∀ p, p < 6 → S'.2.2 0 p = S.2.2 1 p) ∧ (∀ k, k ≠ 5 → k ≠ 6 → k ≠ 7 → k ≠ 1306 → k ≠ 1307 → S'.1 k = S.1 k) ∧ (∀ i, i < 4 → S'.1 5 i = S.1 12 i) ∧ (∀ i, i < 20 → S'.1 6 i = S.1 13 i) ∧ (∀ i, i < 20 → S'.1 7 i = S.1 14 i) ∧ S'.1 1306 0 = S.1 2006 0 ∧ S'.1 1307 0 = S.1 2007 0 := by
  obtain ⟨S1, e1, p1, p2, p3, p4⟩ := c_td_3_10 S
  unfold f_X1_takeDay_3_10
  rw [e1, Option.bind_some]
  unfold k_X1_takeDay_3_10_2
  simp only [Option.bind_some]
  refine ⟨_, rfl, p2, p3, p4, fun k a1 a2 a3 a4 a5 => ?_, fun i hi => ?_, fun i hi => ?_, fun i hi => ?_, ?_, ?_⟩
  · rw [siI_n _ _ a5, siI_n _ _ a4, siI_n _ _ a3, siI_n _ _ a2, siI_n _ _ a1, p1]
  · show va_cpy (S1.1 12) (S1.1 5) 0 0 4 i = _
    rw [cpy_at hi, p1]
  · show va_cpy (S1.1 13) (S1.1 6) 0 0 20 i = _
    rw [cpy_at hi, p1]
  · show va_cpy (S1.1 14) (S1.1 7) 0 0 20 i = _
    rw [cpy_at hi, p1]
  · show S1.1 2006 0 = _
    rw [p1]
  · show S1.1 2007 0 = _
    rw [p1]
theorem c_copy_3_10 (S : CS) : ∃ S', f_X1_copy_3_10 S = some S' ∧ S'.2.1 = S.2.1 ∧ (∀ j, j ≠ 0 → S'.2.2 j = S.2.2 j) ∧ (∀ k, k ≠ 5 → k ≠ 6 → k ≠ 7 → k ≠ 8 → k ≠ 9 → k ≠ 1306 → k ≠ 1307 → k ≠ 1308 → k ≠ 1309 → S'.1 k = S.1 k) ∧ ∀ C, Good C → RCx (S.2.2 1) (S.1 12) (S.1 13) (S.1 14) (S.1 15) (S.1 16) (S.1 2006 0) (S.1 2007 0) (S.1 2008 0) (S.1 2009 0) C → RCx (S'.2.2 0) (S'.1 5) (S'.1 6) (S'.1 7) (S'.1 8) (S'.1 9) (S'.1 1306 0) (S'.1 1307 0) (S'.1 1308 0) (S'.1 1309 0) C := by
  obtain ⟨S1, e1, p2, p3, p4, p5, p6, p7, p8, p9, p10⟩ := c_takeDay_3_10 S
  unfold f_X1_copy_3_10
  rw [e1]
  simp only [Option.bind_some]
  refine ⟨_, rfl, p2, p3, fun k a1 a2 a3 a4 a5 a6 a7 a8 a9 => ?_, fun C hG hx => ?_⟩
  · rw [siI_n _ _ a9, siI_n _ _ a8, siI_n _ _ a5, siI_n _ _ a4]
    exact p5 k a1 a2 a3 a6 a7
  · have e3 : S1.1 15 = S.1 15 := p5 15 (by decide) (by decide) (by decide) (by decide) (by decide)
    have e4 : S1.1 16 = S.1 16 := p5 16 (by decide) (by decide) (by decide) (by decide) (by decide)
    have e8 : S1.1 2008 = S.1 2008 := p5 2008 (by decide) (by decide) (by decide) (by decide) (by decide)
    have e9 : S1.1 2009 = S.1 2009 := p5 2009 (by decide) (by decide) (by decide) (by decide) (by decide)
    show RCx (S1.2.2 0) (S1.1 5) (S1.1 6) (S1.1 7) (va_cpy (S1.1 15) (S1.1 8) 0 0 200) (va_cpy (S1.1 16) (S1.1 9) 0 0 5) (S1.1 1306 0) (S1.1 1307 0) (S1.1 2008 0) (S1.1 2009 0) C
    rw [p9, p10, e8, e9]
    exact hx.cpy hG p4 p6 p7 p8 (fun i hi => by rw [cpy_at hi, e3]) (fun i hi => by rw [cpy_at hi, e4])
theorem c_td_3_17 (S : CS) : ∃ S1, lp (fun s => b_X1_takeDay_3_17_2 s.1 s.2) FU (0, S) = some S1 ∧ S1.1 = S.1 ∧ S1.2.1 = S.2.1 ∧ (∀ j, j ≠ 0 → S1.2.2 j = S.2.2 j) ∧ ∀ p, p < 6 → S1.2.2 0 p = S.2.2 2 p := by
  have hlp := lp_for (b := fun q => b_X1_takeDay_3_17_2 q.1 q.2) 6 (fun i q => q.1 = nI i ∧ q.2.1 = S.1 ∧ q.2.2.1 = S.2.1 ∧ (∀ j, j ≠ 0 → q.2.2.2 j = S.2.2 j) ∧ ∀ p, p < i → q.2.2.2 0 p = S.2.2 2 p) (fun r => r.1 = S.1 ∧ r.2.1 = S.2.1 ∧ (∀ j, j ≠ 0 → r.2.2 j = S.2.2 j) ∧ ∀ p, p < 6 → r.2.2 0 p = S.2.2 2 p) ?_ ?_ (F := FU) (i := 0) (s := (0, S)) ⟨rfl, rfl, rfl, fun _ _ => rfl, fun p h => by omega⟩ (Nat.zero_le _) (FU_gt (by decide))
  · obtain ⟨r, e, q⟩ := hlp
    exact ⟨r, e, q⟩
  · rintro ⟨q1, q2⟩ ⟨k0, k1⟩
    have k0 : q1 = nI 6 := k0
    subst k0
    refine ⟨q2, ?_, k1⟩
    show b_X1_takeDay_3_17_2 (nI 6) q2 = _
    unfold b_X1_takeDay_3_17_2
    rw [if_pos (by decide)]
  · rintro i ⟨q1, q2⟩ hi ⟨k0, k1, k2, k3, k4⟩
    have k0 : q1 = nI i := k0
    subst k0
    have k5 : ∀ j, j ≠ 0 → q2.2.2 j = S.2.2 j := k3
    have k6 : ∀ p, p < i → q2.2.2 0 p = S.2.2 2 p := k4
    refine Or.inl ⟨(nI (i + 1), siP q2 0 (va_up (q2.2.2 0) i (q2.2.2 2 i))), ?_, rfl, k1, k2, fun j hj => (up_n _ _ hj).trans (k5 j hj), fun p hp => ?_⟩
    · show b_X1_takeDay_3_17_2 (nI i) q2 = _
      unfold b_X1_takeDay_3_17_2
      rw [ln6, i_le (by omega) (by omega), if_neg (by omega), q_rdP hi, Option.bind_some, q_wrP hi, Option.bind_some, Option.bind_some, nI_1]
    · show va_up q2.2.2 0 (va_up (q2.2.2 0) i (q2.2.2 2 i)) 0 p = _
      rw [up_s]
      by_cases h9 : p = i
      · rw [h9, up_s, k5 2 (by decide)]
      · rw [up_n _ _ h9]; exact k6 p (by omega)
theorem c_takeDay_3_17 (S : CS) : ∃ S', f_X1_takeDay_3_17 S = some S' ∧ S'.2.1 = S.2.1 ∧ (∀ j, j ≠ 0 → S'.2.2 j = S.2.2 j) ∧ (∀ p, p < 6 → S'.2.2 0 p = S.2.2 2 p) ∧ (∀ k, k ≠ 5 → k ≠ 6 → k ≠ 7 → k ≠ 1306 → k ≠ 1307 → S'.1 k = S.1 k) ∧ (∀ i, i < 4 → S'.1 5 i = S.1 19 i) ∧ (∀ i, i < 20 → S'.1 6 i = S.1 20 i) ∧ (∀ i, i < 20 → S'.1 7 i = S.1 21 i) ∧ S'.1 1306 0 = S.1 2706 0 ∧ S'.1 1307 0 = S.1 2707 0 := by
  obtain ⟨S1, e1, p1, p2, p3, p4⟩ := c_td_3_17 S
  unfold f_X1_takeDay_3_17
  rw [e1, Option.bind_some]
  unfold k_X1_takeDay_3_17_2
  simp only [Option.bind_some]
  refine ⟨_, rfl, p2, p3, p4, fun k a1 a2 a3 a4 a5 => ?_, fun i hi => ?_, fun i hi => ?_, fun i hi => ?_, ?_, ?_⟩
  · rw [siI_n _ _ a5, siI_n _ _ a4, siI_n _ _ a3, siI_n _ _ a2, siI_n _ _ a1, p1]
  · show va_cpy (S1.1 19) (S1.1 5) 0 0 4 i = _
    rw [cpy_at hi, p1]
  · show va_cpy (S1.1 20) (S1.1 6) 0 0 20 i = _
    rw [cpy_at hi, p1]
  · show va_cpy (S1.1 21) (S1.1 7) 0 0 20 i = _
    rw [cpy_at hi, p1]
  · show S1.1 2706 0 = _
    rw [p1]
  · show S1.1 2707 0 = _
    rw [p1]
theorem c_copy_3_17 (S : CS) : ∃ S', f_X1_copy_3_17 S = some S' ∧ S'.2.1 = S.2.1 ∧ (∀ j, j ≠ 0 → S'.2.2 j = S.2.2 j) ∧ (∀ k, k ≠ 5 → k ≠ 6 → k ≠ 7 → k ≠ 8 → k ≠ 9 → k ≠ 1306 → k ≠ 1307 → k ≠ 1308 → k ≠ 1309 → S'.1 k = S.1 k) ∧ ∀ C, Good C → RCx (S.2.2 2) (S.1 19) (S.1 20) (S.1 21) (S.1 22) (S.1 23) (S.1 2706 0) (S.1 2707 0) (S.1 2708 0) (S.1 2709 0) C → RCx (S'.2.2 0) (S'.1 5) (S'.1 6) (S'.1 7) (S'.1 8) (S'.1 9) (S'.1 1306 0) (S'.1 1307 0) (S'.1 1308 0) (S'.1 1309 0) C := by
  obtain ⟨S1, e1, p2, p3, p4, p5, p6, p7, p8, p9, p10⟩ := c_takeDay_3_17 S
  unfold f_X1_copy_3_17
  rw [e1]
  simp only [Option.bind_some]
  refine ⟨_, rfl, p2, p3, fun k a1 a2 a3 a4 a5 a6 a7 a8 a9 => ?_, fun C hG hx => ?_⟩
  · rw [siI_n _ _ a9, siI_n _ _ a8, siI_n _ _ a5, siI_n _ _ a4]
    exact p5 k a1 a2 a3 a6 a7
  · have e3 : S1.1 22 = S.1 22 := p5 22 (by decide) (by decide) (by decide) (by decide) (by decide)
    have e4 : S1.1 23 = S.1 23 := p5 23 (by decide) (by decide) (by decide) (by decide) (by decide)
    have e8 : S1.1 2708 = S.1 2708 := p5 2708 (by decide) (by decide) (by decide) (by decide) (by decide)
    have e9 : S1.1 2709 = S.1 2709 := p5 2709 (by decide) (by decide) (by decide) (by decide) (by decide)
    show RCx (S1.2.2 0) (S1.1 5) (S1.1 6) (S1.1 7) (va_cpy (S1.1 22) (S1.1 8) 0 0 200) (va_cpy (S1.1 23) (S1.1 9) 0 0 5) (S1.1 1306 0) (S1.1 1307 0) (S1.1 2708 0) (S1.1 2709 0) C
    rw [p9, p10, e8, e9]
    exact hx.cpy hG p4 p6 p7 p8 (fun i hi => by rw [cpy_at hi, e3]) (fun i hi => by rw [cpy_at hi, e4])
theorem c_td_3_24 (S : CS) : ∃ S1, lp (fun s => b_X1_takeDay_3_24_2 s.1 s.2) FU (0, S) = some S1 ∧ S1.1 = S.1 ∧ S1.2.1 = S.2.1 ∧ (∀ j, j ≠ 0 → S1.2.2 j = S.2.2 j) ∧ ∀ p, p < 6 → S1.2.2 0 p = S.2.2 3 p := by
  have hlp := lp_for (b := fun q => b_X1_takeDay_3_24_2 q.1 q.2) 6 (fun i q => q.1 = nI i ∧ q.2.1 = S.1 ∧ q.2.2.1 = S.2.1 ∧ (∀ j, j ≠ 0 → q.2.2.2 j = S.2.2 j) ∧ ∀ p, p < i → q.2.2.2 0 p = S.2.2 3 p) (fun r => r.1 = S.1 ∧ r.2.1 = S.2.1 ∧ (∀ j, j ≠ 0 → r.2.2 j = S.2.2 j) ∧ ∀ p, p < 6 → r.2.2 0 p = S.2.2 3 p) ?_ ?_ (F := FU) (i := 0) (s := (0, S)) ⟨rfl, rfl, rfl, fun _ _ => rfl, fun p h => by omega⟩ (Nat.zero_le _) (FU_gt (by decide))
  · obtain ⟨r, e, q⟩ := hlp
    exact ⟨r, e, q⟩
  · rintro ⟨q1, q2⟩ ⟨k0, k1⟩
    have k0 : q1 = nI 6 := k0
    subst k0
    refine ⟨q2, ?_, k1⟩
    show b_X1_takeDay_3_24_2 (nI 6) q2 = _
    unfold b_X1_takeDay_3_24_2
    rw [if_pos (by decide)]
  · rintro i ⟨q1, q2⟩ hi ⟨k0, k1, k2, k3, k4⟩
    have k0 : q1 = nI i := k0
    subst k0
    have k5 : ∀ j, j ≠ 0 → q2.2.2 j = S.2.2 j := k3
    have k6 : ∀ p, p < i → q2.2.2 0 p = S.2.2 3 p := k4
    refine Or.inl ⟨(nI (i + 1), siP q2 0 (va_up (q2.2.2 0) i (q2.2.2 3 i))), ?_, rfl, k1, k2, fun j hj => (up_n _ _ hj).trans (k5 j hj), fun p hp => ?_⟩
    · show b_X1_takeDay_3_24_2 (nI i) q2 = _
      unfold b_X1_takeDay_3_24_2
      rw [ln6, i_le (by omega) (by omega), if_neg (by omega), q_rdP hi, Option.bind_some, q_wrP hi, Option.bind_some, Option.bind_some, nI_1]
    · show va_up q2.2.2 0 (va_up (q2.2.2 0) i (q2.2.2 3 i)) 0 p = _
      rw [up_s]
      by_cases h9 : p = i
      · rw [h9, up_s, k5 3 (by decide)]
      · rw [up_n _ _ h9]; exact k6 p (by omega)
theorem c_takeDay_3_24 (S : CS) : ∃ S', f_X1_takeDay_3_24 S = some S' ∧ S'.2.1 = S.2.1 ∧ (∀ j, j ≠ 0 → S'.2.2 j = S.2.2 j) ∧ (∀ p, p < 6 → S'.2.2 0 p = S.2.2 3 p) ∧ (∀ k, k ≠ 5 → k ≠ 6 → k ≠ 7 → k ≠ 1306 → k ≠ 1307 → S'.1 k = S.1 k) ∧ (∀ i, i < 4 → S'.1 5 i = S.1 26 i) ∧ (∀ i, i < 20 → S'.1 6 i = S.1 27 i) ∧ (∀ i, i < 20 → S'.1 7 i = S.1 28 i) ∧ S'.1 1306 0 = S.1 3406 0 ∧ S'.1 1307 0 = S.1 3407 0 := by
  obtain ⟨S1, e1, p1, p2, p3, p4⟩ := c_td_3_24 S
  unfold f_X1_takeDay_3_24
  rw [e1, Option.bind_some]
  unfold k_X1_takeDay_3_24_2
  simp only [Option.bind_some]
  refine ⟨_, rfl, p2, p3, p4, fun k a1 a2 a3 a4 a5 => ?_, fun i hi => ?_, fun i hi => ?_, fun i hi => ?_, ?_, ?_⟩
  · rw [siI_n _ _ a5, siI_n _ _ a4, siI_n _ _ a3, siI_n _ _ a2, siI_n _ _ a1, p1]
  · show va_cpy (S1.1 26) (S1.1 5) 0 0 4 i = _
    rw [cpy_at hi, p1]
  · show va_cpy (S1.1 27) (S1.1 6) 0 0 20 i = _
    rw [cpy_at hi, p1]
  · show va_cpy (S1.1 28) (S1.1 7) 0 0 20 i = _
    rw [cpy_at hi, p1]
  · show S1.1 3406 0 = _
    rw [p1]
  · show S1.1 3407 0 = _
    rw [p1]
theorem r_imgL (M : MS) {i : Nat} (hi : i < 2) : ∃ M', lp (fun s => b_X11_image_19 (nI i) s.1 s.2) FU (0, M) = some M' ∧ (∀ j, j ≠ 1 → M' j = M j) ∧ (∀ k, k < 277 → M' 1 (277 * i + k) = M 0 k) ∧ ∀ z, (z < 277 * i ∨ 277 * i + 277 ≤ z) → M' 1 z = M 1 z := by
  have hlp := lp_for (b := fun s => b_X11_image_19 (nI i) s.1 s.2) 277 (fun n s => s.1 = nI n ∧ (∀ j, j ≠ 1 → s.2 j = M j) ∧ (∀ k, k < n → s.2 1 (277 * i + k) = M 0 k) ∧ ∀ z, (z < 277 * i ∨ 277 * i + 277 ≤ z) → s.2 1 z = M 1 z) (fun r => (∀ j, j ≠ 1 → r j = M j) ∧ (∀ k, k < 277 → r 1 (277 * i + k) = M 0 k) ∧ ∀ z, (z < 277 * i ∨ 277 * i + 277 ≤ z) → r 1 z = M 1 z) ?_ ?_ (F := FU) (i := 0) (s := (0, M)) ⟨rfl, fun _ _ => rfl, fun k h => by omega, fun _ _ => rfl⟩ (Nat.zero_le _) (FU_gt (by decide))
  · obtain ⟨r, e, q⟩ := hlp
    exact ⟨r, e, q⟩
  · rintro ⟨q1, q2⟩ ⟨k0, k1⟩
    have k0 : q1 = nI 277 := k0
    subst k0
    refine ⟨q2, ?_, k1⟩
    show b_X11_image_19 (nI i) (nI 277) q2 = _
    unfold b_X11_image_19
    rw [if_pos (by decide)]
  · rintro n ⟨q1, q2⟩ hn ⟨k0, k1, k2, k3⟩
    have k0 : q1 = nI n := k0
    subst k0
    have k4 : ∀ j, j ≠ 1 → q2 j = M j := k1
    have k5 : ∀ k, k < n → q2 1 (277 * i + k) = M 0 k := k2
    have k6 : ∀ z, (z < 277 * i ∨ 277 * i + 277 ≤ z) → q2 1 z = M 1 z := k3
    refine Or.inl ⟨(nI (n + 1), va_up q2 1 (upd (q2 1) (277 * i + n) (q2 0 n))), ?_, rfl, fun j hj => (up_n _ _ hj).trans (k4 j hj), fun k hk => ?_, fun z hz => ?_⟩
    · show b_X11_image_19 (nI i) (nI n) q2 = _
      unfold b_X11_image_19
      rw [ln277, i_le (by omega) (by omega), if_neg (by omega), q_rd hn (by decide), Option.bind_some, pk_mul, nI_add, q_wrM (by omega) (by decide), Option.bind_some, Option.bind_some, nI_1]
    · show va_up q2 1 (upd (q2 1) (277 * i + n) (q2 0 n)) 1 (277 * i + k) = _
      rw [up_s]
      by_cases h9 : k = n
      · rw [h9, pk_us, k4 0 (by decide)]
      · rw [pk_un (by omega)]; exact k5 k (by omega)
    · show va_up q2 1 (upd (q2 1) (277 * i + n) (q2 0 n)) 1 z = _
      rw [up_s, pk_un (by omega)]
      exact k6 z hz
theorem r_fromL (M : MS) {i : Nat} (hi : i < 2) : ∃ M', lp (fun s => b_X11_from_35 (nI i) s.1 s.2) FU (0, M) = some M' ∧ (∀ j, j ≠ 0 → M' j = M j) ∧ ∀ k, k < 277 → M' 0 k = M 1 (277 * i + k) := by
  have hlp := lp_for (b := fun s => b_X11_from_35 (nI i) s.1 s.2) 277 (fun n s => s.1 = nI n ∧ (∀ j, j ≠ 0 → s.2 j = M j) ∧ (∀ k, k < n → s.2 0 k = M 1 (277 * i + k))) (fun r => (∀ j, j ≠ 0 → r j = M j) ∧ (∀ k, k < 277 → r 0 k = M 1 (277 * i + k))) ?_ ?_ (F := FU) (i := 0) (s := (0, M)) ⟨rfl, fun _ _ => rfl, fun k h => by omega⟩ (Nat.zero_le _) (FU_gt (by decide))
  · obtain ⟨r, e, q⟩ := hlp
    exact ⟨r, e, q⟩
  · rintro ⟨q1, q2⟩ ⟨k0, k1⟩
    have k0 : q1 = nI 277 := k0
    subst k0
    refine ⟨q2, ?_, k1⟩
    show b_X11_from_35 (nI i) (nI 277) q2 = _
    unfold b_X11_from_35
    rw [if_pos (by decide)]
  · rintro n ⟨q1, q2⟩ hn ⟨k0, k1, k2⟩
    have k0 : q1 = nI n := k0
    subst k0
    have k4 : ∀ j, j ≠ 0 → q2 j = M j := k1
    have k5 : ∀ k, k < n → q2 0 k = M 1 (277 * i + k) := k2
    refine Or.inl ⟨(nI (n + 1), va_up q2 0 (upd (q2 0) n (q2 1 (277 * i + n)))), ?_, rfl, fun j hj => (up_n _ _ hj).trans (k4 j hj), fun k hk => ?_⟩
    · show b_X11_from_35 (nI i) (nI n) q2 = _
      unfold b_X11_from_35
      rw [ln277, i_le (by omega) (by omega), if_neg (by omega), pk_mul, nI_add, q_rd (by omega) (by decide), Option.bind_some, q_wrM (by omega) (by decide), Option.bind_some, Option.bind_some, nI_1]
    · show va_up q2 0 (upd (q2 0) n (q2 1 (277 * i + n))) 0 k = _
      rw [up_s]
      by_cases h9 : k = n
      · rw [h9, pk_us, k4 1 (by decide)]
      · rw [pk_un h9]; exact k5 k (by omega)
theorem ag_img {S S3 : CS} {M M2 : MS} {C : Cmp} (hR : RelC S M C) (h2 : S3.2.2 0 = S.2.2 0) (hk : ∀ k, k ≠ 2 → (k < 12 ∨ (24 ≤ k ∧ k < 2000) ∨ 3000 ≤ k) → S3.1 k = S.1 k) (hm : ∀ j, j = 0 ∨ j = 3 → M2 j = M j) (hi0 : Im0 S3 M2) (hi1 : Im1 S3 M2) : RelC S3 M2 C := by
  obtain ⟨h1, h3, h4, _, h6, h7, h8⟩ := hR
  refine ⟨h1, ?_, ?_, ⟨hi0, hi1⟩, ?_, h7.of (fun k hk2 => hk k (by omega) (by omega)), h8.of (fun k hk2 => hk k (by omega) (by omega))⟩
  · unfold RC
    rw [h2, hk 5 (by decide) (by decide), hk 6 (by decide) (by decide), hk 7 (by decide) (by decide), hk 8 (by decide) (by decide), hk 9 (by decide) (by decide), hk 1306 (by decide) (by decide), hk 1307 (by decide) (by decide), hk 1308 (by decide) (by decide), hk 1309 (by decide) (by decide)]
    exact h3
  · unfold RM
    rw [hm 0 (by decide)]
    exact h4
  · unfold StK
    rw [hm 3 (by decide), hk 1006 (by decide) (by decide), hk 1007 (by decide) (by decide), hk 1008 (by decide) (by decide)]
    exact h6
theorem p_image : ag_image Rel := by
  intro S M h p0
  have h0 := h
  obtain ⟨C, hR⟩ := h
  unfold f_X10_image_0 f_X11_image
  rw [r_in (a := 0) (b := 1) (by rfl) (by rfl) (by decide) (by decide), Option.bind_some]
  rcases tri p0 with hp | ⟨w, hw, rfl⟩
  · rw [if_pos hp, oneI_f (okR_n hp (by decide)), if_pos (c := nI 0 = 0) rfl]
    exact ag_bad h0 _
  · rw [if_neg (nI_pos (by omega))]
    by_cases hw2 : w < 2
    · rw [if_pos (c := nI w < 2) (nI_lt (b := 2) hw2 (by decide)), oneI_t ((okR_j hw (by decide)).mpr ⟨by omega, by omega⟩), if_neg (c := nI 1 = 0) (by decide)]
      obtain ⟨M2, e2, m1, m2, m3⟩ := r_imgL M hw2
      rw [e2, Option.bind_some]
      unfold k_X11_image_19
      rw [q_b1, q_wrM (by omega) (by decide), Option.bind_some]
      rcases (show w = 0 ∨ w = 1 from by omega) with rfl | rfl
      · obtain ⟨S3, e3, s1, s2, s3, s4⟩ := c_copy_10_3 S
        rw [if_pos (c := nI 0 = 0) rfl, e3, Option.bind_some, q_wrI (by decide) (by decide), Option.bind_some]
        refine ⟨1, _, _, rfl, rfl, C, ag_img hR (s2 0 (by decide)) (fun k hk hk2 => ?_) (fun j hj => ?_) (Or.inr ⟨rfl, rfl, C, hR.1, s4 C hR.1 hR.2.1, ?_⟩) ?_⟩
        · rw [siI_n _ _ hk]
          exact s3 k (by omega) (by omega) (by omega) (by omega) (by omega) (by omega) (by omega) (by omega) (by omega)
        · rw [up_n _ _ (by omega)]
          exact m1 j (by omega)
        · exact RMx.cpy hR.2.2.1 hR.1 (fun k hk => m2 k hk)
        · have hI := hR.2.2.2.1.2
          have f2 : (siI S3 2 (upd (S3.1 2) 0 (nI 1))).1 2 1 = S.1 2 1 := by
            show upd (S3.1 2) 0 (nI 1) 1 = _
            rw [pk_un (by decide), s3 2 (by decide) (by decide) (by decide) (by decide) (by decide) (by decide) (by decide) (by decide) (by decide)]
          have g2 : va_up M2 2 (upd (M2 2) 0 (nI 1)) 2 1 = M 2 1 := by
            rw [up_s, pk_un (by decide), m1 2 (by decide)]
          rcases hI with ⟨a1, a2⟩ | ⟨a1, a2, C1, a3, a4, a5⟩
          · exact Or.inl ⟨f2.trans a1, g2.trans a2⟩
          · refine Or.inr ⟨f2.trans a1, g2.trans a2, C1, a3, ?_, a5.cpy a3 (fun k hk => ?_)⟩
            · show RCx (S3.2.2 2) (S3.1 19) (S3.1 20) (S3.1 21) (S3.1 22) (S3.1 23) (S3.1 2706 0) (S3.1 2707 0) (S3.1 2708 0) (S3.1 2709 0) C1
              have f : ∀ k, (k = 19 ∨ k = 20 ∨ k = 21 ∨ k = 22 ∨ k = 23 ∨ 2706 ≤ k) → S3.1 k = S.1 k := fun k hk => s3 k (by omega) (by omega) (by omega) (by omega) (by omega) (by omega) (by omega) (by omega) (by omega)
              rw [s2 2 (by decide), f 19 (by decide), f 20 (by decide), f 21 (by decide), f 22 (by decide), f 23 (by decide), f 2706 (by decide), f 2707 (by decide), f 2708 (by decide), f 2709 (by decide)]
              exact a4
            · show M2 1 (277 * 1 + k) = M 1 (277 * 1 + k)
              exact m3 _ (by omega)
      · obtain ⟨S3, e3, s1, s2, s3, s4⟩ := c_copy_17_3 S
        rw [if_neg (c := nI 1 = 0) (by decide), if_pos (c := nI 1 = 1) rfl, e3, Option.bind_some, q_wrI (by decide) (by decide), Option.bind_some]
        refine ⟨1, _, _, rfl, rfl, C, ag_img hR (s2 0 (by decide)) (fun k hk hk2 => ?_) (fun j hj => ?_) ?_ (Or.inr ⟨rfl, rfl, C, hR.1, s4 C hR.1 hR.2.1, ?_⟩)⟩
        · rw [siI_n _ _ hk]
          exact s3 k (by omega) (by omega) (by omega) (by omega) (by omega) (by omega) (by omega) (by omega) (by omega)
        · rw [up_n _ _ (by omega)]
          exact m1 j (by omega)
        · have hI := hR.2.2.2.1.1
          have f2 : (siI S3 2 (upd (S3.1 2) 1 (nI 1))).1 2 0 = S.1 2 0 := by
            show upd (S3.1 2) 1 (nI 1) 0 = _
            rw [pk_un (by decide), s3 2 (by decide) (by decide) (by decide) (by decide) (by decide) (by decide) (by decide) (by decide) (by decide)]
          have g2 : va_up M2 2 (upd (M2 2) 1 (nI 1)) 2 0 = M 2 0 := by
            rw [up_s, pk_un (by decide), m1 2 (by decide)]
          rcases hI with ⟨a1, a2⟩ | ⟨a1, a2, C1, a3, a4, a5⟩
          · exact Or.inl ⟨f2.trans a1, g2.trans a2⟩
          · refine Or.inr ⟨f2.trans a1, g2.trans a2, C1, a3, ?_, a5.cpy a3 (fun k hk => ?_)⟩
            · show RCx (S3.2.2 1) (S3.1 12) (S3.1 13) (S3.1 14) (S3.1 15) (S3.1 16) (S3.1 2006 0) (S3.1 2007 0) (S3.1 2008 0) (S3.1 2009 0) C1
              have f : ∀ k, (k = 12 ∨ k = 13 ∨ k = 14 ∨ k = 15 ∨ k = 16 ∨ (2000 ≤ k ∧ k < 2700)) → S3.1 k = S.1 k := fun k hk => s3 k (by omega) (by omega) (by omega) (by omega) (by omega) (by omega) (by omega) (by omega) (by omega)
              rw [s2 1 (by decide), f 12 (by decide), f 13 (by decide), f 14 (by decide), f 15 (by decide), f 16 (by decide), f 2006 (by decide), f 2007 (by decide), f 2008 (by decide), f 2009 (by decide)]
              exact a4
            · show M2 1 (277 * 0 + k) = M 1 (277 * 0 + k)
              exact m3 _ (by omega)
        · exact RMx.cpy hR.2.2.1 hR.1 (fun k hk => m2 k hk)
    · rw [if_neg (c := nI w < 2) (nI_nlt (b := 2) (by omega) (by omega)), oneI_f (fun h9 => by have := ((okR_j hw (by decide)).mp h9).2; omega), if_pos (c := nI 0 = 0) rfl]
      exact ag_bad h0 _
theorem ag_frm {S S5 : CS} {M M2 : MS} {C C' : Cmp} (hR : RelC S M C) (hG : Good C') (hC : RC S5 C') (hM : RM M2 C') (h2 : ∀ j, j ≠ 0 → S5.2.2 j = S.2.2 j) (hk : ∀ k, ((10 ≤ k ∧ k < 1300) ∨ (2000 ≤ k ∧ k < 4300) ∨ k = 2) → S5.1 k = S.1 k) (hm : ∀ j, j ≠ 0 → M2 j = M j) (k1 : S5.1 4300 0 = 0) (k2 : S5.1 5000 0 = 0) : RelC S5 M2 C' := by
  obtain ⟨_, _, _, ⟨h4, h5⟩, h6, _, _⟩ := hR
  refine ⟨hG, hC, hM, ⟨?_, ?_⟩, ?_, Or.inl k1, Or.inl k2⟩
  · unfold Im0 RIm0
    rw [hm 1 (by decide), hm 2 (by decide), h2 1 (by decide), hk 2 (by decide), hk 12 (by decide), hk 13 (by decide), hk 14 (by decide), hk 15 (by decide), hk 16 (by decide), hk 2006 (by decide), hk 2007 (by decide), hk 2008 (by decide), hk 2009 (by decide)]
    exact h4
  · unfold Im1 RIm1
    rw [hm 1 (by decide), hm 2 (by decide), h2 2 (by decide), hk 2 (by decide), hk 19 (by decide), hk 20 (by decide), hk 21 (by decide), hk 22 (by decide), hk 23 (by decide), hk 2706 (by decide), hk 2707 (by decide), hk 2708 (by decide), hk 2709 (by decide)]
    exact h5
  · unfold StK
    rw [hm 3 (by decide), hk 1006 (by decide), hk 1007 (by decide), hk 1008 (by decide)]
    exact h6
theorem p_from : ag_from Rel := by
  intro S M h p0
  have h0 := h
  obtain ⟨C, hR⟩ := h
  unfold f_X10_from_0 f_X11_from
  rw [r_in (a := 0) (b := 1) (by rfl) (by rfl) (by decide) (by decide)]
  simp only [Option.bind_some]
  rcases tri p0 with hp | ⟨w, hw, rfl⟩
  · rw [if_pos hp, oneI_f (okR_n hp (by decide)), if_pos (c := nI 0 = 0) rfl]
    exact ag_bad h0 _
  · rw [if_neg (nI_pos (by omega))]
    by_cases hw2 : w < 2
    · rw [if_pos (c := nI w < 2) (nI_lt (b := 2) hw2 (by decide)), oneI_t ((okR_j hw (by decide)).mpr ⟨by omega, by omega⟩), if_neg (c := nI 1 = 0) (by decide), q_rd hw2 (by decide), Option.bind_some, q_rd hw2 (by decide), Option.bind_some, show f_X10_changed_0 S = some (siI (siI S 4300 (fun _ => 0)) 5000 (fun _ => 0)) from rfl, Option.bind_some]
      obtain ⟨M2, e2, m1, m2⟩ := r_fromL M hw2
      rw [e2, Option.bind_some]
      unfold k_X11_from_35
      rcases (show w = 0 ∨ w = 1 from by omega) with rfl | rfl
      · rcases hR.2.2.2.1.1 with ⟨a1, a2⟩ | ⟨a1, a2, C1, a3, a4, a5⟩
        · rw [a1, a2, if_pos (c := (0 : Int32) = 0) rfl, if_pos (c := (0 : Int32) = 0) rfl]
          exact ag_no h0 _
        · obtain ⟨S5, e5, s1, s2, s3, s4⟩ := c_copy_3_10 (siI (siI S 4300 (fun _ => 0)) 5000 (fun _ => 0))
          rw [a1, a2, if_neg (c := (1 : Int32) = 0) (by decide), if_neg (c := (1 : Int32) = 0) (by decide), if_pos (c := nI 0 = 0) rfl, e5, Option.bind_some]
          refine ⟨1, S5, M2, rfl, rfl, C1, ag_frm hR a3 (s4 C1 a3 a4) (a5.cpy a3 (fun k hk => m2 k hk)) (fun j hj => s2 j hj) (fun k hk => ?_) m1 ?_ ?_⟩
          · rw [s3 k (by omega) (by omega) (by omega) (by omega) (by omega) (by omega) (by omega) (by omega) (by omega), siI_n _ _ (by omega), siI_n _ _ (by omega)]
          · rw [s3 4300 (by decide) (by decide) (by decide) (by decide) (by decide) (by decide) (by decide) (by decide) (by decide)]; rfl
          · rw [s3 5000 (by decide) (by decide) (by decide) (by decide) (by decide) (by decide) (by decide) (by decide) (by decide)]; rfl
      · rcases hR.2.2.2.1.2 with ⟨a1, a2⟩ | ⟨a1, a2, C1, a3, a4, a5⟩
        · rw [a1, a2, if_pos (c := (0 : Int32) = 0) rfl, if_pos (c := (0 : Int32) = 0) rfl]
          exact ag_no h0 _
        · obtain ⟨S5, e5, s1, s2, s3, s4⟩ := c_copy_3_17 (siI (siI S 4300 (fun _ => 0)) 5000 (fun _ => 0))
          rw [a1, a2, if_neg (c := (1 : Int32) = 0) (by decide), if_neg (c := (1 : Int32) = 0) (by decide), if_neg (c := nI 1 = 0) (by decide), if_pos (c := nI 1 = 1) rfl, e5, Option.bind_some]
          refine ⟨1, S5, M2, rfl, rfl, C1, ag_frm hR a3 (s4 C1 a3 a4) (a5.cpy a3 (fun k hk => m2 k hk)) (fun j hj => s2 j hj) (fun k hk => ?_) m1 ?_ ?_⟩
          · rw [s3 k (by omega) (by omega) (by omega) (by omega) (by omega) (by omega) (by omega) (by omega) (by omega), siI_n _ _ (by omega), siI_n _ _ (by omega)]
          · rw [s3 4300 (by decide) (by decide) (by decide) (by decide) (by decide) (by decide) (by decide) (by decide) (by decide)]; rfl
          · rw [s3 5000 (by decide) (by decide) (by decide) (by decide) (by decide) (by decide) (by decide) (by decide) (by decide)]; rfl
    · rw [if_neg (c := nI w < 2) (nI_nlt (b := 2) (by omega) (by omega)), oneI_f (fun h9 => by have := ((okR_j hw (by decide)).mp h9).2; omega), if_pos (c := nI 0 = 0) rfl]
      exact ag_bad h0 _
/-! the digest -/
def dgS (f : Nat → Int32) (h : Int64) : Nat → Int64
  | 0 => h
  | i + 1 => 31 * dgS f h i + (f i).toInt64
theorem dgS_c {f g : Nat → Int32} {h : Int64} : ∀ {n}, (∀ i, i < n → f i = g i) → dgS f h n = dgS g h n := by
  intro n
  induction n with
  | zero => intro _; rfl
  | succ n ih =>
    intro e
    show 31 * dgS f h n + (f n).toInt64 = 31 * dgS g h n + (g n).toInt64
    rw [ih (fun i hi => e i (by omega)), e n (by omega)]
theorem r_sums (M : MS) (h : Int64) {a n : Nat} (hn : a + n ≤ 277) : f_X11_sums M h (nI a) (nI n) = some (dgS (fun k => M 0 (a + k)) h n) := by
  unfold f_X11_sums
  have e := lp_seq (b := fun s => b_X11_sums_6 M (nI a) (nI n) s.1 s.2) n (fun i => (dgS (fun k => M 0 (a + k)) h i, nI i)) (dgS (fun k => M 0 (a + k)) h n) ?_ ?_ (F := FU) (FU_gt (by omega))
  · rw [show (h, (0 : Int32)) = (dgS (fun k => M 0 (a + k)) h 0, nI 0) from rfl, e]
    rfl
  · intro i hi
    show b_X11_sums_6 M (nI a) (nI n) (dgS (fun k => M 0 (a + k)) h i) (nI i) = _
    unfold b_X11_sums_6
    rw [i_le (by omega) (by omega), if_neg (by omega), nI_add, q_rd (by omega) (by decide), Option.bind_some, Option.bind_some, Option.bind_some, nI_1]
    rfl
  · show b_X11_sums_6 M (nI a) (nI n) (dgS (fun k => M 0 (a + k)) h n) (nI n) = _
    unfold b_X11_sums_6
    rw [if_pos (nI_le (Nat.le_refl _) (by omega))]
theorem c_digestOf_5 (S : CS) (h : Int64) {n : Nat} (hn : n ≤ 4) : f_X1_digestOf_5 S h (nI n) = some (dgS (S.1 5) h n) := by
  unfold f_X1_digestOf_5
  have e := lp_seq (b := fun s => b_X1_digestOf_5_6 S (nI n) s.1 s.2) n (fun i => (dgS (S.1 5) h i, nI i)) (dgS (S.1 5) h n) ?_ ?_ (F := FU) (FU_gt (by omega))
  · rw [show (h, (0 : Int32)) = (dgS (S.1 5) h 0, nI 0) from rfl, e]
    rfl
  · intro i hi
    show b_X1_digestOf_5_6 S (nI n) (dgS (S.1 5) h i) (nI i) = _
    unfold b_X1_digestOf_5_6
    rw [i_le (by omega) (by omega), if_neg (by omega), ln4, i_le (by omega) (by omega), if_neg (by omega), q_rd (by omega) (by decide), Option.bind_some, Option.bind_some, Option.bind_some, nI_1]
    rfl
  · show b_X1_digestOf_5_6 S (nI n) (dgS (S.1 5) h n) (nI n) = _
    unfold b_X1_digestOf_5_6
    rw [if_pos (nI_le (Nat.le_refl _) (by omega))]
theorem c_digestOf_8 (S : CS) (h : Int64) {n : Nat} (hn : n ≤ 200) : f_X1_digestOf_8 S h (nI n) = some (dgS (S.1 8) h n) := by
  unfold f_X1_digestOf_8
  have e := lp_seq (b := fun s => b_X1_digestOf_8_6 S (nI n) s.1 s.2) n (fun i => (dgS (S.1 8) h i, nI i)) (dgS (S.1 8) h n) ?_ ?_ (F := FU) (FU_gt (by omega))
  · rw [show (h, (0 : Int32)) = (dgS (S.1 8) h 0, nI 0) from rfl, e]
    rfl
  · intro i hi
    show b_X1_digestOf_8_6 S (nI n) (dgS (S.1 8) h i) (nI i) = _
    unfold b_X1_digestOf_8_6
    rw [i_le (by omega) (by omega), if_neg (by omega), ln200, i_le (by omega) (by omega), if_neg (by omega), q_rd (by omega) (by decide), Option.bind_some, Option.bind_some, Option.bind_some, nI_1]
    rfl
  · show b_X1_digestOf_8_6 S (nI n) (dgS (S.1 8) h n) (nI n) = _
    unfold b_X1_digestOf_8_6
    rw [if_pos (nI_le (Nat.le_refl _) (by omega))]
theorem c_digestOf_9 (S : CS) (h : Int64) {n : Nat} (hn : n ≤ 5) : f_X1_digestOf_9 S h (nI n) = some (dgS (S.1 9) h n) := by
  unfold f_X1_digestOf_9
  have e := lp_seq (b := fun s => b_X1_digestOf_9_6 S (nI n) s.1 s.2) n (fun i => (dgS (S.1 9) h i, nI i)) (dgS (S.1 9) h n) ?_ ?_ (F := FU) (FU_gt (by omega))
  · rw [show (h, (0 : Int32)) = (dgS (S.1 9) h 0, nI 0) from rfl, e]
    rfl
  · intro i hi
    show b_X1_digestOf_9_6 S (nI n) (dgS (S.1 9) h i) (nI i) = _
    unfold b_X1_digestOf_9_6
    rw [i_le (by omega) (by omega), if_neg (by omega), ln5, i_le (by omega) (by omega), if_neg (by omega), q_rd (by omega) (by decide), Option.bind_some, Option.bind_some, Option.bind_some, nI_1]
    rfl
  · show b_X1_digestOf_9_6 S (nI n) (dgS (S.1 9) h n) (nI n) = _
    unfold b_X1_digestOf_9_6
    rw [if_pos (nI_le (Nat.le_refl _) (by omega))]
theorem dgS_4 (f : Nat → Int32) (h : Int64) (p : Nat) : dgS f h (4 * (p + 1)) = 31 * (31 * (31 * (31 * dgS f h (4 * p) + (f (4 * p)).toInt64) + (f (4 * p + 1)).toInt64) + (f (4 * p + 2)).toInt64) + (f (4 * p + 3)).toInt64 := rfl
theorem dgS_2 (f : Nat → Int32) (h : Int64) (p : Nat) : dgS f h (2 * (p + 1)) = 31 * (31 * dgS f h (2 * p) + (f (2 * p)).toInt64) + (f (2 * p + 1)).toInt64 := rfl
theorem p_digest : ag_digest Rel := by
  intro S M h
  have h0 := h
  obtain ⟨C, hR⟩ := h
  have hG := hR.1
  have hC := hR.2.1
  have hM := hR.2.2.1
  have hn := hG.p.n
  have hg := hG.g
  have hl := hG.l
  have hd := hG.ln
  have key : ∃ r, f_X10_digest_0 S = some r ∧ f_X11_digest M = some r := by
    unfold f_X10_digest_0 f_X1_digestOfAll_3 f_X11_digest
    rw [hC.q.n, hC.g, hC.l, hC.ln]
    simp only [Option.bind_some]
    have e1 := lp_seq (b := fun s => b_X11_digest_6 M s.1 s.2) 4 (fun j => (dgS (fun k => nI (if k = 0 then caN C else if k = 1 then caG C else if k = 2 then caL C else caLn C)) 631 j, nI j)) (dgS (fun k => nI (if k = 0 then caN C else if k = 1 then caG C else if k = 2 then caL C else caLn C)) 631 4) ?_ ?_ (F := FU) (FU_gt (by decide))
    · rw [show ((631 : Int64), (0 : Int32)) = (dgS (fun k => nI (if k = 0 then caN C else if k = 1 then caG C else if k = 2 then caL C else caLn C)) 631 0, nI 0) from rfl, e1, Option.bind_some]
      unfold k_X11_digest_6
      obtain ⟨H, eH⟩ : ∃ H, H = dgS (fun k => nI (if k = 0 then caN C else if k = 1 then caG C else if k = 2 then caL C else caLn C)) 631 4 := ⟨_, rfl⟩
      have eH2 : (31 * (31 * (31 * (31 * 631 + (nI (caN C)).toInt64) + (nI (caG C)).toInt64) + (nI (caL C)).toInt64) + (nI (caLn C)).toInt64) = H := by rw [eH]; rfl
      rw [← eH, eH2]
      have q1 : f_X11_sums M H 0 (nI (4 * caN C)) = some (dgS (M 0) H (4 * caN C)) := by
        rw [show (0 : Int32) = nI 0 from rfl, r_sums M H (a := 0) (by omega)]
        exact congrArg some (dgS_c (fun i _ => by rw [Nat.zero_add]))
      have q2 : ∀ h, f_X11_sums M h 24 4 = some (dgS (fun k => M 0 (24 + k)) h 4) := fun h => r_sums M h (a := 24) (n := 4) (by decide)
      have q3 : ∀ h, f_X11_sums M h 28 (nI (2 * caG C)) = some (dgS (fun k => M 0 (28 + k)) h (2 * caG C)) := fun h => r_sums M h (a := 28) (by omega)
      have q4 : ∀ h, f_X11_sums M h 74 (nI (caL C)) = some (dgS (fun k => M 0 (74 + k)) h (caL C)) := fun h => r_sums M h (a := 74) (by omega)
      have q5 : ∀ h, f_X11_sums M h 68 (nI (caLn C)) = some (dgS (fun k => M 0 (68 + k)) h (caLn C)) := fun h => r_sums M h (a := 68) (by omega)
      rw [r_porters hM.q, Option.bind_some, ln4, pk_mul, q1, Option.bind_some, show (nI 4 : Int32) = 4 from rfl, q2, Option.bind_some, ln275, q_rd (by decide) (by decide), Option.bind_some, hM.g, ln2, pk_mul, q3, Option.bind_some, r_textLong hM, Option.bind_some, q4, Option.bind_some, ln276, q_rd (by decide) (by decide), Option.bind_some, hM.ln, q5, Option.bind_some]
      have e2 := lp_seq (b := fun s => b_X1_digestOfAll_3_54 S s.1 s.2) (caN C) (fun p => (dgS (M 0) H (4 * p), nI p)) (dgS (M 0) H (4 * caN C)) ?_ ?_ (F := FU) (FU_gt (by omega))
      · rw [show (H, (0 : Int32)) = (dgS (M 0) H (4 * 0), nI 0) from rfl, e2, Option.bind_some]
        unfold k_X1_digestOfAll_3_54
        obtain ⟨H2, eH2⟩ : ∃ H2, H2 = dgS (M 0) H (4 * caN C) := ⟨_, rfl⟩
        rw [← eH2]
        have d5 : f_X1_digestOf_5 S H2 4 = some (dgS (S.1 5) H2 4) := c_digestOf_5 S H2 (n := 4) (by decide)
        have d6 : dgS (S.1 5) H2 4 = dgS (fun k => M 0 (24 + k)) H2 4 := dgS_c (fun i hi => (hC.q.u hi).trans (hM.q.u hi).symm)
        rw [d5, Option.bind_some, d6]
        obtain ⟨H3, eH3⟩ : ∃ H3, H3 = dgS (fun k => M 0 (24 + k)) H2 4 := ⟨_, rfl⟩
        rw [← eH3]
        have e3 := lp_seq (b := fun s => b_X1_digestOfAll_3_148 S s.1 s.2) (caG C) (fun g => (dgS (fun k => M 0 (28 + k)) H3 (2 * g), nI g)) (dgS (fun k => M 0 (28 + k)) H3 (2 * caG C)) ?_ ?_ (F := FU) (FU_gt (by omega))
        · rw [show (H3, (0 : Int32)) = (dgS (fun k => M 0 (28 + k)) H3 (2 * 0), nI 0) from rfl, e3, Option.bind_some]
          unfold k_X1_digestOfAll_3_148
          rw [hC.l, hC.ln, c_digestOf_8 S _ hl, Option.bind_some, c_digestOf_9 S _ hd, Option.bind_some]
          rw [dgS_c (f := S.1 8) (g := fun k => M 0 (74 + k)) (fun i hi => (hC.x hi).trans (hM.x hi).symm), dgS_c (f := S.1 9) (g := fun k => M 0 (68 + k)) (fun i hi => (hC.ld hi).trans (hM.ld hi).symm)]
          exact ⟨_, rfl, rfl⟩
        · intro g hg2
          obtain ⟨a1, a2⟩ := hM.gs hg2
          obtain ⟨b1, b2⟩ := hC.gs hg2
          show b_X1_digestOfAll_3_148 S (dgS (fun k => M 0 (28 + k)) H3 (2 * g)) (nI g) = some (Sum.inl (dgS (fun k => M 0 (28 + k)) H3 (2 * (g + 1)), nI (g + 1)))
          unfold b_X1_digestOfAll_3_148
          rw [hC.g, i_le (by omega) (by omega), if_neg (by omega), q_rd (by omega) (by decide), Option.bind_some, Option.bind_some, q_rd (by omega) (by decide), Option.bind_some, Option.bind_some, Option.bind_some, nI_1, dgS_2, b1, b2, ← a1, ← a2]
          rfl
        · show b_X1_digestOfAll_3_148 S _ (nI (caG C)) = _
          unfold b_X1_digestOfAll_3_148
          rw [hC.g, if_pos (nI_le (Nat.le_refl _) (by omega))]
      · intro p hp
        obtain ⟨a1, a2, a3, a4⟩ := hM.q.p hp
        show b_X1_digestOfAll_3_54 S (dgS (M 0) H (4 * p)) (nI p) = some (Sum.inl (dgS (M 0) H (4 * (p + 1)), nI (p + 1)))
        unfold b_X1_digestOfAll_3_54
        rw [hC.q.n, i_le (by omega) (by omega), if_neg (by omega), c_p hC.q hG.p hp]
        simp only [Option.bind_some, nI_1]
        rw [dgS_4, a1, a2, a3, a4]
      · show b_X1_digestOfAll_3_54 S _ (nI (caN C)) = _
        unfold b_X1_digestOfAll_3_54
        rw [hC.q.n, if_pos (nI_le (Nat.le_refl _) (by omega))]
    · intro j hj
      show b_X11_digest_6 M _ (nI j) = _
      unfold b_X11_digest_6
      rw [ln4, i_le (by omega) (by omega), if_neg (by omega), r_counted hM hj, Option.bind_some, Option.bind_some, Option.bind_some, nI_1]
      rfl
    · show b_X11_digest_6 M _ (nI 4) = _
      unfold b_X11_digest_6
      rw [if_pos (by decide)]
  obtain ⟨r, e1, e2⟩ := key
  exact ⟨r, S, M, ⟨e1, rfl⟩, ⟨e2, rfl⟩, h0⟩
