/-! calls: bands, who carries -/
theorem c_plan {S : CS} {M : MS} {C : Cmp} (h : RelC S M C) {b lk : Nat} (hb : b < 64) (hl : lk < 64) : ∃ S', f_X7_plan_33_3 S (nI b) (nI lk) = some S' ∧ PF S S' ∧ PlanOK S' (cp C) b lk ∧ PcK S' C := by
  obtain ⟨S', e, p1, p2, p3, p4, p5⟩ := c_planNew (C := cp C) h.2.1.q.cp h.1.p.cp hb hl
  have new : ∃ S', j_X7_plan_33_3_24 S (nI b) (nI lk) = some S' ∧ PF S S' ∧ PlanOK S' (cp C) b lk ∧ PcK S' C := ⟨S', e, p1, p2, Or.inr ⟨p3, b, lk, hb, hl, p4, p5, p2⟩⟩
  unfold f_X7_plan_33_3
  rcases h.2.2.2.2.2.1 with h0 | ⟨h1, b', lk', hb', hl', h5, h6, h7⟩
  · rw [h0, if_pos (by rfl)]
    exact new
  · rw [h1, if_neg (by decide), h5, h6, i_eq (by omega) (by omega), i_eq (by omega) (by omega)]
    by_cases hbb : b' = b
    · rw [if_pos hbb]
      by_cases hll : lk' = lk
      · rw [if_pos hll]
        subst hbb hll
        exact ⟨S, rfl, PF.rf S, h7, Or.inr ⟨h1, b', lk', hb', hl', h5, h6, h7⟩⟩
      · rw [if_neg hll]
        exact new
    · rw [if_neg hbb]
      exact new
theorem r_lst {M : MS} {C : Cmp} (hM : RMp M C) (hC : Gp C) {b p : Nat} (hb : b < 2 ^ caN C) {k : Int32} {lk : Nat} (hk : (k = -1 ∧ lk = 0) ∨ (p < 6 ∧ k = nI p ∧ lk = 2 ^ p)) : ∃ r M', f_X11_findLeast M (nI b) k = some (r, M') ∧ rk4 M M' ∧ RMp M' C ∧ Z4 M' ∧ Lk M' lk ∧ IsMn C lk b (M' 16 0) ∧ ((M' 16 0 = -1 ∧ r = nI 1000000) ∨ ∃ L v, L ≤ 240 ∧ M' 16 0 = nI L ∧ r = nI v ∧ Lst C lk b L 0 0 v ∧ v < 1000000 ∧ ∀ t, t ≤ L → ∀ s, s < 2 ^ caN C → hrV C lk b L M' t s (Pt C lk b L t s)) := by
  rcases hk with ⟨rfl, rfl⟩ | ⟨hp, rfl, rfl⟩
  · exact r_findLeast hM hC hb (k := -1) (k2 := 6) (lk := 0) (by decide) (fun x hx => ⟨fun _ => Nat.and_zero x, fun _ => q_lk6 x hx⟩) (Or.inl ⟨rfl, rfl⟩)
  · exact r_findLeast hM hC hb (k := nI p) (k2 := p) (lk := 2 ^ p) (by omega) (fun x hx => q_lkp p hp x hx) (Or.inr rfl)
/-- what class and reference found is the same -/
theorem pl_eq {S : CS} {M : MS} {C : Cmp} {b lk : Nat} {r : Int32} (h : PlanOK S C b lk) (hm : IsMn C lk b (M 16 0)) (hd : (M 16 0 = -1 ∧ r = nI 1000000) ∨ ∃ L v, L ≤ 240 ∧ M 16 0 = nI L ∧ r = nI v ∧ Lst C lk b L 0 0 v ∧ v < 1000000 ∧ ∀ t, t ≤ L → ∀ s, s < 2 ^ caN C → hrV C lk b L M t s (Pt C lk b L t s)) : (S.1 4301 0 = -1 ∧ M 16 0 = -1 ∧ r = nI 1000000) ∨ ∃ L v l, L ≤ 240 ∧ S.1 4301 0 = nI L ∧ M 16 0 = nI L ∧ S.1 4302 0 = nI v ∧ r = nI v ∧ v < 1000000 ∧ Lst C lk b L 0 0 v ∧ Rw C lk b L l 0 0 ∧ l.length ≤ 240 ∧ rwA S l ∧ ∀ t, t ≤ L → ∀ s, s < 2 ^ caN C → hrV C lk b L M t s (Pt C lk b L t s) := by
  have he := h.1.uniq hm
  rcases hd with ⟨h1, h2⟩ | ⟨L, v, h1, h2, h3, h4, h5, h6⟩
  · exact Or.inl ⟨he.trans h1, h1, h2⟩
  · obtain ⟨⟨w, w1, w2⟩, l, l1, l2, l3⟩ := h.2 L h1 (he.trans h2)
    obtain rfl := w2.uniq h4
    exact Or.inr ⟨L, w, l, h1, he.trans h2, h2, w1, h3, h5, h4, l1, l2, l3, h6⟩
theorem p_least : ag_least Rel := by
  intro S M h p0 p1
  have h0 := h
  obtain ⟨C, hR⟩ := h
  have hG := hR.1.p
  have hC := hR.2.1.q
  have hM := hR.2.2.1.q
  have hpw := pw_le hG.n
  have hp1 := Nat.one_le_two_pow (n := caN C)
  unfold f_X10_least_0 f_X11_least
  rw [c_hasS hC hG, Option.bind_some, r_isBand hM hG, Option.bind_some]
  by_cases k0 : okR p0 0 (2 ^ caN C - 1)
  · rw [oneI_t k0, if_neg (c := nI 1 = 0) (by decide), if_neg (c := nI 1 = 0) (by decide), r_in (a := 0) (b := 2) (by rfl) (by rfl) (by decide) (by decide), Option.bind_some]
    obtain ⟨b, _, b2, rfl⟩ := k0
    rcases tri p1 with hp | ⟨w, hw, rfl⟩
    · rw [if_pos hp, oneI_f (okR_n hp (by decide)), if_pos (c := nI 0 = 0) rfl]
      exact ag_bad h0 _
    · rw [if_neg (nI_pos (by omega)), ln2, i_le (by omega) (by omega)]
      by_cases hw2 : w ≤ 2
      · obtain ⟨S6, e6, s1, s2, s3⟩ := c_plan hR (b := b) (lk := 0) (by omega) (by decide)
        have e6 : f_X7_plan_33_3 S (nI b) 0 = some S6 := e6
        obtain ⟨r, M6, f6, m1, m2, m3, m4, m5, m6⟩ := r_lst (C := cp C) (p := 0) hM.cp hG.cp (b := b) (show b < 2 ^ caN C by omega) (Or.inl ⟨rfl, rfl⟩)
        rw [if_pos hw2, oneI_t ((okR_j hw (by decide)).mpr ⟨by omega, by omega⟩), if_neg (c := nI 1 = 0) (by decide), e6, Option.bind_some, f6, q_bi2]
        have hR6 := (hR.pf s1 s3).m m1
        rcases pl_eq s2 m5 m6 with ⟨g1, g2, g3⟩ | ⟨L, v, l, g1, g2, g3, g4, g5, g6, g7, g8, g9, g10, g11⟩
        · rw [g1, g2, if_pos (by rfl), if_pos (by rfl)]
          exact ⟨-1, S6, M6, rfl, rfl, C, hR6⟩
        · obtain ⟨M7, l', f7, n1, n2, n3, n4⟩ := r_layRow m2 hG.cp m3 m4 g1 g3 g11 ⟨v, g7.1⟩
          obtain rfl := g8.uniq n2
          have hR7 : RelC S6 M7 C := hR6.m (fun j hj => n1 j (by omega) (by omega) (by omega))
          have h16 : M7 16 0 = nI L := by rw [n1 16 (by decide) (by decide) (by decide)]; exact g3
          have hL1 : ¬ nI L = -1 := fun h9 => m1_ne (by omega) h9.symm
          rw [g2, g3, if_neg (c := nI L = -1) hL1, if_neg (c := nI L = -1) hL1, f7, Option.bind_some, h16, g4, g5, g10.1, n4.1]
          by_cases hw0 : w = 0
          · have e0 : nI w = 0 := by rw [hw0]; rfl
            rw [if_pos (c := nI w = 0) e0, if_pos (c := nI w = 0) e0]
            exact ⟨_, S6, M7, rfl, rfl, C, hR7⟩
          · have e0 : ¬ nI w = 0 := nI_ne0 (by omega) (by omega)
            rw [if_neg (c := nI w = 0) e0, if_neg (c := nI w = 0) e0]
            by_cases hw1 : w = 1
            · have e1 : nI w = 1 := by rw [hw1]; rfl
              rw [if_pos (c := nI w = 1) e1, if_pos (c := nI w = 1) e1]
              exact ⟨_, S6, M7, rfl, rfl, C, hR7⟩
            · have e1 : ¬ nI w = 1 := fun h9 => hw1 ((nI_eq (a := w) (b := 1) (by omega) (by decide)).mp h9)
              rw [if_neg (c := nI w = 1) e1, if_neg (c := nI w = 1) e1]
              exact ⟨_, S6, M7, rfl, rfl, C, hR7⟩
      · rw [if_neg hw2, oneI_f (fun h9 => hw2 ((okR_j hw (by decide)).mp h9).2), if_pos (c := nI 0 = 0) rfl]
        exact ag_bad h0 _
  · rw [oneI_f k0, if_pos (c := nI 0 = 0) rfl, if_pos (c := nI 0 = 0) rfl]
    exact ag_bad h0 _
theorem p_row : ag_row Rel := by
  intro S M h p0 p1
  have h0 := h
  obtain ⟨C, hR⟩ := h
  have hG := hR.1.p
  have hC := hR.2.1.q
  have hM := hR.2.2.1.q
  have hpw := pw_le hG.n
  have hp1 := Nat.one_le_two_pow (n := caN C)
  unfold f_X10_row_0 f_X11_row
  rw [c_hasS hC hG, Option.bind_some, r_isBand hM hG, Option.bind_some]
  by_cases k0 : okR p0 0 (2 ^ caN C - 1)
  · rw [oneI_t k0, if_neg (c := nI 1 = 0) (by decide), if_neg (c := nI 1 = 0) (by decide)]
    obtain ⟨b, _, b2, rfl⟩ := k0
    rcases tri p1 with hp | ⟨w, hw, rfl⟩
    · have hno : ¬ 0 ≤ p1 := by
        rw [Int32.le_iff_toInt_le]
        rw [Int32.lt_iff_toInt_lt] at hp
        omega
      rw [if_neg hno, if_neg hno]
      exact ag_bad h0 _
    · obtain ⟨S6, e6, s1, s2, s3⟩ := c_plan hR (b := b) (lk := 0) (by omega) (by decide)
      have e6 : f_X7_plan_33_3 S (nI b) 0 = some S6 := e6
      obtain ⟨r, M6, f6, m1, m2, m3, m4, m5, m6⟩ := r_lst (C := cp C) (p := 0) hM.cp hG.cp (b := b) (show b < 2 ^ caN C by omega) (Or.inl ⟨rfl, rfl⟩)
      have hw0 : (0 : Int32) ≤ nI w := nI_pos' (by omega)
      rw [if_pos hw0, if_pos hw0, e6, Option.bind_some, f6, q_bi2]
      have hR6 := (hR.pf s1 s3).m m1
      rcases pl_eq s2 m5 m6 with ⟨g1, g2, g3⟩ | ⟨L, v, l, g1, g2, g3, g4, g5, g6, g7, g8, g9, g10, g11⟩
      · rw [g1, g2, if_pos (by rfl), if_pos (by rfl)]
        exact ⟨-5, S6, M6, rfl, rfl, C, hR6⟩
      · obtain ⟨M7, l', f7, n1, n2, n3, n4⟩ := r_layRow m2 hG.cp m3 m4 g1 g3 g11 ⟨v, g7.1⟩
        obtain rfl := g8.uniq n2
        have hR7 : RelC S6 M7 C := hR6.m (fun j hj => n1 j (by omega) (by omega) (by omega))
        have hL1 : ¬ nI L = -1 := fun h9 => m1_ne (by omega) h9.symm
        rw [g2, g3, if_neg (c := nI L = -1) hL1, if_neg (c := nI L = -1) hL1, f7, Option.bind_some, g10.1, n4.1, i_le (by omega) (by omega), i_le (by omega) (by omega)]
        by_cases hwl : l.length ≤ w
        · rw [if_pos hwl, if_pos hwl]
          exact ⟨-5, S6, M7, rfl, rfl, C, hR7⟩
        · rw [if_neg hwl, if_neg hwl, ln240, i_lt (by omega) (by omega), if_pos (by omega), q_rd (by omega) (by decide), Option.bind_some, q_rd (by omega) (by decide), Option.bind_some, q_rd (by omega) (by decide), Option.bind_some, g10.2 w (by omega), (n4.2 w (by omega)).1, (n4.2 w (by omega)).2, ln64, pk_mul, nI_add]
          exact ⟨_, S6, M7, rfl, rfl, C, hR7⟩
  · rw [oneI_f k0, if_pos (c := nI 0 = 0) rfl, if_pos (c := nI 0 = 0) rfl]
    exact ag_bad h0 _
theorem ag_no {S : CS} {M : MS} (h : Rel S M) (v : Int32) : ∃ r S' M', Option.bind (some (siI S 1007 (fun _ => (S.1 1007 0) + 1))) (fun S13 => some (v, S13)) = some (r, S') ∧ bi2 (f_X11_no M v) (fun r1 M2 => some (r1, M2)) = some (r, M') ∧ Rel S' M' :=
  ⟨v, _, _, rfl, by rw [r_no]; rfl, h.no⟩
theorem p_worth : ag_worth Rel := by
  intro S M h p0 p1
  have h0 := h
  obtain ⟨C, hR⟩ := h
  have hG := hR.1.p
  have hC := hR.2.1.q
  have hM := hR.2.2.1.q
  have hn6 := hG.n
  have hpw := pw_le hG.n
  have hp1 := Nat.one_le_two_pow (n := caN C)
  unfold f_X10_worth_0 f_X11_worth
  rw [c_hasS hC hG, Option.bind_some, r_isBand hM hG, Option.bind_some]
  by_cases k0 : okR p0 0 (2 ^ caN C - 1)
  · rw [oneI_t k0, if_neg (c := nI 1 = 0) (by decide), if_neg (c := nI 1 = 0) (by decide), c_hasP hC hG, Option.bind_some, r_isPorter hM hG, Option.bind_some]
    obtain ⟨b, _, b2, rfl⟩ := k0
    by_cases k1 : ∃ j, j < caN C ∧ p1 = nI j
    · rw [oneI_t k1, if_neg (c := nI 1 = 0) (by decide), if_neg (c := nI 1 = 0) (by decide)]
      obtain ⟨p, hp, rfl⟩ := k1
      have hbl := bN_lt b p
      have hbit : (nI b >>> (nI p &&& 31)) &&& 1 = nI (bN b p) := q_bit (by omega) (by omega)
      have hshl : (1 : Int32) <<< (nI p &&& 31) = nI (2 ^ p) := q_shl (by omega)
      rw [c_hasPorterIn (by omega) (by omega), Option.bind_some, hbit, hshl]
      by_cases hbp : bN b p = 0
      · rw [if_pos (c := nI (bN b p) = 0) (by rw [hbp]; rfl), if_neg (c := nI (bN b p) = 1) (by rw [hbp]; decide)]
        have h2p : 2 ^ p < 64 := Nat.pow_lt_pow_right (m := p) (n := 6) (by decide) (by omega)
        obtain ⟨S8, e8, s1, s2, s3⟩ := c_plan hR (b := b) (lk := 2 ^ p) (by omega) h2p
        have hR8 := hR.pf s1 s3
        obtain ⟨S11, e11, t1, t2, t3⟩ := c_plan hR8 (b := b) (lk := 0) (by omega) (by decide)
        have e11 : f_X7_plan_33_3 S8 (nI b) 0 = some S11 := e11
        obtain ⟨r7, M8, f8, m1, m2, m3, m4, m5, m6⟩ := r_lst (C := cp C) (p := 0) hM.cp hG.cp (b := b) (show b < 2 ^ caN C by omega) (Or.inl ⟨rfl, rfl⟩)
        obtain ⟨r9, M10, f10, n1, n2, n3, n4, n5, n6⟩ := r_lst (C := cp C) (p := p) (M := M8) m2 hG.cp (b := b) (show b < 2 ^ caN C by omega) (Or.inr ⟨by omega, rfl, rfl⟩)
        have hR11 : RelC S11 M10 C := (hR8.pf t1 t3).m (fun j hj => (n1 j hj).trans (m1 j hj))
        rw [e8, Option.bind_some, f8, q_bi2, f10, q_bi2]
        unfold j_X10_worth_0_69
        simp only [Option.bind_some, e11]
        rcases pl_eq s2 n5 n6 with ⟨g1, g2, g3⟩ | ⟨L, v, l, g1, g2, g3, g4, g5, g6, _⟩
        · rw [g1, if_pos (by rfl), if_neg (by decide), g3]
          have eno : ∀ x : Int32, (if x = 1000000 then bi2 (f_X11_no M10 (-2000)) (fun r11 M12 => some (r11, M12)) else if nI 1000000 = 1000000 then bi2 (f_X11_no M10 (-2000)) (fun r13 M14 => some (r13, M14)) else some (nI 1000000 - x, M10)) = bi2 (f_X11_no M10 (-2000)) (fun r11 M12 => some (r11, M12)) := by
            intro x
            by_cases hx : x = 1000000
            · rw [if_pos hx]
            · rw [if_neg hx, if_pos (by rfl)]
          rw [eno]
          exact ag_no ⟨C, hR11⟩ _
        · have e9 : ¬ nI v = 1000000 := fun h9 => by
            rw [ln1000000] at h9
            have := (nI_eq (by omega) (by omega)).mp h9
            omega
          rw [g2, if_neg (fun h9 => m1_ne (by omega) h9.symm), if_pos (by trivial), g5, if_neg (c := nI v = 1000000) e9]
          rcases pl_eq t2 m5 m6 with ⟨k1, k2, k3⟩ | ⟨L2, v2, l2, k1, k2, k3, k4, k5, k6, _⟩
          · rw [k1, if_pos (by rfl), k3, if_pos (by rfl)]
            exact ag_no ⟨C, hR11⟩ _
          · have e7 : ¬ nI v2 = 1000000 := fun h9 => by
              rw [ln1000000] at h9
              have := (nI_eq (by omega) (by omega)).mp h9
              omega
            rw [k2, if_neg (fun h9 => m1_ne (by omega) h9.symm), k5, if_neg (c := nI v2 = 1000000) e7, g4, k4]
            exact ⟨_, S11, M10, rfl, rfl, C, hR11⟩
      · rw [if_neg (c := nI (bN b p) = 0) (nI_ne0 (by omega) (by omega)), if_pos (c := nI (bN b p) = 1) (by rw [show bN b p = 1 from by omega]; rfl)]
        exact ag_bad h0 _
    · rw [oneI_f k1, if_pos (c := nI 0 = 0) rfl, if_pos (c := nI 0 = 0) rfl]
      exact ag_bad h0 _
  · rw [oneI_f k0, if_pos (c := nI 0 = 0) rfl, if_pos (c := nI 0 = 0) rfl]
    exact ag_bad h0 _
/-! who carries -/
theorem c_shr {S : CS} {M : MS} {C : Cmp} (h : RelC S M C) : ∃ S', f_X5_share_40_3 S = some S' ∧ RelC S' M C ∧ BsK (cl C) ((caN C + 1) ^ caLn C) (S'.1 5001 0) (S'.1 41) := by
  rcases h.2.2.2.2.2.2 with h0 | ⟨h1, h2⟩
  · have hC := h.2.1
    obtain ⟨S', e, f, k1, k2⟩ := c_share (S := S) (C := cl C) hC.q h.1.p ⟨h.1.ln, fun k hk => h.1.ld hk⟩ hC.ln (fun k hk => hC.ld hk) h0
    exact ⟨S', e, h.lf f (Or.inr ⟨k1, k2⟩), k2⟩
  · refine ⟨S, ?_, h, h2⟩
    unfold f_X5_share_40_3
    rw [h1, if_neg (by decide)]
theorem p_carries : ag_carries Rel := by
  intro S M h p0
  have h0 := h
  obtain ⟨C, hR⟩ := h
  have hC := hR.2.1
  have hM := hR.2.2.1
  have hl5 := hR.1.ln
  have hgd : GdL (cl C) := ⟨hR.1.ln, fun k hk => hR.1.ld hk⟩
  have hpos : 0 < (caN C + 1) ^ caLn C := Nat.pow_pos (by omega)
  obtain ⟨S', e, hR', hB⟩ := c_shr hR
  obtain ⟨v, M', f, k1, k2⟩ := r_carriesB (C := cl C) (M0 := M) hM.q hR.1.p hgd hM.ln (fun k hk => hM.ld hk)
  have fc : lp (fun s => b_X11_carries_33 M s.1 s.2) FU (1, 0) = some (nI ((caN C + 1) ^ caLn C)) := r_codes (C := cl C) hM.q hR.1.p hgd hM.ln
  have f : lp (fun s => b_X11_carries_65 (nI ((caN C + 1) ^ caLn C)) s.1 s.2.1 s.2.2) FU ((-1), 0, M) = some (v, M') := f
  have hu := hB.uniq k2 hpos
  have hRR : RelC S' M' C := hR'.m k1
  have hsub : (nI (caLn C) - 1).toInt = (caLn C : Int) - 1 := pk_sub_toInt (a := caLn C) (b := 1) (by omega) (by decide)
  have hm1 : (-1 : Int32).toInt = -1 := rfl
  unfold f_X10_carries_0 f_X11_carries
  rw [ln276, q_rd (by decide) (by decide), Option.bind_some, hM.ln, q_in (-1) (nI (caLn C) - 1) (by rfl) (by rfl), Option.bind_some, hC.ln, fc, Option.bind_some, e, Option.bind_some]
  unfold k_X11_carries_33
  rw [f, Option.bind_some]
  unfold k_X11_carries_65
  dsimp only
  rcases tri p0 with hp | ⟨w, hw, rfl⟩
  · by_cases hpm : p0 = -1
    · subst hpm
      rw [if_neg (by decide), if_neg (nI_nm1 (by omega)), if_pos (c := (-1 : Int32) < 5) (by decide), if_pos (by rfl), if_pos (c := (-1 : Int32) ≤ -1 ∧ (-1 : Int32) ≤ nI (caLn C) - 1) ⟨by decide, by rw [Int32.le_iff_toInt_le, hsub, hm1]; omega⟩, if_neg (by decide), if_pos (by rfl), ← hu.1]
      exact ⟨_, S', M', rfl, rfl, C, hRR⟩
    · have hlt : p0 < -1 := by
        rw [Int32.lt_iff_toInt_lt] at hp ⊢
        have e1 : (0 : Int32).toInt = 0 := rfl
        have hne : p0.toInt ≠ -1 := fun h9 => hpm (Int32.toInt_inj.mp (h9.trans hm1.symm))
        omega
      rw [if_pos hlt, if_neg (c := (-1 : Int32) ≤ p0 ∧ p0 ≤ nI (caLn C) - 1) (fun h9 => by
        have h1 := Int32.le_iff_toInt_le.mp h9.1
        have h2 := Int32.lt_iff_toInt_lt.mp hlt
        omega), if_pos (by rfl)]
      exact ag_bad h0 _
  · have hwi : (nI w).toInt = (w : Int) := nI_toInt (by omega)
    rw [if_neg (c := nI w < -1) (by rw [Int32.lt_iff_toInt_lt, hwi, hm1]; omega), i_le (by omega) (by omega)]
    by_cases hwl : caLn C ≤ w
    · rw [if_pos hwl, if_neg (c := (-1 : Int32) ≤ nI w ∧ nI w ≤ nI (caLn C) - 1) (fun h9 => by
        have h2 := Int32.le_iff_toInt_le.mp h9.2
        rw [hwi, hsub] at h2
        omega), if_pos (by rfl)]
      exact ag_bad h0 _
    · rw [if_neg hwl, ln5, i_lt (by omega) (by omega), if_pos (by omega), if_neg (c := nI w = -1) (fun h9 => m1_ne (by omega) h9.symm), q_rd (by omega) (by decide), Option.bind_some, if_pos (c := (-1 : Int32) ≤ nI w ∧ nI w ≤ nI (caLn C) - 1) ⟨by rw [Int32.le_iff_toInt_le, hwi, hm1]; omega, by rw [Int32.le_iff_toInt_le, hwi, hsub]; omega⟩, if_neg (c := nI 1 = 0) (by decide), if_neg (c := nI w = -1) (fun h9 => m1_ne (by omega) h9.symm), q_rd (by omega) (by decide), Option.bind_some, ← hu.2 w (show w < caLn C by omega)]
      exact ⟨_, S', M', rfl, rfl, C, hRR⟩
