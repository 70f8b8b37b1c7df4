/-! a text is read -/
theorem r_cpy (M : MS) : ∃ M', lp (fun s => b_X11_read_89 s.1 s.2) FU (0, M) = some M' ∧ (∀ j, j ≠ 0 → M' j = M j) ∧ (∀ k, k < 68 → M' 0 k = M 9 k) ∧ ∀ k, 68 ≤ k → M' 0 k = M 0 k := by
  have hlp := lp_for (b := fun s => b_X11_read_89 s.1 s.2) 68 (fun n s => s.1 = nI n ∧ (∀ j, j ≠ 0 → s.2 j = M j) ∧ (∀ k, k < n → s.2 0 k = M 9 k) ∧ ∀ k, 68 ≤ k → s.2 0 k = M 0 k) (fun r => (∀ j, j ≠ 0 → r j = M j) ∧ (∀ k, k < 68 → r 0 k = M 9 k) ∧ ∀ k, 68 ≤ k → r 0 k = M 0 k) ?_ ?_ (F := FU) (i := 0) (s := (0, M)) ⟨rfl, fun _ _ => rfl, fun k h => by omega, fun _ _ => rfl⟩ (Nat.zero_le _) (FU_gt (by decide))
  · obtain ⟨r, e, q⟩ := hlp
    exact ⟨r, e, q⟩
  · rintro ⟨q1, q2⟩ ⟨k0, k1⟩
    have k0 : q1 = nI 68 := k0
    subst k0
    refine ⟨q2, ?_, k1⟩
    show b_X11_read_89 (nI 68) q2 = _
    unfold b_X11_read_89
    rw [if_pos (by decide)]
  · rintro n ⟨q1, q2⟩ hn ⟨k0, k1, k2, k3⟩
    have k0 : q1 = nI n := k0
    subst k0
    have k4 : ∀ j, j ≠ 0 → q2 j = M j := k1
    have k5 : ∀ k, k < n → q2 0 k = M 9 k := k2
    have k6 : ∀ k, 68 ≤ k → q2 0 k = M 0 k := k3
    refine Or.inl ⟨(nI (n + 1), va_up q2 0 (upd (q2 0) n (q2 9 n))), ?_, rfl, fun j hj => (up_n _ _ hj).trans (k4 j hj), fun k hk => ?_, fun k hk => ?_⟩
    · show b_X11_read_89 (nI n) q2 = _
      unfold b_X11_read_89
      rw [ln68, i_le (by omega) (by omega), if_neg (by omega), q_rd hn (by decide), Option.bind_some, q_wrM (by omega) (by decide), Option.bind_some, Option.bind_some, nI_1]
    · show va_up q2 0 (upd (q2 0) n (q2 9 n)) 0 k = _
      rw [up_s]
      by_cases h9 : k = n
      · rw [h9, pk_us, k4 9 (by decide)]
      · rw [pk_un h9]; exact k5 k (by omega)
    · show va_up q2 0 (upd (q2 0) n (q2 9 n)) 0 k = _
      rw [up_s, pk_un (by omega)]
      exact k6 k hk
def RdQ (S0 : CS) (M0 : MS) (r : Int32 × CS) (r' : Int32 × MS) : Prop := (∃ D, r.1 = -1 ∧ GdD D ∧ DRc r.2 D ∧ rdK S0 r.2 ∧ r'.1 = nI (caG D) ∧ (∀ j, j < 5 → j ≠ 0 → r'.2 j = M0 j) ∧ r'.2 0 274 = nI (caN D) ∧ r'.2 0 275 = nI (caG D) ∧ (∀ p, p < caN D → r'.2 0 (4 * p) = nI (caW D p) ∧ r'.2 0 (4 * p + 1) = nI (caT D p) ∧ r'.2 0 (4 * p + 2) = nI (caH D p) ∧ r'.2 0 (4 * p + 3) = nI (caK D p)) ∧ (∀ i, i < 4 → r'.2 0 (24 + i) = nI (caU D i)) ∧ (∀ g, g < caG D → r'.2 0 (28 + 2 * g) = nI (caGm D g) ∧ r'.2 0 (28 + 2 * g + 1) = nI (caGs D g)) ∧ ∀ k, 68 ≤ k → k ≠ 274 → k ≠ 275 → r'.2 0 k = M0 0 k) ∨ (∃ ta, ta ≤ 200 ∧ r.1 = nI ta ∧ r'.1 = -10 - nI ta ∧ rdK S0 r.2 ∧ ∀ j, j < 5 → r'.2 j = M0 j)
theorem rd_loop {S0 S : CS} {M0 M : MS} {X : Nat → Int32} {L ta tl tk : Nat} {D : Cmp} (hx : Tx S M X L) (h : TR S M L ta tl tk) (hD : DR S M D) (hs : rdK S0 S) (hm : ∀ j, j < 5 → M j = M0 j) : ∃ r r', lp (fun s => b_X8_faultOf_31_3_47 s.1 s.2) FA (0, S) = some r ∧ lp (fun s => b_X11_read_50 s) FU M = some r' ∧ RdQ S0 M0 r r' := by
  refine lp_sim (b := fun s => b_X8_faultOf_31_3_47 s.1 s.2) (b' := fun s => b_X11_read_50 s) (fun n s s' => ∃ it ta tl tk D, n = 200 - it ∧ s.1 = nI it ∧ it ≤ ta ∧ Tx s.2 s' X L ∧ TR s.2 s' L ta tl tk ∧ DR s.2 s' D ∧ rdK S0 s.2 ∧ ∀ j, j < 5 → s' j = M0 j) (RdQ S0 M0) ?_ FA FU 200 (0, S) M ⟨0, ta, tl, tk, D, rfl, rfl, Nat.zero_le _, hx, h, hD, hs, hm⟩ (by decide) (FU_gt (by decide))
  clear hx h hD hs hm
  rintro n ⟨y, S⟩ M ⟨it, ta, tl, tk, D, hn, hy, hit, hx, h, hD, hs, hm⟩
  have hy : y = nI it := hy
  have hx : Tx S M X L := hx
  have h : TR S M L ta tl tk := h
  have hD : DR S M D := hD
  have hs : rdK S0 S := hs
  subst hy
  have hL := hx.1.1
  have h0 := h
  obtain ⟨c6, c4, c5, r5, r6, r7, hl, htk, hpos, _⟩ := h0
  show (∃ r r', b_X8_faultOf_31_3_47 (nI it) S = _ ∧ b_X11_read_50 M = _ ∧ _) ∨ (∃ t t' m, m < n ∧ b_X8_faultOf_31_3_47 (nI it) S = _ ∧ b_X11_read_50 M = _ ∧ _)
  unfold b_X8_faultOf_31_3_47 b_X11_read_50
  rw [c5, r7]
  by_cases h0 : tk = 0
  · obtain ⟨M1, e1, q1, q2, q3⟩ := r_cpy M
    have hcl : (if (200 : Int32) ≤ nI it then (some (Sum.inr ((-1 : Int32), S)) : Option ((Int32 × CS) ⊕ (Int32 × CS))) else if nI tk = 0 then some (Sum.inr (-1, S)) else Option.bind (f_X8_wordAtToken_31 S) (fun r8 => (if r8 = 4 then (bi2 (f_X8_takesPorter_31 S) (fun r20 S21 => j_X8_faultOf_31_3_95 (nI it) r20 S21)) else ((if r8 = 5 then (bi2 (f_X8_takesGo_31 S) (fun r17 S18 => j_X8_faultOf_31_3_95 (nI it) r17 S18)) else (bi2 (f_X8_takesNumber_31 S r8) (fun r15 S16 => j_X8_faultOf_31_3_95 (nI it) r15 S16))))))) = some (Sum.inr (-1, S)) := by
      by_cases h9 : (200 : Int32) ≤ nI it
      · rw [if_pos h9]
      · rw [if_neg h9, if_pos (c := nI tk = 0) (by rw [h0]; rfl)]
    rw [hcl, if_pos (c := nI tk = 0) (by rw [h0]; rfl), e1, Option.bind_some]
    unfold k_X11_read_89
    obtain ⟨hG, hDc, hDr⟩ := hD
    have hn6 := hG.1.n
    have hg20 := hG.2.1
    have e10 : M1 10 0 = nI (caN D) := by rw [q1 10 (by decide)]; exact hDr.1
    have e11 : M1 11 0 = nI (caG D) := by rw [q1 11 (by decide)]; exact hDr.2.2.2.1
    rw [e10, ln274, q_wrM (by decide) (by decide), Option.bind_some]
    have e11b : va_up M1 0 (upd (M1 0) 274 (nI (caN D))) 11 0 = nI (caG D) := e11
    rw [e11b, ln275, q_wrM (by decide) (by decide), Option.bind_some]
    have e9 : va_up (va_up M1 0 (upd (M1 0) 274 (nI (caN D)))) 0 (upd (va_up M1 0 (upd (M1 0) 274 (nI (caN D))) 0) 275 (nI (caG D))) 0 = upd (upd (M1 0) 274 (nI (caN D))) 275 (nI (caG D)) := rfl
    refine Or.inl ⟨_, _, rfl, rfl, Or.inl ⟨D, rfl, hG, hDc, hs, e11, fun j hj hj0 => ?_, ?_, ?_, fun p hp => ?_, fun i hi => ?_, fun g hg => ?_, fun k hk a1 a2 => ?_⟩⟩
    · dsimp only
      rw [up_n _ _ hj0, up_n _ _ hj0, q1 j hj0]
      exact hm j hj
    · show va_up (va_up M1 0 (upd (M1 0) 274 (nI (caN D)))) 0 (upd (va_up M1 0 (upd (M1 0) 274 (nI (caN D))) 0) 275 (nI (caG D))) 0 274 = _
      rw [e9, pk_un (by decide), pk_us]
    · show va_up (va_up M1 0 (upd (M1 0) 274 (nI (caN D)))) 0 (upd (va_up M1 0 (upd (M1 0) 274 (nI (caN D))) 0) 275 (nI (caG D))) 0 275 = _
      rw [e9, pk_us]
    · show upd (upd (M1 0) 274 (nI (caN D))) 275 (nI (caG D)) (4 * p) = _ ∧ upd (upd (M1 0) 274 (nI (caN D))) 275 (nI (caG D)) (4 * p + 1) = _ ∧ upd (upd (M1 0) 274 (nI (caN D))) 275 (nI (caG D)) (4 * p + 2) = _ ∧ upd (upd (M1 0) 274 (nI (caN D))) 275 (nI (caG D)) (4 * p + 3) = _
      rw [pk_un (by omega), pk_un (by omega), pk_un (by omega), pk_un (by omega), pk_un (by omega), pk_un (by omega), pk_un (by omega), pk_un (by omega), q2 _ (by omega), q2 _ (by omega), q2 _ (by omega), q2 _ (by omega)]
      exact hDr.2.1 p hp
    · show upd (upd (M1 0) 274 (nI (caN D))) 275 (nI (caG D)) (24 + i) = _
      rw [pk_un (by omega), pk_un (by omega), q2 _ (by omega)]
      exact hDr.2.2.1 i hi
    · show upd (upd (M1 0) 274 (nI (caN D))) 275 (nI (caG D)) (28 + 2 * g) = _ ∧ upd (upd (M1 0) 274 (nI (caN D))) 275 (nI (caG D)) (28 + 2 * g + 1) = _
      rw [pk_un (by omega), pk_un (by omega), pk_un (by omega), pk_un (by omega), q2 _ (by omega), q2 _ (by omega)]
      exact hDr.2.2.2.2 g hg
    · show upd (upd (M1 0) 274 (nI (caN D))) 275 (nI (caG D)) k = _
      rw [pk_un a2, pk_un a1, q3 k hk, hm 0 (by decide)]
  · have htl := hpos h0
    have hne : ¬ nI tk = 0 := nI_ne0 (by omega) (by omega)
    obtain ⟨v, f, S2, M2, e1, e2, e3, q1, q2, q3, ta2, tl2, tk2, q4, q5, q6⟩ := i_item hx h hD
    have hs2 := hs.tr q2
    have hm2 : ∀ j, j < 5 → M2 j = M0 j := fun j hj => (q3 j hj).trans (hm j hj)
    have hL2 := q4.2.2.2.2.2.2.1
    have hcl : (if v = 4 then (bi2 (f_X8_takesPorter_31 S) (fun r20 S21 => j_X8_faultOf_31_3_95 (nI it) r20 S21)) else ((if v = 5 then (bi2 (f_X8_takesGo_31 S) (fun r17 S18 => j_X8_faultOf_31_3_95 (nI it) r17 S18)) else (bi2 (f_X8_takesNumber_31 S v) (fun r15 S16 => j_X8_faultOf_31_3_95 (nI it) r15 S16))))) = j_X8_faultOf_31_3_95 (nI it) (nI f) S2 := by
      by_cases h4 : v = 4
      · rw [if_pos h4] at e2 ⊢
        rw [e2, q_bi2]
      · rw [if_neg h4] at e2 ⊢
        by_cases h5 : v = 5
        · rw [if_pos h5] at e2 ⊢
          rw [e2, q_bi2]
        · rw [if_neg h5] at e2 ⊢
          rw [e2, q_bi2]
    rw [if_neg (c := (200 : Int32) ≤ nI it) (nI_ge (b := 200) (by omega) (by decide)), if_neg hne, if_neg hne, e1, Option.bind_some, hcl, e3, q_bi2]
    unfold j_X8_faultOf_31_3_95
    rw [q4.1, q4.2.2.1, q4.2.2.2.1, q4.2.2.2.2.2.1]
    rcases (show f = 0 ∨ f = 1 from by omega) with rfl | rfl
    · rw [if_pos (c := nI 0 = 0) rfl, if_pos (c := nI 0 = 0) rfl]
      exact Or.inl ⟨_, _, rfl, rfl, Or.inr ⟨ta2, by omega, rfl, rfl, hs2, hm2⟩⟩
    · obtain ⟨q7, D2, q8⟩ := q6 rfl
      rw [if_neg (c := nI 1 = 0) (by decide), if_neg (c := nI 1 = 0) (by decide)]
      by_cases h3 : nI tk2 = 3
      · obtain ⟨S3, M3, ta3, tl3, tk3, n1, n2, n3, n4, n5, n6, n7⟩ := next3 q5 q4
        rw [if_pos h3, if_pos h3, n1, Option.bind_some, Option.bind_some, n2, Option.bind_some, nI_1]
        have hL3 := n5.2.2.2.2.2.2.1
        refine Or.inr ⟨_, _, 200 - (it + 1), by omega, rfl, rfl, it + 1, ta3, tl3, tk3, D2, rfl, rfl, by omega, n7, n5, ⟨q8.1, n3.dr q8.2.1, q8.2.2.of (n4 9 (by decide)) (n4 10 (by decide)) (n4 11 (by decide))⟩, hs2.tr n3.rd, fun j hj => (n4 j (by omega)).trans (hm2 j hj)⟩
      · rw [if_neg h3, if_neg h3]
        exact Or.inl ⟨_, _, rfl, rfl, Or.inr ⟨ta2, by omega, rfl, rfl, hs2, hm2⟩⟩
theorem RelC.rd {S S' : CS} {M : MS} {C : Cmp} (h : RelC S M C) (f : rdK S S') : RelC S' M C := by
  obtain ⟨h1, h2, h3, ⟨h4, h5⟩, h6, h7, h8⟩ := h
  obtain ⟨_, f1, f2⟩ := f
  refine ⟨h1, ?_, h3, ⟨?_, ?_⟩, ?_, h7.of (fun k hk => f2 k (by omega)), h8.of (fun k hk => f2 k (by omega))⟩
  · unfold RC
    rw [f1 0 (by decide), f2 5 (by decide), f2 6 (by decide), f2 7 (by decide), f2 8 (by decide), f2 9 (by decide), f2 1306 (by decide), f2 1307 (by decide), f2 1308 (by decide), f2 1309 (by decide)]
    exact h2
  · unfold Im0 RIm0
    rw [f1 1 (by decide), f2 2 (by decide), f2 12 (by decide), f2 13 (by decide), f2 14 (by decide), f2 15 (by decide), f2 16 (by decide), f2 2006 (by decide), f2 2007 (by decide), f2 2008 (by decide), f2 2009 (by decide)]
    exact h4
  · unfold Im1 RIm1
    rw [f1 2 (by decide), f2 2 (by decide), f2 19 (by decide), f2 20 (by decide), f2 21 (by decide), f2 22 (by decide), f2 23 (by decide), f2 2706 (by decide), f2 2707 (by decide), f2 2708 (by decide), f2 2709 (by decide)]
    exact h5
  · unfold StK
    rw [f2 1006 (by decide), f2 1007 (by decide), f2 1008 (by decide)]
    exact h6
def D0r : Cmp := (0, fun _ => (0, 0, 0, 0), fun i => [2, 120, 3, 180].getD i 0, (0, fun _ => 0, fun _ => 0), (0, fun _ => 0), (0, fun _ => 0))
theorem q_D0 : ∀ i, i < 4 → ssI 2 i = nI (caU D0r i) ∧ caU D0r i ≤ mostU i := by decide +kernel
def cDay (C D : Cmp) : Cmp := (D.1, D.2.1, D.2.2.1, D.2.2.2.1, C.2.2.2.2.1, C.2.2.2.2.2)
theorem p_read : ag_read Rel := by
  intro S M h
  obtain ⟨C, hR⟩ := h
  have hG := hR.1
  have hC := hR.2.1
  have hM := hR.2.2.1
  have hl := hG.l
  unfold f_X10_read_0 f_X8_faultOf_31_3 f_X1_forgetDay_24 f_X11_read
  have e0 : (if (200 : Int32) < S.1 1308 0 then 200 else S.1 1308 0) = nI (caL C) := by
    rw [hC.l, if_neg (c := (200 : Int32) < nI (caL C)) (nI_nlt (a := 200) hl (by decide))]
  rw [e0]
  simp only [Option.bind_some]
  obtain ⟨S4, eS4⟩ : ∃ S4, S4 = siI (siI (siI (siI (siI (siI S 4103 (fun _ => nI (caL C))) 4104 (fun _ => 0)) 4108 (fun _ => 0)) 3406 (fun _ => 0)) 3407 (fun _ => 0)) 26 (va_cpy (ssI 2) ((siI (siI (siI (siI (siI S 4103 (fun _ => nI (caL C))) 4104 (fun _ => 0)) 4108 (fun _ => 0)) 3406 (fun _ => 0)) 3407 (fun _ => 0)).1 26) 0 0 4) := ⟨_, rfl⟩
  rw [← eS4]
  have hr4 : rdK S S4 := by
    rw [eS4]
    exact ((((((rdK.rf S).si _ (by decide)).si _ (by decide)).si _ (by decide)).si _ (by decide)).si _ (by decide)).si _ (by decide)
  have hxc : TxC S4 (caX C) (caL C) := by
    rw [eS4]
    exact ⟨hl, rfl, fun k hk => hC.x hk⟩
  have hat : S4.1 4104 0 = nI 0 := by rw [eS4]; rfl
  have hDc : DRc S4 D0r := by
    rw [eS4]
    exact ⟨rfl, fun p hp => absurd hp (Nat.not_lt_zero p), fun i hi => (cpy_at hi).trans (q_D0 i hi).1, rfl, fun g hg => absurd hg (Nat.not_lt_zero g), rfl⟩
  rw [show (24 : Int32) = nI 24 from rfl, show (25 : Int32) = nI 25 from rfl, show (26 : Int32) = nI 26 from rfl, show (27 : Int32) = nI 27 from rfl, q_wrM (by decide) (by decide), Option.bind_some, q_wrM (by decide) (by decide), Option.bind_some, q_wrM (by decide) (by decide), Option.bind_some, q_wrM (by decide) (by decide), Option.bind_some]
  obtain ⟨M4, eM4⟩ : ∃ M4, M4 = va_up (va_up M 10 (fun _ => 0)) 11 (fun _ => 0) := ⟨_, rfl⟩
  rw [← eM4]
  obtain ⟨M6, eM6⟩ : ∃ M6, M6 = va_up (va_up (va_up (va_up M4 9 (upd (M4 9) 24 2)) 9 (upd (va_up M4 9 (upd (M4 9) 24 2) 9) 25 120)) 9 (upd (va_up (va_up M4 9 (upd (M4 9) 24 2)) 9 (upd (va_up M4 9 (upd (M4 9) 24 2) 9) 25 120) 9) 26 3)) 9 (upd (va_up (va_up (va_up M4 9 (upd (M4 9) 24 2)) 9 (upd (va_up M4 9 (upd (M4 9) 24 2) 9) 25 120)) 9 (upd (va_up (va_up M4 9 (upd (M4 9) 24 2)) 9 (upd (va_up M4 9 (upd (M4 9) 24 2) 9) 25 120) 9) 26 3) 9) 27 180) := ⟨_, rfl⟩
  rw [← eM6]
  have hk6 : ∀ j, j < 5 → M6 j = M j := fun j hj => by
    rw [eM6, up_n _ _ (by omega), up_n _ _ (by omega), up_n _ _ (by omega), up_n _ _ (by omega), eM4, up_n _ _ (by omega), up_n _ _ (by omega)]
  have h69 : M6 9 = upd (upd (upd (upd (M4 9) 24 2) 25 120) 26 3) 27 180 := by rw [eM6]; rfl
  have hxr : TxR M6 (caX C) (caL C) := by
    unfold TxR
    rw [hk6 0 (by decide)]
    exact ⟨hl, hM.l, fun k hk => hM.x hk⟩
  have hDr : DRr M6 D0r := by
    refine ⟨?_, fun p hp => absurd hp (Nat.not_lt_zero p), fun i hi => ?_, ?_, fun g hg => absurd hg (Nat.not_lt_zero g)⟩
    · rw [eM6, up_n _ _ (by decide), up_n _ _ (by decide), up_n _ _ (by decide), up_n _ _ (by decide), eM4]; rfl
    · rw [h69]
      rcases (show i = 0 ∨ i = 1 ∨ i = 2 ∨ i = 3 from by omega) with rfl | rfl | rfl | rfl
      · rw [pk_un (by decide), pk_un (by decide), pk_un (by decide), pk_us]; rfl
      · rw [pk_un (by decide), pk_un (by decide), pk_us]; rfl
      · rw [pk_un (by decide), pk_us]; rfl
      · rw [pk_us]; rfl
    · rw [eM6, up_n _ _ (by decide), up_n _ _ (by decide), up_n _ _ (by decide), up_n _ _ (by decide), eM4]; rfl
  have hGd : GdD D0r := ⟨⟨Nat.zero_le _, fun p hp => absurd hp (Nat.not_lt_zero p), fun i hi => (q_D0 i hi).2⟩, Nat.zero_le _, fun g hg => absurd hg (Nat.not_lt_zero g)⟩
  obtain ⟨S5, M7, ta, tl, tk, f1, f2, f3, f4, f5, f6, f7⟩ := next2 ⟨hxc, hxr⟩ hat (Nat.zero_le _)
  have f2 : f_X11_look M6 0 = some M7 := f2
  rw [f1, Option.bind_some, f2, Option.bind_some]
  obtain ⟨r, r', g1, g2, g3⟩ := rd_loop (S0 := S) (M0 := M) f7 f5 ⟨hGd, f3.dr hDc, hDr.of (f4 9 (by decide)) (f4 10 (by decide)) (f4 11 (by decide))⟩ (hr4.tr f3.rd) (fun j hj => (f4 j (by omega)).trans (hk6 j hj))
  rw [g1, g2]
  obtain ⟨rv, rS⟩ := r
  obtain ⟨rv', rM⟩ := r'
  rw [q_bi2]
  rcases g3 with ⟨D, a1, a2, a3, a4, a5, a6, a7, a8, a9, a10, a11, a12⟩ | ⟨t, a1, a2, a3, a4, a5⟩
  · have a1 : rv = -1 := a1
    have a5 : rv' = nI (caG D) := a5
    have a3 : DRc rS D := a3
    have a4 : rdK S rS := a4
    subst a1 a5
    rw [if_pos (by rfl), show f_X10_changed_0 rS = some (siI (siI rS 4300 (fun _ => 0)) 5000 (fun _ => 0)) from rfl, Option.bind_some]
    obtain ⟨S9, e9, s1, s2, s3, s4, s5, s6, s7, s8, s9⟩ := c_takeDay_3_24 (siI (siI rS 4300 (fun _ => 0)) 5000 (fun _ => 0))
    rw [e9, Option.bind_some]
    have hg9 : S9.1 1307 0 = nI (caG D) := s9.trans a3.2.2.2.1
    have hk9 : ∀ k, (k < 24 ∨ (33 ≤ k ∧ k < 3400) ∨ 4301 ≤ k) → k ≠ 5 → k ≠ 6 → k ≠ 7 → k ≠ 1306 → k ≠ 1307 → k ≠ 5000 → S9.1 k = S.1 k := fun k hk b1 b2 b3 b4 b5 b6 => by
      rw [s4 k b1 b2 b3 b4 b5, siI_n _ _ b6, siI_n _ _ (by omega)]
      exact a4.2.2 k (by omega)
    have hn6 := a2.1.n
    have hg20 := a2.2.1
    have hgn := hG.ln
    refine ⟨nI (caG D), S9, rM, by rw [hg9], rfl, cDay C D, ⟨a2.1, a2.2.1, a2.2.2, hG.2.2.2⟩, ⟨⟨?_, fun p hp => ?_, fun i hi => ?_⟩, hg9, fun g hg => ?_, ?_, fun k hk => ?_, ?_, fun k hk => ?_⟩, ⟨⟨a7, a9, a10⟩, a8, a11, ?_, fun k hk => ?_, ?_, fun k hk => ?_⟩, ⟨?_, ?_⟩, ?_, Or.inl ?_, Or.inl ?_⟩
    · exact s8.trans a3.1
    · have hp : p < caN D := hp
      exact (s3 p (by omega)).trans (a3.2.1 p hp)
    · exact (s5 i hi).trans (a3.2.2.1 i hi)
    · have hg : g < caG D := hg
      exact ⟨(s6 g (by omega)).trans (a3.2.2.2.2.1 g hg).1, (s7 g (by omega)).trans (a3.2.2.2.2.1 g hg).2⟩
    · rw [hk9 1308 (by decide) (by decide) (by decide) (by decide) (by decide) (by decide) (by decide)]; exact hC.l
    · rw [hk9 8 (by decide) (by decide) (by decide) (by decide) (by decide) (by decide) (by decide)]; exact hC.x hk
    · rw [hk9 1309 (by decide) (by decide) (by decide) (by decide) (by decide) (by decide) (by decide)]; exact hC.ln
    · rw [hk9 9 (by decide) (by decide) (by decide) (by decide) (by decide) (by decide) (by decide)]; exact hC.ld hk
    · exact (a12 73 (by decide) (by decide) (by decide)).trans hM.l
    · have hk : k < caL C := hk
      exact (a12 (74 + k) (by omega) (by omega) (by omega)).trans (hM.x hk)
    · exact (a12 276 (by decide) (by decide) (by decide)).trans hM.ln
    · have hk : k < caLn C := hk
      exact (a12 (68 + k) (by omega) (by omega) (by omega)).trans (hM.ld hk)
    · have f : ∀ k, (k = 2 ∨ (10 ≤ k ∧ k < 24) ∨ (2000 ≤ k ∧ k < 3000)) → S9.1 k = S.1 k := fun k hk => hk9 k (by omega) (by omega) (by omega) (by omega) (by omega) (by omega) (by omega)
      have p1 : S9.2.2 1 = S.2.2 1 := (s2 1 (by decide)).trans (a4.2.1 1 (by decide))
      have m1 : rM 1 = M 1 := a6 1 (by decide) (by decide)
      have m2 : rM 2 = M 2 := a6 2 (by decide) (by decide)
      unfold Im0 RIm0
      rw [p1, m1, m2, f 2 (by decide), f 12 (by decide), f 13 (by decide), f 14 (by decide), f 15 (by decide), f 16 (by decide), f 2006 (by decide), f 2007 (by decide), f 2008 (by decide), f 2009 (by decide)]
      exact hR.2.2.2.1.1
    · have f : ∀ k, (k = 2 ∨ (10 ≤ k ∧ k < 24) ∨ (2000 ≤ k ∧ k < 3000)) → S9.1 k = S.1 k := fun k hk => hk9 k (by omega) (by omega) (by omega) (by omega) (by omega) (by omega) (by omega)
      have p1 : S9.2.2 2 = S.2.2 2 := (s2 2 (by decide)).trans (a4.2.1 2 (by decide))
      have m1 : rM 1 = M 1 := a6 1 (by decide) (by decide)
      have m2 : rM 2 = M 2 := a6 2 (by decide) (by decide)
      unfold Im1 RIm1
      rw [p1, m1, m2, f 2 (by decide), f 19 (by decide), f 20 (by decide), f 21 (by decide), f 22 (by decide), f 23 (by decide), f 2706 (by decide), f 2707 (by decide), f 2708 (by decide), f 2709 (by decide)]
      exact hR.2.2.2.1.2
    · have f : ∀ k, (1000 ≤ k ∧ k < 1300) → S9.1 k = S.1 k := fun k hk => hk9 k (by omega) (by omega) (by omega) (by omega) (by omega) (by omega) (by omega)
      have m3 : rM 3 = M 3 := a6 3 (by decide) (by decide)
      unfold StK
      rw [m3, f 1006 (by decide), f 1007 (by decide), f 1008 (by decide)]
      exact hR.2.2.2.2.1
    · rw [s4 4300 (by decide) (by decide) (by decide) (by decide) (by decide)]; rfl
    · rw [s4 5000 (by decide) (by decide) (by decide) (by decide) (by decide)]; rfl
  · have a2 : rv = nI t := a2
    have a3 : rv' = -10 - nI t := a3
    subst a2 a3
    rw [if_neg (fun h9 => m1_ne (by omega) h9.symm)]
    exact ⟨_, _, _, rfl, rfl, C, (hR.rd a4).m (fun j hj => a5 j (by omega))⟩
theorem agree : Agree Rel := ⟨p_porter, p_put, p_of, p_why, p_type, p_clear, p_read, p_judged, p_there, p_least, p_row, p_worth, p_turns, p_load, p_unload, p_carries, p_fell, p_ropes, p_image, p_from, p_status, p_count, p_digest⟩
