/-! a go -/
def cGo (D : Cmp) (t s : Nat) : Cmp := (D.1, D.2.1, D.2.2.1, (caG D + 1, (fun g => if g = caG D then t else caGm D g), (fun g => if g = caG D then s else caGs D g)), D.2.2.2.2)
theorem g_fin {S : CS} {M : MS} {X : Nat → Int32} {L ta tl tk t a b : Nat} {D : Cmp} (hx : Tx S M X L) (h : TR S M L ta tl tk) (hD : DR S M D) (hg : caG D < 20) (ht : t < 240) (h9 : M 9 (28 + 2 * caG D) = nI t) (ha : a < caN D) (hb : b < caN D) : ∃ S' M', j_X8_takesGo_31_102 (nI t) (nI a) (nI b) S = some (1, S') ∧ j_X11_readGo_138 (nI (2 ^ a ||| 2 ^ b)) M = some (1, M') ∧ rdK S S' ∧ (∀ j, j < 5 → M' j = M j) ∧ TR S' M' L ta tl tk ∧ Tx S' M' X L ∧ DR S' M' (cGo D t (2 ^ a ||| 2 ^ b)) := by
  have hn := hD.1.1.n
  obtain ⟨hG, hDc, hDr⟩ := hD
  have hcl : j_X8_takesGo_31_102 (nI t) (nI a) (nI b) S = some (1, siI (siI (siI (siI S 4108 (fun _ => nI t)) 27 (upd (S.1 27) (caG D) (nI t))) 28 (upd (S.1 28) (caG D) (nI (2 ^ a ||| 2 ^ b)))) 3407 (fun _ => nI (caG D) + 1)) := by
    unfold j_X8_takesGo_31_102 f_X1_addGo_24
    rw [Option.bind_some, q_pr (by omega) (by omega)]
    have e1 : (siI S 4108 (fun _ => nI t)).1 3407 0 = nI (caG D) := hDc.2.2.2.1
    rw [e1, if_neg (c := (20 : Int32) ≤ nI (caG D)) (nI_ge (b := 20) hg (by decide)), q_wrI hg (by decide), Option.bind_some]
    have e2 : (siI (siI S 4108 (fun _ => nI t)) 27 (upd ((siI S 4108 (fun _ => nI t)).1 27) (caG D) (nI t))).1 3407 0 = nI (caG D) := hDc.2.2.2.1
    rw [e2, q_wrI hg (by decide), Option.bind_some, Option.bind_some, Option.bind_some]
    have e3 : (siI (siI (siI S 4108 (fun _ => nI t)) 27 (upd ((siI S 4108 (fun _ => nI t)).1 27) (caG D) (nI t))) 28 (upd ((siI (siI S 4108 (fun _ => nI t)) 27 (upd ((siI S 4108 (fun _ => nI t)).1 27) (caG D) (nI t))).1 28) (caG D) (nI (2 ^ a ||| 2 ^ b)))).1 3407 0 = nI (caG D) := hDc.2.2.2.1
    rw [e3]
    rfl
  have hrf : j_X11_readGo_138 (nI (2 ^ a ||| 2 ^ b)) M = some (1, va_up (va_up M 9 (upd (M 9) (28 + 2 * caG D + 1) (nI (2 ^ a ||| 2 ^ b)))) 11 (fun _ => nI (caG D) + 1)) := by
    unfold j_X11_readGo_138
    have ei : (28 : Int32) + 2 * nI (caG D) + 1 = nI (28 + 2 * caG D + 1) := by rw [ln28, ln2, pk_mul, nI_add, nI_1]
    rw [hDr.2.2.2.1, ei, q_wrM (by omega) (by decide), Option.bind_some, Option.bind_some]
    have e1 : va_up M 9 (upd (M 9) (28 + 2 * caG D + 1) (nI (2 ^ a ||| 2 ^ b))) 11 0 = nI (caG D) := hDr.2.2.2.1
    rw [e1]
  refine ⟨_, _, hcl, hrf, ((((rdK.rf S).si _ (by decide)).si _ (by decide)).si _ (by decide)).si _ (by decide), fun j hj => (up_n _ _ (by omega)).trans (up_n _ _ (by omega)), h, hx, ⟨hG.1, (show caG D + 1 ≤ 20 by omega), fun g hg2 => ?_⟩, ⟨hDc.1, hDc.2.1, hDc.2.2.1, nI_1 _, fun g hg2 => ?_, ?_⟩, ⟨hDr.1, fun p hp => ?_, fun i hi => ?_, nI_1 _, fun g hg2 => ?_⟩⟩
  · have hg2 : g < caG D + 1 := hg2
    show (if g = caG D then t else caGm D g) < 240 ∧ (if g = caG D then 2 ^ a ||| 2 ^ b else caGs D g) < 2 ^ caN D
    by_cases h8 : g = caG D
    · rw [if_pos h8, if_pos h8]
      exact ⟨ht, q_prn (caN D) hn a ha b hb⟩
    · rw [if_neg h8, if_neg h8]; exact hG.2.2 g (by omega)
  · have hg2 : g < caG D + 1 := hg2
    show upd (S.1 27) (caG D) (nI t) g = nI (if g = caG D then t else caGm D g) ∧ upd (S.1 28) (caG D) (nI (2 ^ a ||| 2 ^ b)) g = nI (if g = caG D then 2 ^ a ||| 2 ^ b else caGs D g)
    by_cases h8 : g = caG D
    · rw [if_pos h8, if_pos h8, h8, pk_us, pk_us]
      exact ⟨rfl, rfl⟩
    · rw [if_neg h8, if_neg h8, pk_un h8, pk_un h8]; exact hDc.2.2.2.2.1 g (by omega)
  · show nI t = nI (if caG D + 1 = 0 then 0 else (if caG D + 1 - 1 = caG D then t else caGm D (caG D + 1 - 1)))
    rw [if_neg (by omega), if_pos (by omega)]
  · have hp : p < caN D := hp
    show upd (M 9) (28 + 2 * caG D + 1) (nI (2 ^ a ||| 2 ^ b)) (4 * p) = _ ∧ upd (M 9) (28 + 2 * caG D + 1) (nI (2 ^ a ||| 2 ^ b)) (4 * p + 1) = _ ∧ upd (M 9) (28 + 2 * caG D + 1) (nI (2 ^ a ||| 2 ^ b)) (4 * p + 2) = _ ∧ upd (M 9) (28 + 2 * caG D + 1) (nI (2 ^ a ||| 2 ^ b)) (4 * p + 3) = _
    rw [pk_un (by omega), pk_un (by omega), pk_un (by omega), pk_un (by omega)]
    exact hDr.2.1 p hp
  · show upd (M 9) (28 + 2 * caG D + 1) (nI (2 ^ a ||| 2 ^ b)) (24 + i) = _
    rw [pk_un (by omega)]
    exact hDr.2.2.1 i hi
  · have hg2 : g < caG D + 1 := hg2
    show upd (M 9) (28 + 2 * caG D + 1) (nI (2 ^ a ||| 2 ^ b)) (28 + 2 * g) = nI (if g = caG D then t else caGm D g) ∧ upd (M 9) (28 + 2 * caG D + 1) (nI (2 ^ a ||| 2 ^ b)) (28 + 2 * g + 1) = nI (if g = caG D then 2 ^ a ||| 2 ^ b else caGs D g)
    by_cases h8 : g = caG D
    · rw [if_pos h8, if_pos h8, h8, pk_us, pk_un (by omega)]
      exact ⟨h9, rfl⟩
    · rw [if_neg h8, if_neg h8, pk_un (by omega), pk_un (by omega)]; exact hDr.2.2.2.2 g (by omega)
theorem q_lt1 {v : Int32} {n : Nat} (hn : n < 1000) (h0 : (0 : Int32) ≤ v) (h1 : v ≤ nI n - 1) : ∃ a, a < n ∧ v = nI a := by
  rcases tri v with h | ⟨a, ha, rfl⟩
  · exact absurd h (Int32.not_lt.mpr h0)
  · refine ⟨a, ?_, rfl⟩
    have hs : (nI n - 1).toInt = (n : Int) - 1 := pk_sub_toInt (a := n) (b := 1) (by omega) (by decide)
    rw [Int32.le_iff_toInt_le, nI_toInt (by omega), hs] at h1
    omega
theorem lstM_lt {D : Cmp} (h : GdD D) : lstM D < 240 := by
  unfold lstM
  by_cases h0 : caG D = 0
  · rw [if_pos h0]; decide
  · rw [if_neg h0]; exact (h.2.2 _ (by omega)).1
theorem g_item {S : CS} {M : MS} {X : Nat → Int32} {L ta tl tk : Nat} {D : Cmp} (hx : Tx S M X L) (h : TR S M L ta tl tk) (hD : DR S M D) : ∃ f S' M', f_X8_takesGo_31 S = some (nI f, S') ∧ f_X11_readGo M = some (nI f, M') ∧ ItP S S' M M' X L (ta + tl) f := by
  have hn := hD.1.1.n
  have hg20 := hD.1.2.1
  have hlm := lstM_lt hD.1
  unfold f_X8_takesGo_31 f_X11_readGo
  rw [hD.2.1.2.2.2.1, hD.2.2.2.2.2.1, ln20, i_lt (by omega) (by omega), i_eq (by omega) (by omega)]
  by_cases h20 : caG D < 20
  · obtain ⟨S1, M1, ta1, tl1, tk1, e1, e2, k1, k2, k3, k4, k5⟩ := next3 hx h
    have hD1 : DRc S1 D := k1.dr hD.2.1
    have hM1 : DRr M1 D := hD.2.2.of (k2 9 (by decide)) (k2 10 (by decide)) (k2 11 (by decide))
    have hlo : (if M1 11 0 = 0 then j_X11_readGo_43 M1 0 else Option.bind (rdI 68 (M1 9) ((28 + (2 * (M1 11 0))) - 2)) (fun x22 => j_X11_readGo_43 M1 x22)) = j_X11_readGo_43 M1 (nI (lstM D)) := by
      rw [hM1.2.2.2.1]
      unfold lstM
      by_cases h0 : caG D = 0
      · rw [h0, if_pos (c := nI 0 = 0) rfl, if_pos (by rfl)]
        rfl
      · have ei : (28 : Int32) + 2 * nI (caG D) - 2 = nI (28 + 2 * (caG D - 1)) := by
          rw [ln28, ln2, pk_mul, nI_add, q_sub (by omega), show 28 + 2 * caG D - 2 = 28 + 2 * (caG D - 1) from by omega]
        rw [if_neg (c := nI (caG D) = 0) (nI_ne0 (by omega) (by omega)), if_neg h0, ei, q_rd (by omega) (by decide), Option.bind_some, (hM1.2.2.2.2 (caG D - 1) (by omega)).1]
    rw [if_pos h20, if_neg (c := caG D = 20) (by omega), e1, Option.bind_some, Option.bind_some, e2, Option.bind_some, hlo, hD1.2.2.2.2.2]
    unfold j_X11_readGo_43
    rcases take2 k5 k3 (nI (lstM D)) 239 with ⟨t1, t2⟩ | ⟨S2, M2, ta2, tl2, tk2, a0, a1, a2, t1, t2, a3, a4, a5, a6, a7, a8⟩
    · rw [t1, q_bi2, if_pos (by rfl), t2, q_bi2, if_pos (by rfl)]
      exact ⟨0, S1, M1, rfl, rfl, by decide, k1.rd, fun j hj => k2 j (by omega), ta1, tl1, tk1, k3, k5, fun h9 => by omega⟩
    · obtain ⟨t, t3, t4, hv⟩ : okR (S1.1 4107 0) (lstM D) 239 := by
        rcases q_cs (S1.1 4107 0) (lstM D) 239 (by omega) (by decide) with h9 | ⟨j, b1, b2, b3⟩
        · exact absurd ⟨a1, a2⟩ h9
        · exact ⟨j, b1, b2, b3⟩
      have hD2 : DRc S2 D := a3.dr hD1
      have hM2 : DRr M2 D := hM1.of (a4 9 (by decide) (by decide)) (a4 10 (by decide) (by decide)) (a4 11 (by decide) (by decide))
      have ei : (28 : Int32) + 2 * nI (caG D) = nI (28 + 2 * caG D) := by rw [ln28, ln2, pk_mul, nI_add]
      rw [t1, q_bi2, if_neg (c := (1 : Int32) = 0) (by decide), Option.bind_some, t2, q_bi2, if_neg (c := (1 : Int32) = 0) (by decide), hM2.2.2.2.1, ei, a5, hv, q_wrM (by omega) (by decide), Option.bind_some]
      obtain ⟨M3, eM3⟩ : ∃ M3, M3 = va_up M2 9 (upd (M2 9) (28 + 2 * caG D) (nI t)) := ⟨_, rfl⟩
      rw [← eM3]
      have hM3 : DRr M3 D := by
        rw [eM3]
        refine ⟨hM2.1, fun p hp => ?_, fun i hi => ?_, hM2.2.2.2.1, fun g hg => ?_⟩
        · show upd (M2 9) (28 + 2 * caG D) (nI t) (4 * p) = _ ∧ upd (M2 9) (28 + 2 * caG D) (nI t) (4 * p + 1) = _ ∧ upd (M2 9) (28 + 2 * caG D) (nI t) (4 * p + 2) = _ ∧ upd (M2 9) (28 + 2 * caG D) (nI t) (4 * p + 3) = _
          rw [pk_un (by omega), pk_un (by omega), pk_un (by omega), pk_un (by omega)]
          exact hM2.2.1 p hp
        · show upd (M2 9) (28 + 2 * caG D) (nI t) (24 + i) = _
          rw [pk_un (by omega)]
          exact hM2.2.2.1 i hi
        · show upd (M2 9) (28 + 2 * caG D) (nI t) (28 + 2 * g) = _ ∧ upd (M2 9) (28 + 2 * caG D) (nI t) (28 + 2 * g + 1) = _
          rw [pk_un (by omega), pk_un (by omega)]
          exact hM2.2.2.2.2 g hg
      have h93 : M3 9 (28 + 2 * caG D) = nI t := by rw [eM3, up_s, pk_us]
      have hx3 : Tx S2 M3 X L := by rw [eM3]; exact a8
      have hT3 : TR S2 M3 L ta2 tl2 tk2 := by rw [eM3]; exact a6
      have hk3 : ∀ j, j < 5 → M3 j = M j := fun j hj => by rw [eM3, up_n _ _ (by omega), a4 j (by omega) (by omega)]; exact k2 j (by omega)
      have hr2 : rdK S S2 := k1.rd.tr a3.rd
      rw [hD2.1, hM3.1]
      rcases take2 hx3 hT3 0 (nI (caN D) - 1) with ⟨u1, u2⟩ | ⟨S4, M4, ta4, tl4, tk4, b0, b1, b2, u1, u2, b3, b4, b5, b6, b7, b8⟩
      · rw [u1, q_bi2, if_pos (by rfl), u2, q_bi2, if_pos (by rfl)]
        exact ⟨0, S2, M3, rfl, rfl, by decide, hr2, hk3, ta2, tl2, tk2, hT3, hx3, fun h9 => by omega⟩
      · obtain ⟨a, ha, hva⟩ := q_lt1 (n := caN D) (by omega) b1 b2
        have hD4 : DRc S4 D := b3.dr hD2
        have hM4 : DRr M4 D := hM3.of (b4 9 (by decide) (by decide)) (b4 10 (by decide) (by decide)) (b4 11 (by decide) (by decide))
        have h94 : M4 9 (28 + 2 * caG D) = nI t := by rw [b4 9 (by decide) (by decide)]; exact h93
        have hk4 : ∀ j, j < 5 → M4 j = M j := fun j hj => (b4 j (by omega) (by omega)).trans (hk3 j hj)
        have hr4 : rdK S S4 := hr2.tr b3.rd
        have hshl : (1 : Int32) <<< (nI a &&& 31) = nI (2 ^ a) := q_shl (by omega)
        have htk4 := b6.2.2.2.2.2.2.2.1
        rw [u1, q_bi2, if_neg (c := (1 : Int32) = 0) (by decide), u2, q_bi2, if_neg (c := (1 : Int32) = 0) (by decide), hva, b5, hva]
        simp only [Option.bind_some]
        rw [hshl, b6.2.2.1, b6.2.2.2.2.2.1]
        by_cases h2 : tk4 = 2
        · have hvv := b6.2.2.2.2.2.2.2.2.2 h2
          rw [if_pos (c := nI tk4 = 2) (by rw [h2]; rfl), if_pos (c := nI tk4 = 2) (by rw [h2]; rfl), ← hvv, hD4.1, hM4.1]
          by_cases hsame : S4.1 4107 0 = nI a
          · rw [if_pos hsame, if_pos hsame]
            exact ⟨0, S4, M4, rfl, rfl, by decide, hr4, hk4, ta4, tl4, tk4, b6, b8, fun h9 => by omega⟩
          · rw [if_neg hsame, if_neg hsame]
            rcases take2 b8 b6 0 (nI (caN D) - 1) with ⟨w1, w2⟩ | ⟨S6, M6, ta6, tl6, tk6, c0, c1, c2, w1, w2, c3, c4, c5, c6, c7, c8⟩
            · rw [w1, q_bi2, if_pos (by rfl), w2, q_bi2, if_pos (by rfl)]
              exact ⟨0, S4, M4, rfl, rfl, by decide, hr4, hk4, ta4, tl4, tk4, b6, b8, fun h9 => by omega⟩
            · obtain ⟨b, hb, hvb⟩ := q_lt1 (n := caN D) (by omega) c1 c2
              have hD6 : DRc S6 D := c3.dr hD4
              have hM6 : DRr M6 D := hM4.of (c4 9 (by decide) (by decide)) (c4 10 (by decide) (by decide)) (c4 11 (by decide) (by decide))
              have h96 : M6 9 (28 + 2 * caG D) = nI t := by rw [c4 9 (by decide) (by decide)]; exact h94
              have hshb : (1 : Int32) <<< (nI b &&& 31) = nI (2 ^ b) := q_shl (by omega)
              obtain ⟨S8, M8, y1, y2, y3, y4, y5, y6, y7⟩ := g_fin c8 c6 ⟨hD.1, hD6, hM6⟩ h20 (t := t) (by omega) h96 ha hb
              rw [w1, q_bi2, if_neg (c := (1 : Int32) = 0) (by decide), w2, q_bi2, if_neg (c := (1 : Int32) = 0) (by decide), hvb, c5, hvb, hshb, q_or, y1, y2]
              exact ⟨1, S8, M8, rfl, rfl, by decide, (hr4.tr c3.rd).tr y3, fun j hj => (y4 j hj).trans ((c4 j (by omega) (by omega)).trans (hk4 j hj)), ta6, tl6, tk6, y5, y6, fun _ => ⟨by omega, _, y7⟩⟩
        · have hne : ¬ nI tk4 = 2 := fun h9 => h2 ((nI_eq (b := 2) (by omega) (by decide)).mp h9)
          obtain ⟨S8, M8, y1, y2, y3, y4, y5, y6, y7⟩ := g_fin b8 b6 ⟨hD.1, hD4, hM4⟩ h20 (t := t) (by omega) h94 ha ha
          rw [Nat.or_self] at y2
          rw [if_neg hne, if_neg hne, y1, y2]
          exact ⟨1, S8, M8, rfl, rfl, by decide, hr4.tr y3, fun j hj => (y4 j hj).trans (hk4 j hj), ta4, tl4, tk4, y5, y6, fun _ => ⟨by omega, _, y7⟩⟩
  · rw [if_neg h20, if_pos (c := caG D = 20) (by omega)]
    exact ⟨0, S, M, rfl, rfl, by decide, rdK.rf S, fun _ _ => rfl, ta, tl, tk, h, hx, fun h9 => by omega⟩
/-! an item -/
theorem i_item {S : CS} {M : MS} {X : Nat → Int32} {L ta tl tk : Nat} {D : Cmp} (hx : Tx S M X L) (h : TR S M L ta tl tk) (hD : DR S M D) : ∃ v f S' M', f_X8_wordAtToken_31 S = some v ∧ (if v = 4 then f_X8_takesPorter_31 S else if v = 5 then f_X8_takesGo_31 S else f_X8_takesNumber_31 S v) = some (nI f, S') ∧ f_X11_readItem M = some (nI f, M') ∧ ItP S S' M M' X L (ta + tl) f := by
  obtain ⟨c6, c4, c5, r5, r6, r7, hl, htk, _, _⟩ := id h
  obtain ⟨v, ev, hw⟩ := c_word hx.1 c6 c4 c5 htk hl
  have w0 := r_w0 hx.2 r5 r6 r7 htk hl
  have w1 := r_w1 hx.2 r5 r6 r7 htk hl
  have w2 := r_w2 hx.2 r5 r6 r7 htk hl
  have w3 := r_w3 hx.2 r5 r6 r7 htk hl
  have w4 := r_w4 hx.2 r5 r6 r7 htk hl
  have w5 := r_w5 hx.2 r5 r6 r7 htk hl
  unfold f_X11_readItem
  rw [w4, Option.bind_some, w5, Option.bind_some, w0, Option.bind_some, w1, Option.bind_some, w2, Option.bind_some, w3, Option.bind_some]
  have num : ∀ w, w < 4 → ∃ f S' M', f_X8_takesNumber_31 S (nI w) = some (nI f, S') ∧ j_X11_readItem_138 M (nI w) = some (nI f, M') ∧ ItP S S' M M' X L (ta + tl) f := by
    intro w hw4
    obtain ⟨f, S', M', e1, e2, q⟩ := n_item hx h hD hw4
    refine ⟨f, S', M', e1, ?_, q⟩
    unfold j_X11_readItem_138
    rw [if_neg (fun h9 => m1_ne (by omega) h9.symm), e2, q_bi2]
    have hf := q.1
    rcases (show f = 0 ∨ f = 1 from by omega) with rfl | rfl
    · rw [if_pos (c := nI 0 = 0) rfl]; rfl
    · rw [if_neg (c := nI 1 = 0) (by decide)]; rfl
  rcases hw with ⟨w, hw6, h1, hwd, rfl⟩ | ⟨hno, rfl⟩
  · have other : ∀ u, u < 6 → u ≠ w → ¬ (tk = 1 ∧ wdP X ta tl u) := fun u hu hne h9 => hne (q_wd u hu w hw6 (h9.2.1.symm.trans hwd.1))
    rcases (show w = 0 ∨ w = 1 ∨ w = 2 ∨ w = 3 ∨ w = 4 ∨ w = 5 from by omega) with rfl | rfl | rfl | rfl | rfl | rfl
    · rw [oneI_f (other 4 (by decide) (by decide)), if_pos (c := nI 0 = 0) rfl, oneI_f (other 5 (by decide) (by decide)), if_pos (c := nI 0 = 0) rfl, oneI_t ⟨h1, hwd⟩, if_neg (c := nI 1 = 0) (by decide)]
      obtain ⟨f, S', M', e1, e2, q⟩ := num 0 (by decide)
      exact ⟨_, f, S', M', ev, by rw [if_neg (by decide), if_neg (by decide)]; exact e1, e2, q⟩
    · rw [oneI_f (other 4 (by decide) (by decide)), if_pos (c := nI 0 = 0) rfl, oneI_f (other 5 (by decide) (by decide)), if_pos (c := nI 0 = 0) rfl, oneI_f (other 0 (by decide) (by decide)), if_pos (c := nI 0 = 0) rfl, oneI_t ⟨h1, hwd⟩, if_neg (c := nI 1 = 0) (by decide)]
      obtain ⟨f, S', M', e1, e2, q⟩ := num 1 (by decide)
      exact ⟨_, f, S', M', ev, by rw [if_neg (by decide), if_neg (by decide)]; exact e1, e2, q⟩
    · rw [oneI_f (other 4 (by decide) (by decide)), if_pos (c := nI 0 = 0) rfl, oneI_f (other 5 (by decide) (by decide)), if_pos (c := nI 0 = 0) rfl, oneI_f (other 0 (by decide) (by decide)), if_pos (c := nI 0 = 0) rfl, oneI_f (other 1 (by decide) (by decide)), if_pos (c := nI 0 = 0) rfl, oneI_t ⟨h1, hwd⟩, if_neg (c := nI 1 = 0) (by decide)]
      obtain ⟨f, S', M', e1, e2, q⟩ := num 2 (by decide)
      exact ⟨_, f, S', M', ev, by rw [if_neg (by decide), if_neg (by decide)]; exact e1, e2, q⟩
    · rw [oneI_f (other 4 (by decide) (by decide)), if_pos (c := nI 0 = 0) rfl, oneI_f (other 5 (by decide) (by decide)), if_pos (c := nI 0 = 0) rfl, oneI_f (other 0 (by decide) (by decide)), if_pos (c := nI 0 = 0) rfl, oneI_f (other 1 (by decide) (by decide)), if_pos (c := nI 0 = 0) rfl, oneI_f (other 2 (by decide) (by decide)), if_pos (c := nI 0 = 0) rfl, oneI_t ⟨h1, hwd⟩, if_neg (c := nI 1 = 0) (by decide)]
      obtain ⟨f, S', M', e1, e2, q⟩ := num 3 (by decide)
      exact ⟨_, f, S', M', ev, by rw [if_neg (by decide), if_neg (by decide)]; exact e1, e2, q⟩
    · obtain ⟨f, S', M', e1, e2, q⟩ := p_item hx h hD
      rw [oneI_t ⟨h1, hwd⟩, if_neg (c := nI 1 = 0) (by decide), e2, q_bi2, q_zr q.1, Option.bind_some]
      exact ⟨_, f, S', M', ev, by rw [if_pos (by rfl)]; exact e1, rfl, q⟩
    · obtain ⟨f, S', M', e1, e2, q⟩ := g_item hx h hD
      rw [oneI_f (other 4 (by decide) (by decide)), if_pos (c := nI 0 = 0) rfl, oneI_t ⟨h1, hwd⟩, if_neg (c := nI 1 = 0) (by decide), e2, q_bi2, q_zr q.1, Option.bind_some]
      exact ⟨_, f, S', M', ev, by rw [if_neg (by decide), if_pos (by rfl)]; exact e1, rfl, q⟩
  · rw [oneI_f (hno 4 (by decide)), if_pos (c := nI 0 = 0) rfl, oneI_f (hno 5 (by decide)), if_pos (c := nI 0 = 0) rfl, oneI_f (hno 0 (by decide)), if_pos (c := nI 0 = 0) rfl, oneI_f (hno 1 (by decide)), if_pos (c := nI 0 = 0) rfl, oneI_f (hno 2 (by decide)), if_pos (c := nI 0 = 0) rfl, oneI_f (hno 3 (by decide)), if_pos (c := nI 0 = 0) rfl]
    refine ⟨_, 0, S, M, ev, ?_, ?_, by decide, rdK.rf S, fun _ _ => rfl, ta, tl, tk, h, hx, fun h9 => by omega⟩
    · rw [if_neg (by decide), if_neg (by decide)]
      unfold f_X8_takesNumber_31
      rw [if_pos (by decide)]
      rfl
    · unfold j_X11_readItem_138
      rw [if_pos (by rfl)]
      rfl
