theorem r_look {M : MS} {X : Nat → Int32} {L a : Nat} (hx : TxR M X L) (hl : a ≤ L) : ∃ M' ta tl tk v, f_X11_look M (nI a) = some M' ∧ rrK M M' ∧ Tok X L a ta tl tk v ∧ M' 5 0 = nI ta ∧ M' 6 0 = nI tl ∧ M' 7 0 = nI tk ∧ (tk = 2 → M' 8 0 = v) := by
  have hL := hx.1
  unfold f_X11_look
  rw [Option.bind_some]
  have hx1 : TxR (va_up M 5 (fun _ => nI a)) X L := hx
  obtain ⟨M2, ta, e2, p1, p2, p3⟩ := r_blanks hx1 (show (va_up M 5 (fun _ => nI a)) 5 0 = nI a from rfl) hl
  have h200 := p3.2.1
  rw [e2, Option.bind_some]
  unfold k_X11_look_5
  simp only [Option.bind_some]
  have hk5 : rrK M (va_up (va_up (va_up M2 6 (fun _ => 0)) 7 (fun _ => 0)) 8 (fun _ => 0)) := fun j hj => by
    rw [up_n _ _ (by omega), up_n _ _ (by omega), up_n _ _ (by omega), p1 j hj, up_n _ _ (by omega)]
  have h55 : va_up (va_up (va_up M2 6 (fun _ => 0)) 7 (fun _ => 0)) 8 (fun _ => 0) 5 0 = nI ta := p2
  have h56 : va_up (va_up (va_up M2 6 (fun _ => 0)) 7 (fun _ => 0)) 8 (fun _ => 0) 6 0 = nI 0 := rfl
  have h57 : va_up (va_up (va_up M2 6 (fun _ => 0)) 7 (fun _ => 0)) 8 (fun _ => 0) 7 0 = nI 0 := rfl
  have h58 : va_up (va_up (va_up M2 6 (fun _ => 0)) 7 (fun _ => 0)) 8 (fun _ => 0) 8 0 = 0 := rfl
  generalize va_up (va_up (va_up M2 6 (fun _ => 0)) 7 (fun _ => 0)) 8 (fun _ => 0) = M5 at hk5 h55 h56 h57 h58
  have hx5 := hk5.tx hx
  rw [t_len hx5, Option.bind_some, h55, i_eq (by omega) (by omega)]
  by_cases hta : ta = L
  · rw [if_pos hta]
    exact ⟨M5, ta, 0, 0, 0, rfl, hk5, ⟨p3, Or.inl ⟨hta, rfl, rfl⟩⟩, h55, h56, h57, fun h => by omega⟩
  · have htl : ta < L := by omega
    rw [if_neg hta, t_byte hx5 htl, Option.bind_some, r_isSmall, Option.bind_some, r_isFigure, Option.bind_some]
    have w3 : ∀ tk, (tk = 1 ∨ tk = 2) → j_X11_look_112 M5 (nI tk) = j_X11_look_133 (va_up (va_up M5 7 (fun _ => nI tk)) 6 (fun _ => 1)) 1 := by
      intro tk htk
      unfold j_X11_look_112
      rw [Option.bind_some, Option.bind_some]
      have e : va_up (va_up M5 7 (fun _ => nI tk)) 6 (fun _ => 1) 7 0 = nI tk := rfl
      rw [e]
      rcases htk with rfl | rfl
      · rw [if_neg (by decide)]
      · rw [if_neg (by decide)]
    have w4 : ∀ tk, (tk = 3 ∨ tk = 4) → j_X11_look_112 M5 (nI tk) = some (va_up (va_up (va_up M5 7 (fun _ => nI tk)) 6 (fun _ => 1)) 7 (fun _ => nI tk)) := by
      intro tk htk
      have e : va_up (va_up M5 7 (fun _ => nI tk)) 6 (fun _ => 1) 7 0 = nI tk := rfl
      have e6 : va_up (va_up M5 7 (fun _ => nI tk)) 6 (fun _ => 1) 6 0 = nI 1 := rfl
      have n2 : ¬ nI tk = 2 := by rcases htk with rfl | rfl <;> decide
      have g1 : lp (fun s => b_X11_look_134 s.1 s.2) FU (0, va_up (va_up M5 7 (fun _ => nI tk)) 6 (fun _ => 1)) = some (va_up (va_up M5 7 (fun _ => nI tk)) 6 (fun _ => 1)) := by
        refine lp_up (n := 1) (lp_e ?_) (Nat.le_of_ble_eq_true rfl)
        show b_X11_look_134 0 _ = _
        unfold b_X11_look_134
        rw [if_pos (by rfl)]
      have g2 : lp (fun s => b_X11_look_215 s.1 s.2) FU (0, va_up (va_up M5 7 (fun _ => nI tk)) 6 (fun _ => 1)) = some (va_up (va_up M5 7 (fun _ => nI tk)) 6 (fun _ => 1)) := by
        refine lp_up (n := 1) (lp_e ?_) (Nat.le_of_ble_eq_true rfl)
        show b_X11_look_215 0 (va_up (va_up M5 7 (fun _ => nI tk)) 6 (fun _ => 1)) = _
        unfold b_X11_look_215
        rw [e, e6, if_neg (c := nI 1 ≤ 0) (by decide), if_neg (c := (3 : Int32) ≤ 0) (by decide), if_neg n2]
      unfold j_X11_look_112
      rw [Option.bind_some, Option.bind_some, e, if_pos (by rcases htk with rfl | rfl <;> decide)]
      unfold j_X11_look_133
      rw [g1, Option.bind_some]
      unfold k_X11_look_134
      rw [g2, Option.bind_some]
      unfold k_X11_look_215
      rw [e, if_neg n2, Option.bind_some]
    by_cases hlt : ltC (X ta)
    · rw [oneI_t hlt, if_neg (c := nI 1 = 0) (by decide)]
      have e1 := w3 1 (Or.inl rfl)
      have e1 : j_X11_look_112 M5 1 = _ := e1
      rw [e1]
      have hxA : TxR (va_up (va_up M5 7 (fun _ => nI 1)) 6 (fun _ => 1)) X L := hx5
      obtain ⟨M6, tl, e6, q1, q2, q3, q4⟩ := r_long (tk := 1) (P := ltC) hxA (show va_up (va_up M5 7 (fun _ => nI 1)) 6 (fun _ => 1) 5 0 = nI ta from h55) rfl rfl (Or.inl ⟨rfl, rfl⟩) htl hlt
      unfold j_X11_look_133
      rw [e6, Option.bind_some]
      have h67 : M6 7 0 = nI 1 := by rw [q1 7 (by decide)]; rfl
      have g2 : lp (fun s => b_X11_look_215 s.1 s.2) FU (0, M6) = some M6 := by
        refine lp_up (n := 1) (lp_e ?_) (Nat.le_of_ble_eq_true rfl)
        show b_X11_look_215 0 M6 = _
        unfold b_X11_look_215
        rw [h67, q2, if_neg (c := nI tl ≤ 0) (nI_nle (by omega) (by have := q4.2.1; omega)), if_neg (c := (3 : Int32) ≤ 0) (by decide), if_neg (c := nI 1 = 2) (by decide)]
      unfold k_X11_look_134
      rw [g2, Option.bind_some]
      unfold k_X11_look_215
      rw [h67, if_neg (c := nI 1 = 2) (by decide), Option.bind_some]
      refine ⟨_, ta, tl, 1, 0, rfl, fun j hj => ?_, ⟨p3, Or.inr (Or.inl ⟨htl, hlt, q4, rfl⟩)⟩, ?_, q2, rfl, fun h => by omega⟩
      · rw [up_n _ _ (by omega), q1 j (by omega), up_n _ _ (by omega), up_n _ _ (by omega)]
        exact hk5 j hj
      · show M6 5 0 = _
        rw [q1 5 (by decide)]
        exact h55
    · rw [oneI_f hlt, if_pos (c := nI 0 = 0) rfl]
      by_cases hfg : fgC (X ta)
      · rw [oneI_t hfg, if_neg (c := nI 1 = 0) (by decide)]
        have e1 := w3 2 (Or.inr rfl)
        have e1 : j_X11_look_112 M5 2 = _ := e1
        rw [e1]
        have hxA : TxR (va_up (va_up M5 7 (fun _ => nI 2)) 6 (fun _ => 1)) X L := hx5
        obtain ⟨M6, tl, e6, q1, q2, q3, q4⟩ := r_long (tk := 2) (P := fgC) hxA (show va_up (va_up M5 7 (fun _ => nI 2)) 6 (fun _ => 1) 5 0 = nI ta from h55) rfl rfl (Or.inr ⟨rfl, rfl⟩) htl hfg
        unfold j_X11_look_133
        rw [e6, Option.bind_some]
        have h67 : M6 7 0 = nI 2 := by rw [q1 7 (by decide)]; rfl
        have h65 : M6 5 0 = nI ta := by rw [q1 5 (by decide)]; exact h55
        have h68 : M6 8 0 = 0 := by rw [q1 8 (by decide)]; exact h58
        have hx6 : TxR M6 X L := by unfold TxR; rw [q1 0 (by decide)]; exact hxA
        obtain ⟨M7, e7, n1, n2⟩ := r_val hx6 h65 q2 h67 h68 q4.2.1
        unfold k_X11_look_134
        rw [e7, Option.bind_some]
        unfold k_X11_look_215
        have h77 : M7 7 0 = nI 2 := by rw [n1 7 (by decide)]; exact h67
        have h76 : M7 6 0 = nI tl := by rw [n1 6 (by decide)]; exact q2
        have h75 : M7 5 0 = nI ta := by rw [n1 5 (by decide)]; exact h65
        have hq4 := q4.2.1
        have hkk : rrK M M7 := fun j hj => by
          rw [n1 j (by omega), q1 j (by omega), up_n _ _ (by omega), up_n _ _ (by omega)]
          exact hk5 j hj
        rw [h77, if_pos (c := nI 2 = 2) rfl, h76]
        by_cases h3 : tl ≤ 3
        · rw [if_pos (c := nI tl ≤ 3) (nI_le (b := 3) h3 (by decide)), Option.bind_some]
          exact ⟨_, ta, tl, 2, vlX X ta (if tl ≤ 3 then tl else 3), rfl, hkk.up _ (by decide), ⟨p3, Or.inr (Or.inr (Or.inl ⟨htl, hlt, hfg, q4, by rw [if_pos h3], rfl⟩))⟩, h75, h76, rfl, fun _ => n2⟩
        · rw [if_neg (c := nI tl ≤ 3) (nI_ge (a := 3) (by omega) (by omega)), Option.bind_some]
          exact ⟨_, ta, tl, 4, vlX X ta (if tl ≤ 3 then tl else 3), rfl, hkk.up _ (by decide), ⟨p3, Or.inr (Or.inr (Or.inl ⟨htl, hlt, hfg, q4, by rw [if_neg h3], rfl⟩))⟩, h75, h76, rfl, fun h => by omega⟩
      · rw [oneI_f hfg, if_pos (c := nI 0 = 0) rfl]
        by_cases h59 : X ta = 59
        · rw [if_pos h59]
          have e1 := w4 3 (Or.inl rfl)
          have e1 : j_X11_look_112 M5 3 = _ := e1
          rw [e1]
          exact ⟨_, ta, 1, 3, 0, rfl, ((hk5.up _ (by decide)).up _ (by decide)).up _ (by decide), ⟨p3, Or.inr (Or.inr (Or.inr ⟨htl, hlt, hfg, rfl, by rw [if_pos h59]⟩))⟩, h55, rfl, rfl, fun h => by omega⟩
        · rw [if_neg h59]
          have e1 := w4 4 (Or.inr rfl)
          have e1 : j_X11_look_112 M5 4 = _ := e1
          rw [e1]
          exact ⟨_, ta, 1, 4, 0, rfl, ((hk5.up _ (by decide)).up _ (by decide)).up _ (by decide), ⟨p3, Or.inr (Or.inr (Or.inr ⟨htl, hlt, hfg, rfl, by rw [if_neg h59]⟩))⟩, h55, rfl, rfl, fun h => by omega⟩
/-! tokens of both -/
def TR (S : CS) (M : MS) (L ta tl tk : Nat) : Prop := S.1 4106 0 = nI ta ∧ S.1 4104 0 = nI (ta + tl) ∧ S.1 4105 0 = nI tk ∧ M 5 0 = nI ta ∧ M 6 0 = nI tl ∧ M 7 0 = nI tk ∧ ta + tl ≤ L ∧ tk < 5 ∧ (tk ≠ 0 → 1 ≤ tl) ∧ (tk = 2 → S.1 4107 0 = M 8 0)
def Tx (S : CS) (M : MS) (X : Nat → Int32) (L : Nat) : Prop := TxC S X L ∧ TxR M X L
theorem rcK.tx {S S' : CS} (h : rcK S S') {X : Nat → Int32} {L : Nat} (g : TxC S X L) : TxC S' X L := by
  unfold TxC
  rw [h.2 4103 (by decide), h.2 8 (by decide)]
  exact g
theorem next2 {S : CS} {M : MS} {X : Nat → Int32} {L a : Nat} (hx : Tx S M X L) (ha : S.1 4104 0 = nI a) (hl : a ≤ L) : ∃ S' M' ta tl tk, f_X8_nextToken_31 S = some S' ∧ f_X11_look M (nI a) = some M' ∧ rcK S S' ∧ rrK M M' ∧ TR S' M' L ta tl tk ∧ a ≤ ta ∧ Tx S' M' X L := by
  obtain ⟨S', ta, tl, tk, v, e1, k1, t1, s1, s2, s3, s4⟩ := c_next hx.1 ha hl
  obtain ⟨M', ta', tl', tk', v', e2, k2, t2, m1, m2, m3, m4⟩ := r_look hx.2 hl
  obtain ⟨rfl, rfl, rfl, hv⟩ := t1.uniq t2
  obtain ⟨p1, p2, p3, p4⟩ := t1.pos
  exact ⟨S', M', ta, tl, tk, e1, e2, k1, k2, ⟨s1, s2, s3, m1, m2, m3, p2, p3, p4, fun h => by rw [s4 h, m4 h]; exact hv h⟩, p1, k1.tx hx.1, k2.tx hx.2⟩
theorem next3 {S : CS} {M : MS} {X : Nat → Int32} {L ta tl tk : Nat} (hx : Tx S M X L) (h : TR S M L ta tl tk) : ∃ S' M' ta' tl' tk', f_X8_nextToken_31 S = some S' ∧ f_X11_goOn M = some M' ∧ rcK S S' ∧ rrK M M' ∧ TR S' M' L ta' tl' tk' ∧ ta + tl ≤ ta' ∧ Tx S' M' X L := by
  obtain ⟨S', M', ta', tl', tk', e1, e2, q⟩ := next2 hx h.2.1 h.2.2.2.2.2.2.1
  refine ⟨S', M', ta', tl', tk', e1, ?_, q⟩
  unfold f_X11_goOn
  rw [h.2.2.2.1, h.2.2.2.2.1, nI_add, e2, Option.bind_some]
/-- a number in bounds is taken, any other token stays -/
theorem take2 {S : CS} {M : MS} {X : Nat → Int32} {L ta tl tk : Nat} (hx : Tx S M X L) (h : TR S M L ta tl tk) (lo hi : Int32) : (f_X8_takesIfIn_31 S lo hi = some (0, S) ∧ f_X11_takes M lo hi = some (0, M)) ∨ (∃ S' M' ta' tl' tk', tk = 2 ∧ lo ≤ S.1 4107 0 ∧ S.1 4107 0 ≤ hi ∧ f_X8_takesIfIn_31 S lo hi = some (1, S') ∧ f_X11_takes M lo hi = some (1, M') ∧ rcK S S' ∧ (∀ j, (j < 5 ∨ 9 ≤ j) → j ≠ 12 → M' j = M j) ∧ M' 12 0 = S.1 4107 0 ∧ TR S' M' L ta' tl' tk' ∧ ta + tl ≤ ta' ∧ Tx S' M' X L) := by
  unfold f_X8_takesIfIn_31 f_X11_takes
  rw [h.2.2.1, h.2.2.2.2.2.1]
  have htk := h.2.2.2.2.2.2.2.1
  by_cases h2 : tk = 2
  · have hv := h.2.2.2.2.2.2.2.2.2 h2
    rw [if_pos (c := nI tk = 2) (by rw [h2]; rfl), if_pos (c := nI tk = 2) (by rw [h2]; rfl), q_in lo hi rfl rfl, Option.bind_some, ← hv]
    by_cases h3 : S.1 4107 0 < lo
    · rw [if_pos h3, if_neg (c := lo ≤ S.1 4107 0 ∧ S.1 4107 0 ≤ hi) (fun h9 => absurd h3 (Int32.not_lt.mpr h9.1)), if_pos (by rfl)]
      exact Or.inl ⟨rfl, rfl⟩
    · rw [if_neg h3]
      by_cases h4 : S.1 4107 0 ≤ hi
      · rw [if_pos h4, if_pos (c := lo ≤ S.1 4107 0 ∧ S.1 4107 0 ≤ hi) ⟨Int32.not_lt.mp h3, h4⟩, if_neg (c := nI 1 = 0) (by decide), Option.bind_some]
        have hx2 : Tx S (va_up M 12 (fun _ => S.1 4107 0)) X L := hx
        have h2' : TR S (va_up M 12 (fun _ => S.1 4107 0)) L ta tl tk := h
        obtain ⟨S', M', ta', tl', tk', e1, e2, k1, k2, k3, k4, k5⟩ := next3 hx2 h2'
        rw [e1, Option.bind_some, e2, Option.bind_some]
        refine Or.inr ⟨S', M', ta', tl', tk', h2, Int32.not_lt.mp h3, h4, rfl, rfl, k1, fun j a1 a2 => (k2 j a1).trans (up_n _ _ a2), ?_, k3, k4, k5⟩
        rw [k2 12 (by decide)]
        rfl
      · rw [if_neg h4, if_neg (c := lo ≤ S.1 4107 0 ∧ S.1 4107 0 ≤ hi) (fun h9 => h4 h9.2), if_pos (by rfl)]
        exact Or.inl ⟨rfl, rfl⟩
  · have hn : ¬ nI tk = 2 := fun h9 => h2 ((nI_eq (b := 2) (by omega) (by decide)).mp h9)
    rw [if_neg hn, if_neg hn]
    exact Or.inl ⟨rfl, rfl⟩
/-! words -/
def wlN (w : Nat) : Nat := wLen.getD w 0
def wbN (w i : Nat) : Int32 := (wByt.getD w []).getD i 0
def wdP (X : Nat → Int32) (ta tl w : Nat) : Prop := tl = wlN w ∧ ∀ i, i < wlN w → X (ta + i) = wbN w i
theorem q_wl : ∀ w, w < 6 → f_J0_length_8abf5 w = some (nI (wlN w)) ∧ 2 ≤ wlN w ∧ wlN w ≤ 7 := by decide +kernel
theorem q_wc : ∀ w, w < 6 → ∀ i, i < wlN w → f_J0_charAt_5068e w (nI i) = some (wbN w i) := by decide +kernel
theorem q_wd : ∀ w, w < 6 → ∀ u, u < 6 → wlN w = wlN u → w = u := by decide +kernel
theorem c_isAt {S : CS} {X : Nat → Int32} {L ta tl w : Nat} (hx : TxC S X L) (h6 : S.1 4106 0 = nI ta) (h4 : S.1 4104 0 = nI (ta + tl)) (hl : ta + tl ≤ L) (hw : w < 6) : f_X8_isAtToken_31_w S w = some (nI (oneI (wdP X ta tl w))) := by
  have hL := hx.1
  obtain ⟨l1, l2, l3⟩ := q_wl w hw
  unfold f_X8_isAtToken_31_w
  rw [l1, Option.bind_some, h4, h6, q_sub (by omega), Nat.add_sub_cancel_left, i_eq (by omega) (by omega)]
  by_cases hlen : tl = wlN w
  · rw [if_pos hlen]
    have hlp := lp_for (b := fun s => b_X8_isAtToken_31_w_20 S w s) (wlN w) (fun i s => s = nI i ∧ ∀ j, j < i → X (ta + j) = wbN w j) (fun r => r = nI (oneI (wdP X ta tl w))) ?_ ?_ (F := FU) (i := 0) (s := 0) ⟨rfl, fun j h => by omega⟩ (Nat.zero_le _) (FU_gt (by omega))
    · obtain ⟨r, e, q⟩ := hlp
      rw [e, q]
    · rintro s ⟨rfl, k⟩
      refine ⟨nI 1, ?_, by rw [oneI_t (show wdP X ta tl w from ⟨hlen, k⟩)]⟩
      show b_X8_isAtToken_31_w_20 S w (nI (wlN w)) = _
      unfold b_X8_isAtToken_31_w_20
      rw [l1, Option.bind_some, if_pos (nI_le (Nat.le_refl _) (by omega))]
      rfl
    · rintro i s hi ⟨rfl, k⟩
      show (∃ s', b_X8_isAtToken_31_w_20 S w (nI i) = _ ∧ _) ∨ (∃ r, b_X8_isAtToken_31_w_20 S w (nI i) = _ ∧ _)
      unfold b_X8_isAtToken_31_w_20
      rw [l1, Option.bind_some, i_le (by omega) (by omega), if_neg (by omega), hx.2.1, h6, nI_add, i_le (by omega) (by omega), if_neg (by omega), q_rd (by omega) (by decide), Option.bind_some, hx.2.2 _ (by omega), q_wc w hw i hi, Option.bind_some]
      by_cases he : X (ta + i) = wbN w i
      · rw [if_pos he, Option.bind_some, nI_1]
        refine Or.inl ⟨_, rfl, rfl, fun j hj => ?_⟩
        rcases Nat.lt_or_ge j i with h8 | h8
        · exact k j h8
        · obtain rfl : j = i := by omega
          exact he
      · rw [if_neg he]
        exact Or.inr ⟨_, rfl, by rw [oneI_f (fun h9 => he (h9.2 i hi))]; rfl⟩
  · rw [if_neg hlen, oneI_f (fun h9 => hlen h9.1)]
    rfl
/-- which word, or none -/
def IsW (X : Nat → Int32) (ta tl tk : Nat) (v : Int32) : Prop := (∃ w, w < 6 ∧ tk = 1 ∧ wdP X ta tl w ∧ v = nI w) ∨ ((∀ w, w < 6 → ¬ (tk = 1 ∧ wdP X ta tl w)) ∧ v = -1)
theorem q_wrd : ∀ i, i < 6 → wrdOf (nI i) = i := by decide +kernel
theorem c_word {S : CS} {X : Nat → Int32} {L ta tl tk : Nat} (hx : TxC S X L) (h6 : S.1 4106 0 = nI ta) (h4 : S.1 4104 0 = nI (ta + tl)) (h5 : S.1 4105 0 = nI tk) (htk : tk < 5) (hl : ta + tl ≤ L) : ∃ v, f_X8_wordAtToken_31 S = some v ∧ IsW X ta tl tk v := by
  unfold f_X8_wordAtToken_31
  rw [h5]
  by_cases h1 : tk = 1
  · rw [if_pos (c := nI tk = 1) (by rw [h1]; rfl)]
    have hlp := lp_for (b := fun s => b_X8_wordAtToken_31_12 S s) 6 (fun i s => s = nI i ∧ ∀ w, w < i → ¬ wdP X ta tl w) (fun r => IsW X ta tl tk r) ?_ ?_ (F := FU) (i := 0) (s := 0) ⟨rfl, fun j h => by omega⟩ (Nat.zero_le _) (FU_gt (by decide))
    · exact hlp
    · rintro s ⟨rfl, k⟩
      refine ⟨-1, ?_, Or.inr ⟨fun w hw h => k w hw h.2, rfl⟩⟩
      show b_X8_wordAtToken_31_12 S (nI 6) = _
      unfold b_X8_wordAtToken_31_12
      rw [if_pos (by decide)]
    · rintro i s hi ⟨rfl, k⟩
      show (∃ s', b_X8_wordAtToken_31_12 S (nI i) = _ ∧ _) ∨ (∃ r, b_X8_wordAtToken_31_12 S (nI i) = _ ∧ _)
      unfold b_X8_wordAtToken_31_12
      rw [ln6, i_le (by omega) (by omega), if_neg (by omega), q_wrd i hi, c_isAt hx h6 h4 hl hi, Option.bind_some]
      by_cases hw : wdP X ta tl i
      · rw [oneI_t hw, if_neg (by decide)]
        exact Or.inr ⟨_, rfl, Or.inl ⟨i, hi, h1, hw, rfl⟩⟩
      · rw [oneI_f hw, if_pos (by rfl), Option.bind_some, nI_1]
        refine Or.inl ⟨_, rfl, rfl, fun w hw2 => ?_⟩
        rcases Nat.lt_or_ge w i with h8 | h8
        · exact k w h8
        · obtain rfl : w = i := by omega
          exact hw
  · rw [if_neg (c := nI tk = 1) (fun h9 => h1 ((nI_eq (b := 1) (by omega) (by decide)).mp h9))]
    exact ⟨-1, rfl, Or.inr ⟨fun w _ h => h1 h.1, rfl⟩⟩
