/-! words of the reference -/
def sel7 (p0 p1 p2 p3 p4 p5 p6 : Int32) (i : Nat) : Int32 := if i = 0 then p0 else if i = 1 then p1 else if i = 2 then p2 else if i = 3 then p3 else if i = 4 then p4 else if i = 5 then p5 else p6
theorem r_isW {M : MS} {X : Nat → Int32} {L ta tl tk : Nat} (hx : TxR M X L) (h5 : M 5 0 = nI ta) (h6 : M 6 0 = nI tl) (h7 : M 7 0 = nI tk) (htk : tk < 5) (hl : ta + tl ≤ L) {p0 p1 p2 p3 p4 p5 p6 : Int32} {w : Nat} (hw : w < 6) (hp : ∀ i, i < wlN w → sel7 p0 p1 p2 p3 p4 p5 p6 i = wbN w i) : j_X11_isWord_47 M p0 p1 p2 p3 p4 p5 p6 (nI (wlN w)) = some (nI (oneI (tk = 1 ∧ wdP X ta tl w))) := by
  have hL := hx.1
  obtain ⟨l1, l2, l3⟩ := q_wl w hw
  have hJ0 : j_X11_isWord_70 M p0 p1 p2 p3 p4 p5 p6 (nI (wlN w)) = some (nI 0) := by
    unfold j_X11_isWord_70 j_X11_isWord_71
    have e : lp (fun s => b_X11_isWord_76 M p0 p1 p2 p3 p4 p5 p6 (nI (wlN w)) s.1 s.2) FU (0, 0) = some 0 := by
      refine lp_up (n := 1) (lp_e ?_) (Nat.le_of_ble_eq_true rfl)
      show b_X11_isWord_76 M p0 p1 p2 p3 p4 p5 p6 (nI (wlN w)) 0 0 = _
      unfold b_X11_isWord_76
      rw [if_neg (c := nI (wlN w) ≤ 0) (nI_nle (by omega) (by omega)), if_pos (by rfl)]
    rw [e, Option.bind_some]
    unfold k_X11_isWord_76
    rw [show (0 : Int32) = nI 0 from rfl, q_zr (by decide), Option.bind_some]
  unfold j_X11_isWord_47
  rw [h7, h6, hJ0]
  by_cases h1 : tk = 1
  · rw [if_pos (c := nI tk = 1) (by rw [h1]; rfl), i_eq (by omega) (by omega)]
    by_cases hlen : tl = wlN w
    · rw [if_pos hlen]
      unfold j_X11_isWord_71
      have hlp := lp_for (b := fun s => b_X11_isWord_76 M p0 p1 p2 p3 p4 p5 p6 (nI (wlN w)) s.1 s.2) (wlN w) (fun i s => s.2 = nI i ∧ ((s.1 = nI 1 ∧ ∀ k, k < i → X (ta + k) = wbN w k) ∨ (s.1 = nI 0 ∧ ∃ k, k < i ∧ X (ta + k) ≠ wbN w k))) (fun r => r = nI (oneI (tk = 1 ∧ wdP X ta tl w))) ?_ ?_ (F := FU) (i := 0) (s := (1, 0)) ⟨rfl, Or.inl ⟨rfl, fun k h => by omega⟩⟩ (Nat.zero_le _) (FU_gt (by omega))
      · obtain ⟨r, e, q⟩ := hlp
        rw [e, q, Option.bind_some]
        unfold k_X11_isWord_76
        rw [q_zr (oneI_lt _), Option.bind_some]
      · rintro ⟨s1, s2⟩ ⟨k0, k1⟩
        have k0 : s2 = nI (wlN w) := k0
        subst k0
        refine ⟨s1, ?_, ?_⟩
        · show b_X11_isWord_76 M p0 p1 p2 p3 p4 p5 p6 (nI (wlN w)) s1 (nI (wlN w)) = _
          unfold b_X11_isWord_76
          rw [if_pos (nI_le (Nat.le_refl _) (by omega))]
        · rcases k1 with ⟨a1, a2⟩ | ⟨a1, k, a2, a3⟩
          · have a1 : s1 = nI 1 := a1
            rw [a1, oneI_t ⟨h1, hlen, a2⟩]
          · have a1 : s1 = nI 0 := a1
            rw [a1, oneI_f (fun h9 => a3 (h9.2.2 k a2))]
      · rintro i ⟨s1, s2⟩ hi ⟨k0, k1⟩
        have k0 : s2 = nI i := k0
        subst k0
        show (∃ s', b_X11_isWord_76 M p0 p1 p2 p3 p4 p5 p6 (nI (wlN w)) s1 (nI i) = _ ∧ _) ∨ (∃ r, b_X11_isWord_76 M p0 p1 p2 p3 p4 p5 p6 (nI (wlN w)) s1 (nI i) = _ ∧ _)
        rcases k1 with ⟨a1, a2⟩ | ⟨a1, k, a2, a3⟩
        · have a1 : s1 = nI 1 := a1
          subst a1
          have hb : b_X11_isWord_76 M p0 p1 p2 p3 p4 p5 p6 (nI (wlN w)) (nI 1) (nI i) = some (Sum.inl (nI (oneI (X (ta + i) = wbN w i)), nI (i + 1))) := by
            have key : ∀ p : Int32, p = wbN w i → (if X (ta + i) = p then (some (Sum.inl ((1 : Int32), nI (i + 1))) : Option ((Int32 × Int32) ⊕ Int32)) else some (Sum.inl (0, nI (i + 1)))) = some (Sum.inl (nI (oneI (X (ta + i) = wbN w i)), nI (i + 1))) := by
              intro p ep
              rw [← ep]
              by_cases h9 : X (ta + i) = p
              · rw [if_pos h9, oneI_t h9]; rfl
              · rw [if_neg h9, oneI_f h9]; rfl
            have hpi := hp i hi
            unfold b_X11_isWord_76
            rw [i_le (by omega) (by omega), if_neg (by omega), if_neg (c := nI 1 = 0) (by decide), h5, nI_add, t_byte hx (by omega)]
            simp only [Option.bind_some, nI_1]
            rcases (show i = 0 ∨ i = 1 ∨ i = 2 ∨ i = 3 ∨ i = 4 ∨ i = 5 ∨ i = 6 from by omega) with rfl | rfl | rfl | rfl | rfl | rfl | rfl
            · rw [if_pos (c := nI 0 = 0) rfl]
              exact key _ hpi
            · rw [if_neg (c := nI 1 = 0) (by decide), if_pos (c := nI 1 = 1) rfl]
              exact key _ hpi
            · rw [if_neg (c := nI 2 = 0) (by decide), if_neg (c := nI 2 = 1) (by decide), if_pos (c := nI 2 = 2) rfl]
              exact key _ hpi
            · rw [if_neg (c := nI 3 = 0) (by decide), if_neg (c := nI 3 = 1) (by decide), if_neg (c := nI 3 = 2) (by decide), if_pos (c := nI 3 = 3) rfl]
              exact key _ hpi
            · rw [if_neg (c := nI 4 = 0) (by decide), if_neg (c := nI 4 = 1) (by decide), if_neg (c := nI 4 = 2) (by decide), if_neg (c := nI 4 = 3) (by decide), if_pos (c := nI 4 = 4) rfl]
              exact key _ hpi
            · rw [if_neg (c := nI 5 = 0) (by decide), if_neg (c := nI 5 = 1) (by decide), if_neg (c := nI 5 = 2) (by decide), if_neg (c := nI 5 = 3) (by decide), if_neg (c := nI 5 = 4) (by decide), if_pos (c := nI 5 = 5) rfl]
              exact key _ hpi
            · rw [if_neg (c := nI 6 = 0) (by decide), if_neg (c := nI 6 = 1) (by decide), if_neg (c := nI 6 = 2) (by decide), if_neg (c := nI 6 = 3) (by decide), if_neg (c := nI 6 = 4) (by decide), if_neg (c := nI 6 = 5) (by decide)]
              exact key _ hpi
          rw [hb]
          refine Or.inl ⟨_, rfl, rfl, ?_⟩
          by_cases h9 : X (ta + i) = wbN w i
          · refine Or.inl ⟨by rw [oneI_t h9], fun k hk => ?_⟩
            rcases Nat.lt_or_ge k i with h8 | h8
            · exact a2 k h8
            · obtain rfl : k = i := by omega
              exact h9
          · exact Or.inr ⟨by rw [oneI_f h9], i, by omega, h9⟩
        · have a1 : s1 = nI 0 := a1
          subst a1
          refine Or.inr ⟨nI 0, ?_, by rw [oneI_f (fun h9 => a3 (h9.2.2 k (by omega)))]⟩
          unfold b_X11_isWord_76
          rw [i_le (by omega) (by omega), if_neg (by omega), if_pos (c := nI 0 = 0) rfl]
    · rw [if_neg hlen, oneI_f (fun h9 => hlen h9.2.1)]
  · rw [if_neg (c := nI tk = 1) (fun h9 => h1 ((nI_eq (b := 1) (by omega) (by decide)).mp h9)), oneI_f (fun h9 => h1 h9.1)]
section
variable {M : MS} {X : Nat → Int32} {L ta tl tk : Nat}
theorem r_w4 (hx : TxR M X L) (h5 : M 5 0 = nI ta) (h6 : M 6 0 = nI tl) (h7 : M 7 0 = nI tk) (htk : tk < 5) (hl : ta + tl ≤ L) : f_X11_isWord M 112 111 114 116 101 114 0 = some (nI (oneI (tk = 1 ∧ wdP X ta tl 4))) := by
  unfold f_X11_isWord
  rw [if_neg (by decide), if_neg (by decide), if_neg (by decide), if_neg (by decide), if_pos (by decide)]
  exact r_isW hx h5 h6 h7 htk hl (w := 4) (by decide) (by decide +kernel)
theorem r_w5 (hx : TxR M X L) (h5 : M 5 0 = nI ta) (h6 : M 6 0 = nI tl) (h7 : M 7 0 = nI tk) (htk : tk < 5) (hl : ta + tl ≤ L) : f_X11_isWord M 103 111 0 0 0 0 0 = some (nI (oneI (tk = 1 ∧ wdP X ta tl 5))) := by
  unfold f_X11_isWord
  rw [if_pos (by decide)]
  exact r_isW hx h5 h6 h7 htk hl (w := 5) (by decide) (by decide +kernel)
theorem r_w0 (hx : TxR M X L) (h5 : M 5 0 = nI ta) (h6 : M 6 0 = nI tl) (h7 : M 7 0 = nI tk) (htk : tk < 5) (hl : ta + tl ≤ L) : f_X11_isWord M 103 97 112 0 0 0 0 = some (nI (oneI (tk = 1 ∧ wdP X ta tl 0))) := by
  unfold f_X11_isWord
  rw [if_neg (by decide), if_pos (by decide)]
  exact r_isW hx h5 h6 h7 htk hl (w := 0) (by decide) (by decide +kernel)
theorem r_w1 (hx : TxR M X L) (h5 : M 5 0 = nI ta) (h6 : M 6 0 = nI tl) (h7 : M 7 0 = nI tk) (htk : tk < 5) (hl : ta + tl ≤ L) : f_X11_isWord M 101 118 101 110 105 110 103 = some (nI (oneI (tk = 1 ∧ wdP X ta tl 1))) := by
  unfold f_X11_isWord
  rw [if_neg (by decide), if_neg (by decide), if_neg (by decide), if_neg (by decide), if_neg (by decide)]
  exact r_isW hx h5 h6 h7 htk hl (w := 1) (by decide) (by decide +kernel)
theorem r_w2 (hx : TxR M X L) (h5 : M 5 0 = nI ta) (h6 : M 6 0 = nI tl) (h7 : M 7 0 = nI tk) (htk : tk < 5) (hl : ta + tl ≤ L) : f_X11_isWord M 109 111 114 101 0 0 0 = some (nI (oneI (tk = 1 ∧ wdP X ta tl 2))) := by
  unfold f_X11_isWord
  rw [if_neg (by decide), if_neg (by decide), if_pos (by decide)]
  exact r_isW hx h5 h6 h7 htk hl (w := 2) (by decide) (by decide +kernel)
theorem r_w3 (hx : TxR M X L) (h5 : M 5 0 = nI ta) (h6 : M 6 0 = nI tl) (h7 : M 7 0 = nI tk) (htk : tk < 5) (hl : ta + tl ≤ L) : f_X11_isWord M 110 105 103 104 116 0 0 = some (nI (oneI (tk = 1 ∧ wdP X ta tl 3))) := by
  unfold f_X11_isWord
  rw [if_neg (by decide), if_neg (by decide), if_neg (by decide), if_pos (by decide)]
  exact r_isW hx h5 h6 h7 htk hl (w := 3) (by decide) (by decide +kernel)
end
/-! the draft of both -/
def lstM (D : Cmp) : Nat := if caG D = 0 then 0 else caGm D (caG D - 1)
def GdD (D : Cmp) : Prop := Gp D ∧ caG D ≤ 20 ∧ ∀ g, g < caG D → caGm D g < 240 ∧ caGs D g < 2 ^ caN D
def DRc (S : CS) (D : Cmp) : Prop := S.1 3406 0 = nI (caN D) ∧ (∀ p, p < caN D → S.2.2 3 p = (nI (caW D p), nI (caT D p), nI (caH D p), nI (caK D p))) ∧ (∀ i, i < 4 → S.1 26 i = nI (caU D i)) ∧ S.1 3407 0 = nI (caG D) ∧ (∀ g, g < caG D → S.1 27 g = nI (caGm D g) ∧ S.1 28 g = nI (caGs D g)) ∧ S.1 4108 0 = nI (lstM D)
def DRr (M : MS) (D : Cmp) : Prop := M 10 0 = nI (caN D) ∧ (∀ p, p < caN D → M 9 (4 * p) = nI (caW D p) ∧ M 9 (4 * p + 1) = nI (caT D p) ∧ M 9 (4 * p + 2) = nI (caH D p) ∧ M 9 (4 * p + 3) = nI (caK D p)) ∧ (∀ i, i < 4 → M 9 (24 + i) = nI (caU D i)) ∧ M 11 0 = nI (caG D) ∧ ∀ g, g < caG D → M 9 (28 + 2 * g) = nI (caGm D g) ∧ M 9 (28 + 2 * g + 1) = nI (caGs D g)
def DR (S : CS) (M : MS) (D : Cmp) : Prop := GdD D ∧ DRc S D ∧ DRr M D
def rdK (S S' : CS) : Prop := S'.2.1 = S.2.1 ∧ (∀ j, j ≠ 3 → S'.2.2 j = S.2.2 j) ∧ ∀ k, (k < 24 ∨ (33 ≤ k ∧ k < 3400) ∨ 4300 ≤ k) → S'.1 k = S.1 k
theorem rdK.rf (S : CS) : rdK S S := ⟨rfl, fun _ _ => rfl, fun _ _ => rfl⟩
theorem rdK.tr {S S1 S2 : CS} (h : rdK S S1) (g : rdK S1 S2) : rdK S S2 := ⟨g.1.trans h.1, fun j hj => (g.2.1 j hj).trans (h.2.1 j hj), fun k hk => (g.2.2 k hk).trans (h.2.2 k hk)⟩
theorem rdK.si {S S1 : CS} (h : rdK S S1) {k : Nat} (f : Nat → Int32) (hk : (24 ≤ k ∧ k < 33) ∨ (3400 ≤ k ∧ k < 4300)) : rdK S (siI S1 k f) := ⟨h.1, h.2.1, fun j hj => (siI_n _ _ (by omega)).trans (h.2.2 j hj)⟩
theorem rcK.rd {S S' : CS} (h : rcK S S') : rdK S S' := ⟨by rw [h.1], fun j _ => by rw [h.1], fun k hk => h.2 k (by omega)⟩
theorem rcK.dr {S S' : CS} (h : rcK S S') {D : Cmp} (g : DRc S D) : DRc S' D := by
  unfold DRc
  rw [h.1, h.2 3406 (by decide), h.2 26 (by decide), h.2 3407 (by decide), h.2 27 (by decide), h.2 28 (by decide), h.2 4108 (by decide)]
  exact g
theorem DRr.of {M M' : MS} {D : Cmp} (h : DRr M D) (h9 : M' 9 = M 9) (h10 : M' 10 = M 10) (h11 : M' 11 = M 11) : DRr M' D := by
  unfold DRr
  rw [h9, h10, h11]
  exact h
/-- what an item of both comes to: how far it got -/
def ItP (S S' : CS) (M M' : MS) (X : Nat → Int32) (L e f : Nat) : Prop := f < 2 ∧ rdK S S' ∧ (∀ j, j < 5 → M' j = M j) ∧ ∃ ta tl tk, TR S' M' L ta tl tk ∧ Tx S' M' X L ∧ (f = 1 → e ≤ ta ∧ ∃ D, DR S' M' D)
theorem n_item {S : CS} {M : MS} {X : Nat → Int32} {L ta tl tk w : Nat} {D : Cmp} (hx : Tx S M X L) (h : TR S M L ta tl tk) (hD : DR S M D) (hw : w < 4) : ∃ f S' M', f_X8_takesNumber_31 S (nI w) = some (nI f, S') ∧ f_X11_readNumber M (nI w) = some (nI f, M') ∧ ItP S S' M M' X L (ta + tl) f := by
  have hmu := q_mostU w hw
  unfold f_X8_takesNumber_31 f_X11_readNumber
  obtain ⟨S1, M1, ta1, tl1, tk1, e1, e2, k1, k2, k3, k4, k5⟩ := next3 hx h
  rw [if_neg (nI_pos (by omega)), if_pos (c := nI w < 4) (nI_lt (b := 4) hw (by decide)), e1, Option.bind_some, Option.bind_some, q_rd hw (by decide), Option.bind_some, q_ssI3 w hw, e2, Option.bind_some, r_mostOf hw, Option.bind_some]
  have hD1 : DRc S1 D := k1.dr hD.2.1
  have hM1 : DRr M1 D := hD.2.2.of (k2 9 (by decide)) (k2 10 (by decide)) (k2 11 (by decide))
  rcases take2 k5 k3 0 (nI (mostU w)) with ⟨t1, t2⟩ | ⟨S2, M2, ta2, tl2, tk2, a0, a1, a2, t1, t2, a3, a4, a5, a6, a7, a8⟩
  · rw [t1, q_bi2, if_pos (by rfl), t2, q_bi2, ln24, nI_add, q_wrM (by omega) (by decide), Option.bind_some, show (0 : Int32) = nI 0 from rfl, q_zr (by decide), Option.bind_some]
    exact ⟨0, S1, _, rfl, rfl, by decide, k1.rd, fun j hj => (up_n _ _ (by omega)).trans (k2 j (by omega)), ta1, tl1, tk1, k3, k5, fun h9 => by omega⟩
  · obtain ⟨v, _, v2, hv⟩ : okR (S1.1 4107 0) 0 (mostU w) := by
      rcases q_cs (S1.1 4107 0) 0 (mostU w) (by decide) (by omega) with h9 | ⟨j, b1, b2, b3⟩
      · exact absurd ⟨a1, a2⟩ h9
      · exact ⟨j, b1, b2, b3⟩
    rw [t1, q_bi2, if_neg (c := (1 : Int32) = 0) (by decide), hv, q_wrI hw (by decide), Option.bind_some, t2, q_bi2, a5, hv, ln24, nI_add, q_wrM (by omega) (by decide), Option.bind_some, show (1 : Int32) = nI 1 from rfl, q_zr (by decide), Option.bind_some]
    have hD2 : DRc S2 D := a3.dr hD1
    have hM2 : DRr M2 D := hM1.of (a4 9 (by decide) (by decide)) (a4 10 (by decide) (by decide)) (a4 11 (by decide) (by decide))
    have hn := hD.1.1.n
    have hg := hD.1.2.1
    refine ⟨1, _, _, rfl, rfl, by decide, (k1.rd.tr a3.rd).si _ (by decide), fun j hj => (up_n _ _ (by omega)).trans ((a4 j (by omega) (by omega)).trans (k2 j (by omega))), ta2, tl2, tk2, a6, a8, fun _ => ⟨by omega, cNum D w v, ⟨⟨hD.1.1.1, hD.1.1.2.1, fun i hi => ?_⟩, hD.1.2⟩, ⟨hD2.1, hD2.2.1, fun i hi => ?_, hD2.2.2.2⟩, ⟨hM2.1, fun p hp => ?_, fun i hi => ?_, hM2.2.2.2.1, fun g hg => ?_⟩⟩⟩
    · show (if i = w then v else D.2.2.1 i) ≤ mostU i
      by_cases h9 : i = w
      · rw [if_pos h9, h9]; exact v2
      · rw [if_neg h9]; exact hD.1.1.2.2 i hi
    · show upd (S2.1 26) w (nI v) i = nI (if i = w then v else D.2.2.1 i)
      by_cases h9 : i = w
      · rw [if_pos h9, h9, pk_us]
      · rw [if_neg h9, pk_un h9]; exact hD2.2.2.1 i hi
    · have hp : p < caN D := hp
      show upd (M2 9) (24 + w) (nI v) (4 * p) = _ ∧ upd (M2 9) (24 + w) (nI v) (4 * p + 1) = _ ∧ upd (M2 9) (24 + w) (nI v) (4 * p + 2) = _ ∧ upd (M2 9) (24 + w) (nI v) (4 * p + 3) = _
      rw [pk_un (by omega), pk_un (by omega), pk_un (by omega), pk_un (by omega)]
      exact hM2.2.1 p hp
    · show upd (M2 9) (24 + w) (nI v) (24 + i) = nI (if i = w then v else D.2.2.1 i)
      by_cases h9 : i = w
      · rw [if_pos h9, h9, pk_us]
      · rw [if_neg h9, pk_un (by omega)]; exact hM2.2.2.1 i hi
    · have hg : g < caG D := hg
      show upd (M2 9) (24 + w) (nI v) (28 + 2 * g) = _ ∧ upd (M2 9) (24 + w) (nI v) (28 + 2 * g + 1) = _
      rw [pk_un (by omega), pk_un (by omega)]
      exact hM2.2.2.2.2 g hg
/-! a porter -/
def ploN (k : Nat) : Nat := [1, 1, 0, 0].getD k 0
def phiN (k : Nat) : Nat := [60, 30, 99, 5].getD k 0
theorem q_plo : ∀ k, k < 4 → ssI 4 k = nI (ploN k) ∧ ssI 5 k = nI (phiN k) ∧ ploN k ≤ 99 ∧ phiN k ≤ 99 := by decide +kernel
theorem r_pstep (M : MS) {k : Nat} (hk : k < 4) : b_X11_readPorter_19 1 (nI k) M = j_X11_readPorter_69 (nI k) M (nI (ploN k)) (nI (phiN k)) := by
  unfold b_X11_readPorter_19 j_X11_readPorter_39
  rcases (show k = 0 ∨ k = 1 ∨ k = 2 ∨ k = 3 from by omega) with rfl | rfl | rfl | rfl
  · rw [if_neg (c := (4 : Int32) ≤ nI 0) (by decide), if_neg (c := (1 : Int32) = 0) (by decide), if_neg (c := (2 : Int32) ≤ nI 0) (by decide), if_pos (c := nI 0 = 0) rfl]
    rfl
  · rw [if_neg (c := (4 : Int32) ≤ nI 1) (by decide), if_neg (c := (1 : Int32) = 0) (by decide), if_neg (c := (2 : Int32) ≤ nI 1) (by decide), if_neg (c := nI 1 = 0) (by decide), if_pos (c := nI 1 = 1) rfl]
    rfl
  · rw [if_neg (c := (4 : Int32) ≤ nI 2) (by decide), if_neg (c := (1 : Int32) = 0) (by decide), if_pos (c := (2 : Int32) ≤ nI 2) (by decide), if_neg (c := nI 2 = 0) (by decide), if_neg (c := nI 2 = 1) (by decide), if_pos (c := nI 2 = 2) rfl]
    rfl
  · rw [if_neg (c := (4 : Int32) ≤ nI 3) (by decide), if_neg (c := (1 : Int32) = 0) (by decide), if_pos (c := (2 : Int32) ≤ nI 3) (by decide), if_neg (c := nI 3 = 0) (by decide), if_neg (c := nI 3 = 1) (by decide), if_neg (c := nI 3 = 2) (by decide)]
    rfl
theorem p_loop {X : Nat → Int32} {L : Nat} {D : Cmp} (hn : caN D < 6) : ∀ (j k : Nat) (S : CS) (M : MS) (ta tl tk : Nat) (e : Nat → Nat), k + j = 4 → Tx S M X L → TR S M L ta tl tk → DR S M D → (∀ i, i < k → S.1 32 i = nI (e i) ∧ M 9 (4 * caN D + i) = nI (e i) ∧ ploN i ≤ e i ∧ e i ≤ phiN i) → ∃ f S' M2 M', lp (fun s => b_X8_takesPorter_31_20 s.1 s.2) (j + 2) (nI k, S) = some (nI f, S') ∧ lp (fun s => b_X11_readPorter_19 s.1 s.2.1 s.2.2) (j + 2) (1, nI k, M) = some (nI f, M2) ∧ k_X11_readPorter_19 (nI f) M2 = some (nI f, M') ∧ ItP S S' M M' X L ta f := by
  intro j
  induction j with
  | zero =>
    intro k S M ta tl tk e hk hx h hD he
    obtain rfl : k = 4 := by omega
    obtain ⟨hG, hDc, hDr⟩ := hD
    have q0 := he 0 (by decide)
    have q1 := he 1 (by decide)
    have q2 := he 2 (by decide)
    have q3 := he 3 (by decide)
    have hcl : b_X8_takesPorter_31_20 (nI 4) S = some (Sum.inr (1, siI (siP S 3 (va_up (S.2.2 3) (caN D) (nI (e 0), nI (e 1), nI (e 2), nI (e 3)))) 3406 (fun _ => nI (caN D) + 1))) := by
      unfold b_X8_takesPorter_31_20
      rw [if_pos (c := (4 : Int32) ≤ nI 4) (by decide), show rdI 4 (S.1 32) 0 = some (S.1 32 0) from q_rd (k := 0) (by decide) (by decide), show rdI 4 (S.1 32) 1 = some (S.1 32 1) from q_rd (k := 1) (by decide) (by decide), show rdI 4 (S.1 32) 2 = some (S.1 32 2) from q_rd (k := 2) (by decide) (by decide), show rdI 4 (S.1 32) 3 = some (S.1 32 3) from q_rd (k := 3) (by decide) (by decide)]
      simp only [Option.bind_some]
      rw [q0.1, q1.1, q2.1, q3.1]
      unfold f_X1_addPorter_24_d
      rw [hDc.1, if_neg (c := (6 : Int32) ≤ nI (caN D)) (nI_ge (b := 6) hn (by decide)), q_wrP hn]
      simp only [Option.bind_some]
      have e9 : (siP S 3 (va_up (S.2.2 3) (caN D) (nI (e 0), nI (e 1), nI (e 2), nI (e 3)))).1 3406 0 = nI (caN D) := hDc.1
      rw [e9]
    have hrf : b_X11_readPorter_19 1 (nI 4) M = some (Sum.inr (1, M)) := by
      unfold b_X11_readPorter_19
      rw [if_pos (c := (4 : Int32) ≤ nI 4) (by decide)]
    refine ⟨1, _, M, va_up M 10 (fun _ => nI (caN D) + 1), lp_e hcl, lp_e hrf, ?_, by decide, ?_, fun j hj => up_n _ _ (by omega), ta, tl, tk, h, hx, fun _ => ⟨Nat.le_refl _, cPor D (e 0, e 1, e 2, e 3), ⟨⟨?_, fun p hp => ?_, hG.1.2.2⟩, hG.2.1, fun g hg => ?_⟩, ⟨nI_1 _, fun p hp => ?_, hDc.2.2⟩, ⟨nI_1 _, fun p hp => ?_, hDr.2.2⟩⟩⟩
    · unfold k_X11_readPorter_19
      rw [Option.bind_some, hDr.1, q_zr (by decide), Option.bind_some]
    · exact ⟨rfl, fun j hj => up_n _ _ hj, fun k hk => siI_n _ _ (by omega)⟩
    · show caN D + 1 ≤ 6
      omega
    · have hp : p < caN D + 1 := hp
      show GoodP (if p = caN D then (e 0, e 1, e 2, e 3) else D.2.1 p)
      by_cases h9 : p = caN D
      · rw [if_pos h9]
        exact ⟨q0.2.2, q1.2.2, q2.2.2.2, q3.2.2.2⟩
      · rw [if_neg h9]; exact hG.1.2.1 p (by omega)
    · refine ⟨(hG.2.2 g hg).1, ?_⟩
      show caGs D g < 2 ^ (caN D + 1)
      have := (hG.2.2 g hg).2
      rw [Nat.pow_succ]
      omega
    · have hp : p < caN D + 1 := hp
      show va_up (S.2.2 3) (caN D) (nI (e 0), nI (e 1), nI (e 2), nI (e 3)) p = (nI (if p = caN D then (e 0, e 1, e 2, e 3) else D.2.1 p).1, nI (if p = caN D then (e 0, e 1, e 2, e 3) else D.2.1 p).2.1, nI (if p = caN D then (e 0, e 1, e 2, e 3) else D.2.1 p).2.2.1, nI (if p = caN D then (e 0, e 1, e 2, e 3) else D.2.1 p).2.2.2)
      by_cases h9 : p = caN D
      · rw [if_pos h9, h9, up_s]
      · rw [if_neg h9, up_n _ _ h9]; exact hDc.2.1 p (by omega)
    · have hp : p < caN D + 1 := hp
      show M 9 (4 * p) = nI (if p = caN D then (e 0, e 1, e 2, e 3) else D.2.1 p).1 ∧ M 9 (4 * p + 1) = nI (if p = caN D then (e 0, e 1, e 2, e 3) else D.2.1 p).2.1 ∧ M 9 (4 * p + 2) = nI (if p = caN D then (e 0, e 1, e 2, e 3) else D.2.1 p).2.2.1 ∧ M 9 (4 * p + 3) = nI (if p = caN D then (e 0, e 1, e 2, e 3) else D.2.1 p).2.2.2
      by_cases h9 : p = caN D
      · rw [if_pos h9, h9]
        exact ⟨q0.2.1, q1.2.1, q2.2.1, q3.2.1⟩
      · rw [if_neg h9]; exact hDr.2.1 p (by omega)
  | succ j ih =>
    intro k S M ta tl tk e hk hx h hD he
    have hk4 : k < 4 := by omega
    obtain ⟨s4, s5, lo9, hi9⟩ := q_plo k hk4
    have hcl : b_X8_takesPorter_31_20 (nI k) S = bi2 (f_X8_takesIfIn_31 (siI S 32 (upd (S.1 32) k (S.1 4107 0))) (nI (ploN k)) (nI (phiN k))) (fun r13 S14 => (if r13 = 0 then (some (Sum.inr ((0, S14)))) else (some (Sum.inl (nI (k + 1), S14))))) := by
      unfold b_X8_takesPorter_31_20
      rw [if_neg (c := (4 : Int32) ≤ nI k) (nI_ge (b := 4) hk4 (by decide)), q_wrI hk4 (by decide), q_rd hk4 (by decide), q_rd hk4 (by decide), s4, s5]
      simp only [Option.bind_some, nI_1]
    have hx1 : Tx (siI S 32 (upd (S.1 32) k (S.1 4107 0))) M X L := hx
    have h1 : TR (siI S 32 (upd (S.1 32) k (S.1 4107 0))) M L ta tl tk := h
    have hrf : b_X11_readPorter_19 1 (nI k) M = bi2 (f_X11_takes M (nI (ploN k)) (nI (phiN k))) (fun r11 M12 => Option.bind (wrM M12 9 68 ((0 + (4 * (M12 10 0))) + nI k) (M12 12 0)) (fun M13 => some (Sum.inl (r11, nI (k + 1), M13)))) := by
      rw [r_pstep M hk4]
      unfold j_X11_readPorter_69
      simp only [Option.bind_some, nI_1]
    have hidx : ∀ n : Nat, (0 : Int32) + 4 * nI n + nI k = nI (4 * n + k) := fun n => by rw [ln0, ln4, pk_mul, nI_add, nI_add, Nat.zero_add]
    rcases take2 hx1 h1 (nI (ploN k)) (nI (phiN k)) with ⟨t1, t2⟩ | ⟨S2, M2, ta2, tl2, tk2, a0, a1, a2, t1, t2, a3, a4, a5, a6, a7, a8⟩
    · have c1 : b_X8_takesPorter_31_20 (nI k) S = some (Sum.inr (0, siI S 32 (upd (S.1 32) k (S.1 4107 0)))) := by
        rw [hcl, t1, q_bi2, if_pos (by rfl)]
      have r1 : b_X11_readPorter_19 1 (nI k) M = some (Sum.inl (0, nI (k + 1), va_up M 9 (upd (M 9) (4 * caN D + k) (M 12 0)))) := by
        rw [hrf, t2, q_bi2, hD.2.2.1, hidx, q_wrM (by omega) (by decide), Option.bind_some]
      have r2 : b_X11_readPorter_19 0 (nI (k + 1)) (va_up M 9 (upd (M 9) (4 * caN D + k) (M 12 0))) = some (Sum.inr (0, va_up M 9 (upd (M 9) (4 * caN D + k) (M 12 0)))) := by
        unfold b_X11_readPorter_19
        by_cases h9 : (4 : Int32) ≤ nI (k + 1)
        · rw [if_pos h9]
        · rw [if_neg h9, if_pos (by rfl)]
      refine ⟨0, _, _, va_up (va_up M 9 (upd (M 9) (4 * caN D + k) (M 12 0))) 10 (fun _ => nI (caN D) + 1), lp_e c1, (lp_s r1).trans (lp_e r2), ?_, by decide, (rdK.rf S).si _ (by decide), fun j hj => (up_n _ _ (by omega)).trans (up_n _ _ (by omega)), ta, tl, tk, h, hx, fun h9 => by omega⟩
      unfold k_X11_readPorter_19
      have e9 : va_up M 9 (upd (M 9) (4 * caN D + k) (M 12 0)) 10 0 = nI (caN D) := hD.2.2.1
      rw [Option.bind_some, e9, q_zr (by decide), Option.bind_some]
    · have hv0 : (siI S 32 (upd (S.1 32) k (S.1 4107 0))).1 4107 0 = S.1 4107 0 := rfl
      rw [hv0] at a1 a2 a5
      obtain ⟨v, v1, v2, hv⟩ : okR (S.1 4107 0) (ploN k) (phiN k) := by
        rcases q_cs (S.1 4107 0) (ploN k) (phiN k) (by omega) (by omega) with h9 | ⟨j, b1, b2, b3⟩
        · exact absurd ⟨a1, a2⟩ h9
        · exact ⟨j, b1, b2, b3⟩
      have hDc1 : DRc (siI S 32 (upd (S.1 32) k (S.1 4107 0))) D := hD.2.1
      have hM10 : M2 10 0 = nI (caN D) := by rw [a4 10 (by decide) (by decide)]; exact hD.2.2.1
      have c1 : b_X8_takesPorter_31_20 (nI k) S = some (Sum.inl (nI (k + 1), S2)) := by
        rw [hcl, t1, q_bi2, if_neg (by decide)]
      have r1 : b_X11_readPorter_19 1 (nI k) M = some (Sum.inl (1, nI (k + 1), va_up M2 9 (upd (M2 9) (4 * caN D + k) (nI v)))) := by
        rw [hrf, t2, q_bi2, hM10, hidx, a5, hv, q_wrM (by omega) (by decide), Option.bind_some]
      have hM2 : DRr (va_up M2 9 (upd (M2 9) (4 * caN D + k) (nI v))) D := by
        have hb : DRr M2 D := hD.2.2.of (a4 9 (by decide) (by decide)) (a4 10 (by decide) (by decide)) (a4 11 (by decide) (by decide))
        refine ⟨hb.1, fun p hp => ?_, fun i hi => ?_, hb.2.2.2.1, fun g hg => ?_⟩
        · show upd (M2 9) (4 * caN D + k) (nI v) (4 * p) = _ ∧ upd (M2 9) (4 * caN D + k) (nI v) (4 * p + 1) = _ ∧ upd (M2 9) (4 * caN D + k) (nI v) (4 * p + 2) = _ ∧ upd (M2 9) (4 * caN D + k) (nI v) (4 * p + 3) = _
          rw [pk_un (by omega), pk_un (by omega), pk_un (by omega), pk_un (by omega)]
          exact hb.2.1 p hp
        · show upd (M2 9) (4 * caN D + k) (nI v) (24 + i) = _
          rw [pk_un (by omega)]
          exact hb.2.2.1 i hi
        · show upd (M2 9) (4 * caN D + k) (nI v) (28 + 2 * g) = _ ∧ upd (M2 9) (4 * caN D + k) (nI v) (28 + 2 * g + 1) = _
          rw [pk_un (by omega), pk_un (by omega)]
          exact hb.2.2.2.2 g hg
      obtain ⟨f, S', M3, M', g1, g2, g3, g4, g5, g6, tb, tlb, tkb, g7, g8, g9⟩ := ih (k + 1) S2 (va_up M2 9 (upd (M2 9) (4 * caN D + k) (nI v))) ta2 tl2 tk2 (fun i => if i = k then v else e i) (by omega) a8 a6 ⟨hD.1, a3.dr hDc1, hM2⟩ (fun i hi => by
        have e32 : S2.1 32 = upd (S.1 32) k (S.1 4107 0) := a3.2 32 (by decide)
        rw [e32]
        show upd (S.1 32) k (S.1 4107 0) i = nI (if i = k then v else e i) ∧ upd (M2 9) (4 * caN D + k) (nI v) (4 * caN D + i) = nI (if i = k then v else e i) ∧ ploN i ≤ (if i = k then v else e i) ∧ (if i = k then v else e i) ≤ phiN i
        by_cases h9 : i = k
        · rw [if_pos h9, h9, pk_us, pk_us]
          exact ⟨hv, rfl, v1, v2⟩
        · rw [if_neg h9, pk_un h9, pk_un (by omega), a4 9 (by decide) (by decide)]
          exact he i (by omega))
      refine ⟨f, S', M3, M', (lp_s c1).trans g1, (lp_s r1).trans g2, g3, g4, (((rdK.rf S).si _ (by decide)).tr a3.rd).tr g5, fun j hj => (g6 j hj).trans ((up_n _ _ (by omega)).trans (a4 j (by omega) (by omega))), tb, tlb, tkb, g7, g8, fun h9 => ⟨?_, (g9 h9).2⟩⟩
      have := (g9 h9).1
      omega
theorem p_item {S : CS} {M : MS} {X : Nat → Int32} {L ta tl tk : Nat} {D : Cmp} (hx : Tx S M X L) (h : TR S M L ta tl tk) (hD : DR S M D) : ∃ f S' M', f_X8_takesPorter_31 S = some (nI f, S') ∧ f_X11_readPorter M = some (nI f, M') ∧ ItP S S' M M' X L (ta + tl) f := by
  have hn := hD.1.1.n
  unfold f_X8_takesPorter_31 f_X11_readPorter
  rw [hD.2.1.1, hD.2.2.1, ln6, i_lt (by omega) (by omega), i_eq (by omega) (by omega)]
  by_cases h6 : caN D < 6
  · obtain ⟨S1, M1, ta1, tl1, tk1, e1, e2, k1, k2, k3, k4, k5⟩ := next3 hx h
    have hM1 : DRr M1 D := hD.2.2.of (k2 9 (by decide)) (k2 10 (by decide)) (k2 11 (by decide))
    obtain ⟨f, S', M3, M', g1, g2, g3, g4, g5, g6, tb, tlb, tkb, g7, g8, g9⟩ := p_loop h6 4 0 S1 M1 ta1 tl1 tk1 (fun _ => 0) rfl k5 k3 ⟨hD.1, k1.dr hD.2.1, hM1⟩ (fun i hi => by omega)
    rw [if_pos h6, if_neg (c := caN D = 6) (by omega), e1, Option.bind_some, e2, Option.bind_some]
    have g1 := lp_up g1 (m := FU) (Nat.le_of_ble_eq_true rfl)
    have g2 := lp_up g2 (m := FU) (Nat.le_of_ble_eq_true rfl)
    have g1 : lp (fun s => b_X8_takesPorter_31_20 s.1 s.2) FU (0, S1) = some (nI f, S') := g1
    have g2 : lp (fun s => b_X11_readPorter_19 s.1 s.2.1 s.2.2) FU (1, 0, M1) = some (nI f, M3) := g2
    rw [g1, g2, Option.bind_some]
    refine ⟨f, S', M', rfl, g3, g4, k1.rd.tr g5, fun j hj => (g6 j hj).trans (k2 j (by omega)), tb, tlb, tkb, g7, g8, fun h9 => ⟨?_, (g9 h9).2⟩⟩
    have := (g9 h9).1
    omega
  · rw [if_neg h6, if_pos (c := caN D = 6) (by omega)]
    exact ⟨0, S, M, rfl, rfl, by decide, rdK.rf S, fun _ _ => rfl, ta, tl, tk, h, hx, fun h9 => by omega⟩
