/-! the reference: hires and the row -/
section
variable {M0 : MS} {C : Cmp} {lk b L : Nat}
def hrV (C : Cmp) (lk b L : Nat) (M : MS) (t s : Nat) (P : Nat → Prop) : Prop := ∃ v, M 14 (64 * t + s) = nI v ∧ v ≤ 1000000 ∧ LsW 1000000 P v
theorem hrV.c {M : MS} {t s : Nat} {P Q : Nat → Prop} (h : hrV C lk b L M t s P) (e : ∀ c, P c ↔ Q c) : hrV C lk b L M t s Q := by
  obtain ⟨v, h1, h2, h3⟩ := h
  exact ⟨v, h1, h2, h3.congr e⟩
/-- what stands in the row of hires: all of it behind t, and of t what P says -/
def hrI (C : Cmp) (lk b L : Nat) (M : MS) (t : Nat) (P : Nat → Nat → Prop) : Prop := (∀ t', t < t' → t' ≤ L → ∀ s, s < 2 ^ caN C → hrV C lk b L M t' s (Pt C lk b L t' s)) ∧ ∀ s, s < 2 ^ caN C → hrV C lk b L M t s (P s)
theorem hrI.set {M : MS} {t s v : Nat} {P Q : Nat → Nat → Prop} (hC : Gp C) (h : hrI C lk b L M t P) (hs : s < 2 ^ caN C) (hv : v ≤ 1000000) (h1 : LsW 1000000 (Q s) v) (e : ∀ s', s' < 2 ^ caN C → s' ≠ s → ∀ c, P s' c ↔ Q s' c) : hrI C lk b L (va_up M 14 (upd (M 14) (64 * t + s) (nI v))) t Q := by
  have hpw := pw_le hC.n
  refine ⟨fun t' h2 h3 s' hs' => ?_, fun s' hs' => ?_⟩
  · unfold hrV
    rw [up_s, pk_un (by omega)]
    exact h.1 t' h2 h3 s' hs'
  · unfold hrV
    rw [up_s]
    by_cases h4 : s' = s
    · subst h4
      rw [pk_us]
      exact ⟨v, rfl, hv, h1⟩
    · rw [pk_un (by omega)]
      exact (h.2 s' hs').c (e s' hs' h4)
def rbN (C : Cmp) (lk b L t x s c : Nat) : Prop := Pt C lk b L (t + 1) s c ∨ ∃ y, y < x ∧ mayX C lk y s t ∧ t + tmS C y ≤ L ∧ ∃ c', Pt C lk b L (t + tmS C y) (s ^^^ y) c' ∧ c = c' + hrS C y
theorem rbN.pt {t x s c : Nat} (ht : t < L) (h : rbN C lk b L t x s c) : Pt C lk b L t s c := by
  rcases h with h | ⟨j, _, h1, h2, c', h3, rfl⟩
  · exact h.wait ht
  · exact h3.cross ht h1 h2
theorem rbN.fin {t s c : Nat} (ht : t < L) : rbN C lk b L t (2 ^ caN C) s c ↔ Pt C lk b L t s c := by
  refine ⟨rbN.pt ht, fun h => ?_⟩
  rcases h.inv with ⟨h1, _⟩ | ⟨_, h1⟩ | ⟨_, x, c', h1, h2, h3, h4⟩
  · omega
  · exact Or.inl h1
  · exact Or.inr ⟨x, h1.2.1, h1, h2, c', h3, h4⟩
theorem rbN.skip {t x s c : Nat} (h : ¬ (mayX C lk x s t ∧ t + tmS C x ≤ L ∧ Us C lk b L (t + tmS C x) (s ^^^ x))) : rbN C lk b L t x s c ↔ rbN C lk b L t (x + 1) s c := by
  refine ⟨fun h1 => h1.imp id (fun ⟨y, y1, y2⟩ => ⟨y, by omega, y2⟩), fun h1 => h1.imp id (fun ⟨y, y1, y2⟩ => ?_)⟩
  rcases Nat.lt_or_ge y x with h8 | h8
  · exact ⟨y, h8, y2⟩
  · obtain rfl : y = x := by omega
    obtain ⟨a, b1, c', d, _⟩ := y2
    exact absurd ⟨a, b1, c', d⟩ h
theorem r_goBack {M : MS} (hM : RMp M C) (hC : Gp C) (hz : Z4 M) (hk : Lk M lk) (hL : L ≤ 240) {t x : Nat} (ht : t < L) (h1 : 1 ≤ x) (hx : x < 2 ^ caN C) (hl : t + tmS C x ≤ L) (hI : hrI C lk b L M t (rbN C lk b L t x)) : ∃ M', f_X11_goBack M (nI x) (nI t) (nI (t + tmS C x)) = some M' ∧ kp 14 M M' ∧ hrI C lk b L M' t (rbN C lk b L t (x + 1)) := by
  have hpw := pw_le hC.n
  have hp1 := Nat.one_le_two_pow (n := caN C)
  have hpos := tmS_pos hC h1 hx
  have hhr := hrS_le hC x
  unfold f_X11_goBack
  have hlp := lp_for (b := fun q => b_X11_goBack_3 (nI x) (nI t) (nI (t + tmS C x)) q.1 q.2) (2 ^ caN C) (fun j q => q.1 = nI j ∧ kp 14 M q.2 ∧ hrI C lk b L q.2 t (fun s => if s < j then rbN C lk b L t (x + 1) s else rbN C lk b L t x s)) (fun r => kp 14 M r ∧ hrI C lk b L r t (rbN C lk b L t (x + 1))) ?_ ?_ (F := FU) (i := 0) (s := (0, M)) ⟨rfl, kp.rf 14 M, hI⟩ (Nat.zero_le _) (FU_gt (by omega))
  · obtain ⟨r, e, q1, q2⟩ := hlp
    exact ⟨r, by rw [e]; rfl, q1, q2⟩
  · rintro ⟨q1, q2⟩ ⟨h0, g1, g2⟩
    have h0 : q1 = nI (2 ^ caN C) := h0
    subst h0
    have g1 : kp 14 M q2 := g1
    refine ⟨q2, ?_, g1, g2.1, fun s hs => ?_⟩
    · show b_X11_goBack_3 (nI x) (nI t) (nI (t + tmS C x)) (nI (2 ^ caN C)) q2 = _
      unfold b_X11_goBack_3
      rw [r_all (g1.q (by decide) hM) hC, Option.bind_some, i_lt (by omega) (by omega), if_pos (by omega)]
    · have h5 : hrV C lk b L q2 t s (if s < 2 ^ caN C then rbN C lk b L t (x + 1) s else rbN C lk b L t x s) := g2.2 s hs
      rw [if_pos hs] at h5
      exact h5
  · rintro j ⟨q1, q2⟩ hj ⟨h0, g1, g2⟩
    have h0 : q1 = nI j := h0
    subst h0
    have g1 : kp 14 M q2 := g1
    have g2 : hrI C lk b L q2 t (fun s => if s < j then rbN C lk b L t (x + 1) s else rbN C lk b L t x s) := g2
    have hM2 := g1.q (by decide) hM
    have hz2 := g1.z (by decide) hz
    have hk2 : Lk q2 lk := by unfold Lk; rw [g1 15 (by decide)]; exact hk
    have hjx : j ^^^ x < 2 ^ caN C := Nat.xor_lt_two_pow hj hx
    obtain ⟨v, v1, v2, v3⟩ := g2.1 (t + tmS C x) (by omega) hl (j ^^^ x) hjx
    obtain ⟨w, w1, w2, w3⟩ := g2.2 j hj
    have w3 : LsW 1000000 (if j < j then rbN C lk b L t (x + 1) j else rbN C lk b L t x j) w := w3
    rw [if_neg (by omega)] at w3
    have hN : ∀ c, rbN C lk b L t (x + 1) j c → c < 1000000 := fun c hc => by
      have := ((hc.pt ht).le hC).2
      omega
    refine Or.inl ?_
    show ∃ s', b_X11_goBack_3 (nI x) (nI t) (nI (t + tmS C x)) (nI j) q2 = _ ∧ _
    have keep : ¬ (mayX C lk x j t ∧ t + tmS C x ≤ L ∧ Us C lk b L (t + tmS C x) (j ^^^ x)) → hrI C lk b L q2 t (fun s => if s < j + 1 then rbN C lk b L t (x + 1) s else rbN C lk b L t x s) := by
      intro hno
      refine ⟨g2.1, fun s hs => ?_⟩
      rcases Nat.lt_trichotomy s j with h5 | h5 | h5
      · have h6 := g2.2 s hs
        dsimp only at h6 ⊢
        rw [if_pos h5] at h6
        rw [if_pos (by omega)]
        exact h6
      · subst h5
        dsimp only
        rw [if_pos (by omega)]
        exact ⟨w, w1, w2, w3.congr (fun c => rbN.skip hno)⟩
      · have h6 := g2.2 s hs
        dsimp only at h6 ⊢
        rw [if_neg (by omega)] at h6
        rw [if_neg (by omega)]
        exact h6
    unfold b_X11_goBack_3
    rw [r_all hM2 hC, Option.bind_some, i_lt (by omega) (by omega), if_neg (by omega), q_xor, q_at, Option.bind_some, q_rd (by omega) (by decide), Option.bind_some, v1, ln1000000, i_le (by omega) (by omega)]
    by_cases h5 : 1000000 ≤ v
    · rw [if_pos h5, Option.bind_some, nI_1]
      refine ⟨_, rfl, rfl, g1, keep (fun h => ?_)⟩
      obtain ⟨a, _⟩ := v3.1 h.2.2
      have := (a.le hC).2
      omega
    · rw [if_neg h5, r_mayCross hM2 hC hz2 hk2 h1 hx (by omega) (by omega), Option.bind_some]
      by_cases hm : mayX C lk x j t
      · have hus : Us C lk b L (t + tmS C x) (j ^^^ x) := Classical.byContradiction (fun hno => h5 (v3.2 hno))
        rw [oneI_t hm, if_neg (by decide), r_hireOf hM2 hC (by omega), Option.bind_some, Option.bind_some, q_rd (by omega) (by decide), Option.bind_some, v1, nI_add, Option.bind_some, q_at, Option.bind_some, Option.bind_some, q_rd (by omega) (by decide), Option.bind_some, w1, i_le (by omega) (by omega)]
        simp only [Option.bind_some]
        rw [q_rd (k := 64 * t + j) (by omega) (by decide)]
        simp only [Option.bind_some]
        rw [w1, q_wrM (by omega) (by decide), q_wrM (by omega) (by decide)]
        simp only [Option.bind_some, nI_1]
        have h6 := w3.or (v3.add (hrS C x)) (fun c hc => hN c (hc.elim (fun h => h.imp id (fun ⟨y, y1, y2⟩ => ⟨y, by omega, y2⟩)) (fun ⟨c', a, d⟩ => Or.inr ⟨x, by omega, hm, hl, c', a, d⟩)))
        have h7 : LsW 1000000 (rbN C lk b L t (x + 1) j) (if v + hrS C x < w then v + hrS C x else w) := h6.congr (fun c => ⟨fun h => h.elim (fun h => h.imp id (fun ⟨y, y1, y2⟩ => ⟨y, by omega, y2⟩)) (fun ⟨c', a, d⟩ => Or.inr ⟨x, by omega, hm, hl, c', a, d⟩), fun h => by
          rcases h with h | ⟨y, y1, y2⟩
          · exact Or.inl (Or.inl h)
          · rcases Nat.lt_or_ge y x with h8 | h8
            · exact Or.inl (Or.inr ⟨y, h8, y2⟩)
            · obtain rfl : y = x := by omega
              exact Or.inr y2.2.2⟩)
        have fin : ∀ u, u = (if v + hrS C x < w then v + hrS C x else w) → hrI C lk b L (va_up q2 14 (upd (q2 14) (64 * t + j) (nI u))) t (fun s => if s < j + 1 then rbN C lk b L t (x + 1) s else rbN C lk b L t x s) := by
          intro u hu
          refine g2.set hC hj (by rw [hu]; split <;> omega) (by rw [if_pos (by omega), hu]; exact h7) (fun s' hs' hne c => ?_)
          by_cases h8 : s' < j
          · rw [if_pos h8, if_pos (by omega)]
          · rw [if_neg h8, if_neg (by omega)]
        by_cases h8 : w ≤ hrS C x + v
        · rw [if_pos h8]
          exact ⟨_, rfl, rfl, g1.up _, fin w (by rw [if_neg (by omega)])⟩
        · rw [if_neg h8]
          exact ⟨_, rfl, rfl, g1.up _, fin (hrS C x + v) (by rw [if_pos (by omega), Nat.add_comm])⟩
      · rw [oneI_f hm, if_pos (by decide), Option.bind_some, nI_1]
        exact ⟨_, rfl, rfl, g1, keep (fun h => hm h.1)⟩
theorem r_findHire (hM : RMp M0 C) (hC : Gp C) (hz : Z4 M0) (hk : Lk M0 lk) (hL : L ≤ 240) (hb : b < 64) : ∃ v M', f_X11_findHire M0 (nI b) (nI L) = some (nI v, M') ∧ kp 14 M0 M' ∧ v ≤ 1000000 ∧ LsW 1000000 (Pt C lk b L 0 0) v ∧ ∀ t, t ≤ L → ∀ s, s < 2 ^ caN C → hrV C lk b L M' t s (Pt C lk b L t s) := by
  have hpw := pw_le hC.n
  have hp1 := Nat.one_le_two_pow (n := caN C)
  unfold f_X11_findHire
  have hlp := lp_for (b := fun q => b_X11_findHire_2 (nI b) (nI L) q.1 q.2) 64 (fun i q => q.1 = nI i ∧ kp 14 M0 q.2 ∧ ∀ s, s < i → hrV C lk b L q.2 L s (Pt C lk b L L s)) (fun r => kp 14 M0 r ∧ ∀ s, s < 64 → hrV C lk b L r L s (Pt C lk b L L s)) ?_ ?_ (F := FU) (i := 0) (s := (0, M0)) ⟨rfl, kp.rf 14 M0, fun p h => by omega⟩ (Nat.zero_le _) (FU_gt (by decide))
  · obtain ⟨M1, e1, p1, p2⟩ := hlp
    rw [e1, Option.bind_some]
    unfold k_X11_findHire_2
    rw [Option.bind_some]
    have hlp := lp_dn (b := fun q => b_X11_findHire_41 (nI L) q.1 q.2) (fun i q => i ≤ L ∧ q.1 = nI i - 1 ∧ kp 14 M0 q.2 ∧ ∀ t, i ≤ t → t ≤ L → ∀ s, s < 2 ^ caN C → hrV C lk b L q.2 t s (Pt C lk b L t s)) (fun r => kp 14 M0 r ∧ ∀ t, t ≤ L → ∀ s, s < 2 ^ caN C → hrV C lk b L r t s (Pt C lk b L t s)) ?_ ?_ (F := FU) (i := L) (s := (nI L - 1, M1)) ⟨Nat.le_refl _, rfl, p1, fun t h1 h2 s hs => by
      obtain rfl : t = L := by omega
      exact p2 s (by omega)⟩ (FU_gt (by omega))
    · obtain ⟨r, e, q1, q2⟩ := hlp
      rw [e, Option.bind_some]
      unfold k_X11_findHire_41
      obtain ⟨v, v1, v2, v3⟩ := q2 0 (Nat.zero_le _) 0 (by omega)
      rw [show (0 : Int32) = nI 0 from rfl, q_rd (by decide) (by decide), Option.bind_some, show r 14 0 = nI v from v1]
      exact ⟨v, r, rfl, q1, v2, v3, q2⟩
    · rintro ⟨q1, q2⟩ ⟨_, h0, h1, h2⟩
      have h0 : q1 = nI 0 - 1 := h0
      subst h0
      refine ⟨q2, ?_, h1, fun t ht => h2 t (Nat.zero_le _) ht⟩
      show b_X11_findHire_41 (nI L) (nI 0 - 1) q2 = _
      unfold b_X11_findHire_41
      rw [if_pos (by decide)]
    · rintro t ⟨q1, q2⟩ ⟨ht, h0, h1, h2⟩
      have h0 : q1 = nI (t + 1) - 1 := h0
      rw [nI_pred] at h0
      subst h0
      have h1 : kp 14 M0 q2 := h1
      have h2 : ∀ t', t + 1 ≤ t' → t' ≤ L → ∀ s, s < 2 ^ caN C → hrV C lk b L q2 t' s (Pt C lk b L t' s) := h2
      refine Or.inl ?_
      show ∃ s', b_X11_findHire_41 (nI L) (nI t) q2 = _ ∧ _
      unfold b_X11_findHire_41
      rw [if_neg (nI_pos (by omega))]
      have hlp := lp_for (b := fun q => b_X11_findHire_48 (nI t) q.1 q.2) (2 ^ caN C) (fun i q => q.1 = nI i ∧ kp 14 M0 q.2 ∧ (∀ t', t < t' → t' ≤ L → ∀ s, s < 2 ^ caN C → hrV C lk b L q.2 t' s (Pt C lk b L t' s)) ∧ ∀ s, s < i → hrV C lk b L q.2 t s (Pt C lk b L (t + 1) s)) (fun r => kp 14 M0 r ∧ (∀ t', t < t' → t' ≤ L → ∀ s, s < 2 ^ caN C → hrV C lk b L r t' s (Pt C lk b L t' s)) ∧ ∀ s, s < 2 ^ caN C → hrV C lk b L r t s (Pt C lk b L (t + 1) s)) ?_ ?_ (F := FU) (i := 0) (s := (0, q2)) ⟨rfl, h1, fun t' ht' => h2 t' ht', fun s h => by omega⟩ (Nat.zero_le _) (FU_gt (by omega))
      · obtain ⟨M7, e7, g1, g2, g3⟩ := hlp
        rw [e7, Option.bind_some]
        unfold k_X11_findHire_48
        have hlp := lp_for (b := fun q => b_X11_findHire_90 (nI L) (nI t) q.1 q.2) (2 ^ caN C) (fun x q => 1 ≤ x ∧ q.1 = nI x ∧ kp 14 M0 q.2 ∧ hrI C lk b L q.2 t (rbN C lk b L t x)) (fun r => kp 14 M0 r ∧ hrI C lk b L r t (rbN C lk b L t (2 ^ caN C))) ?_ ?_ (F := FU) (i := 1) (s := (1, M7)) ⟨Nat.le_refl _, rfl, g1, g2, fun s hs => (g3 s hs).c (fun c => ⟨Or.inl, fun h => h.elim id (fun ⟨y, y1, y2, _⟩ => by have := y2.1; omega)⟩)⟩ hp1 (FU_gt (by omega))
        · obtain ⟨M8, e8, k1, k2⟩ := hlp
          rw [e8, Option.bind_some]
          unfold k_X11_findHire_90
          rw [Option.bind_some]
          refine ⟨_, rfl, by omega, (Int32.sub_eq_add_neg _ _).symm, k1, fun t' h5 h6 s hs => ?_⟩
          rcases Nat.lt_or_ge t t' with h7 | h7
          · exact k2.1 t' h7 h6 s hs
          · obtain rfl : t' = t := by omega
            exact (k2.2 s hs).c (fun c => rbN.fin (by omega))
        · rintro ⟨y1, y2⟩ ⟨_, k0, k1, k2⟩
          have k0 : y1 = nI (2 ^ caN C) := k0
          subst k0
          have k1 : kp 14 M0 y2 := k1
          refine ⟨y2, ?_, k1, k2⟩
          show b_X11_findHire_90 (nI L) (nI t) (nI (2 ^ caN C)) y2 = _
          unfold b_X11_findHire_90
          rw [r_all (k1.q (by decide) hM) hC, Option.bind_some, i_lt (by omega) (by omega), if_pos (by omega)]
        · rintro x ⟨y1, y2⟩ hx ⟨hx1, k0, k1, k2⟩
          have k0 : y1 = nI x := k0
          subst k0
          have k1 : kp 14 M0 y2 := k1
          have k2 : hrI C lk b L y2 t (rbN C lk b L t x) := k2
          have hM2 := k1.q (by decide) hM
          have hT := tmS_le hC x
          have hp6 : pcn x ≤ 6 := by
            have := bN_le x 0; have := bN_le x 1; have := bN_le x 2; have := bN_le x 3; have := bN_le x 4; have := bN_le x 5
            unfold pcn
            omega
          refine Or.inl ?_
          show ∃ s', b_X11_findHire_90 (nI L) (nI t) (nI x) y2 = _ ∧ _
          unfold b_X11_findHire_90 j_X11_findHire_122
          rw [r_all hM2 hC, Option.bind_some, i_lt (by omega) (by omega), if_neg (by omega), r_manyIn (by omega), Option.bind_some, ln3, i_le (by omega) (by omega)]
          by_cases h3 : 3 ≤ pcn x
          · rw [if_pos h3, ln241, i_lt (by omega) (by omega), if_pos (by omega), Option.bind_some, nI_1]
            refine ⟨_, rfl, by omega, rfl, k1, k2.1, fun s hs => (k2.2 s hs).c (fun c => rbN.skip (fun h => ?_))⟩
            have := okS_pcn (mayX_opn.mp h.1).1.2.2.2
            omega
          · rw [if_neg h3, r_timeOfSet hM2 hC (by omega), Option.bind_some, nI_add, i_lt (by omega) (by omega)]
            by_cases h4 : L < t + tmS C x
            · rw [if_pos h4, Option.bind_some, nI_1]
              exact ⟨_, rfl, by omega, rfl, k1, k2.1, fun s hs => (k2.2 s hs).c (fun c => rbN.skip (fun h => by omega))⟩
            · obtain ⟨M9, e9, n1, n2⟩ := r_goBack hM2 hC (k1.z (by decide) hz) (by unfold Lk; rw [k1 15 (by decide)]; exact hk) hL (by omega) hx1 hx (by omega) k2
              rw [if_neg h4, e9, Option.bind_some, Option.bind_some, nI_1]
              exact ⟨_, rfl, by omega, rfl, k1.tr n1, n2⟩
      · rintro ⟨y1, y2⟩ ⟨k0, k1, k2, k3⟩
        have k0 : y1 = nI (2 ^ caN C) := k0
        subst k0
        have k1 : kp 14 M0 y2 := k1
        refine ⟨y2, ?_, k1, k2, k3⟩
        show b_X11_findHire_48 (nI t) (nI (2 ^ caN C)) y2 = _
        unfold b_X11_findHire_48
        rw [r_all (k1.q (by decide) hM) hC, Option.bind_some, i_lt (by omega) (by omega), if_pos (by omega)]
      · rintro s ⟨y1, y2⟩ hs ⟨k0, k1, k2, k3⟩
        have k0 : y1 = nI s := k0
        subst k0
        have k1 : kp 14 M0 y2 := k1
        obtain ⟨v, v1, v2, v3⟩ := k2 (t + 1) (by omega) (by omega) s hs
        have v1 : y2 14 (64 * (t + 1) + s) = nI v := v1
        refine Or.inl ?_
        show ∃ s', b_X11_findHire_48 (nI t) (nI s) y2 = _ ∧ _
        unfold b_X11_findHire_48
        rw [r_all (k1.q (by decide) hM) hC, Option.bind_some, i_lt (by omega) (by omega), if_neg (by omega), q_at, Option.bind_some, nI_1, q_at, Option.bind_some, q_rd (by omega) (by decide), Option.bind_some, v1, q_wrM (by omega) (by decide), Option.bind_some, Option.bind_some, nI_1]
        refine ⟨_, rfl, rfl, k1.up _, fun t' h5 h6 s' hs' => ?_, fun s' hs' => ?_⟩
        · show hrV C lk b L (va_up y2 14 (upd (y2 14) (64 * t + s) (nI v))) t' s' _
          unfold hrV
          rw [up_s, pk_un (by omega)]
          exact k2 t' h5 h6 s' hs'
        · show hrV C lk b L (va_up y2 14 (upd (y2 14) (64 * t + s) (nI v))) t s' _
          unfold hrV
          rw [up_s]
          by_cases h5 : s' = s
          · subst h5
            rw [pk_us]
            exact ⟨v, rfl, v2, v3⟩
          · rw [pk_un (by omega)]
            exact k3 s' (by omega)
  · rintro ⟨q1, q2⟩ ⟨h0, h⟩
    have h0 : q1 = nI 64 := h0
    subst h0
    refine ⟨q2, ?_, h⟩
    show b_X11_findHire_2 (nI b) (nI L) (nI 64) q2 = _
    unfold b_X11_findHire_2
    rw [if_pos (by decide)]
  · rintro s ⟨q1, q2⟩ hs ⟨h0, h2, h4⟩
    have h0 : q1 = nI s := h0
    subst h0
    have h2 : kp 14 M0 q2 := h2
    have hsb := Nat.lt_of_le_of_lt (Nat.and_le_left (n := s) (m := b)) hs
    refine Or.inl ?_
    show ∃ s', b_X11_findHire_2 (nI b) (nI L) (nI s) q2 = _ ∧ _
    unfold b_X11_findHire_2
    rw [ln64, i_le (by omega) (by omega), if_neg (by omega), q_at, Option.bind_some, q_and, i_eq (by omega) (by omega), q_wrM (by omega) (by decide), q_wrM (by omega) (by decide), Option.bind_some, Option.bind_some, Option.bind_some, Option.bind_some, nI_1]
    have fin : ∀ u, u ≤ 1000000 → LsW 1000000 (Pt C lk b L L s) u → ∀ s', s' < s + 1 → hrV C lk b L (va_up q2 14 (upd (q2 14) (64 * L + s) (nI u))) L s' (Pt C lk b L L s') := by
      intro u hu hv s' hs'
      unfold hrV
      rw [up_s]
      by_cases h5 : s' = s
      · subst h5
        rw [pk_us]
        exact ⟨u, rfl, hu, hv⟩
      · rw [pk_un (by omega)]
        exact h4 s' (by omega)
    by_cases ho : s &&& b = b
    · rw [if_pos ho]
      exact ⟨_, rfl, rfl, h2.up _, fin 0 (by decide) ⟨fun _ => ⟨Pt.fin ho, fun c _ => Nat.zero_le c⟩, fun h => absurd ⟨0, Pt.fin ho⟩ h⟩⟩
    · rw [if_neg ho]
      exact ⟨_, rfl, rfl, h2.up _, fin 1000000 (by decide) (LsW.none (fun c hc => ho (Us.fin.mp ⟨c, hc⟩)) (Nat.le_refl _))⟩
/-! the row -/
theorem r_isNext {M : MS} (hM : RMp M C) (hC : Gp C) (hz : Z4 M) (hk : Lk M lk) (hL : L ≤ 240) (hm : M 16 0 = nI L) (hV : ∀ t, t ≤ L → ∀ s, s < 2 ^ caN C → hrV C lk b L M t s (Pt C lk b L t s)) {t s x : Nat} (ht : t < L) (hs : s < 2 ^ caN C) (hu : Us C lk b L t s) (h1 : 1 ≤ x) (hx : x < 2 ^ caN C) : f_X11_isNext M (nI x) (nI t) (nI s) = some (nI (oneI (Nxt C lk b L t s x))) := by
  have hpw := pw_le hC.n
  have hT := tmS_le hC x
  have hhr := hrS_le hC x
  obtain ⟨w, w1, w2, w3⟩ := hV t (by omega) s hs
  obtain ⟨w4, w5⟩ := w3.1 hu
  have hwl := (w4.le hC).2
  unfold f_X11_isNext
  rw [r_mayCross hM hC hz hk h1 hx (by omega) (by omega), Option.bind_some]
  by_cases hmx : mayX C lk x s t
  · have hpos := hmx.pos hC
    have hsx : s ^^^ x < 2 ^ caN C := Nat.xor_lt_two_pow hs hx
    rw [oneI_t hmx, if_neg (by decide), r_timeOfSet hM hC (by omega), Option.bind_some, nI_add, Option.bind_some, hm, i_lt (by omega) (by omega)]
    by_cases hl : L < t + tmS C x
    · rw [if_pos hl, oneI_f (fun h => by have := h.2.2.1; omega)]
      rfl
    · obtain ⟨v, v1, v2, v3⟩ := hV (t + tmS C x) (by omega) (s ^^^ x) hsx
      rw [if_neg hl, r_hireOf hM hC (by omega), Option.bind_some, q_xor, q_at, Option.bind_some, q_rd (by omega) (by decide), Option.bind_some, q_at, Option.bind_some, q_rd (by omega) (by decide), Option.bind_some, v1, w1, nI_add, i_eq (by omega) (by omega)]
      by_cases he : hrS C x + v = w
      · rw [if_pos he]
        have hus : Us C lk b L (t + tmS C x) (s ^^^ x) := Classical.byContradiction (fun hno => by have := v3.2 hno; omega)
        obtain ⟨v4, v5⟩ := v3.1 hus
        rw [oneI_t (Nxt.of x ⟨w4, w5⟩ ht hmx (by omega) v4 (by omega))]
        rfl
      · rw [if_neg he, oneI_f (fun h => he ?_)]
        · rfl
        · obtain ⟨_, _, _, c, k1, k2⟩ := h
          obtain ⟨v4, v5⟩ := v3.1 ⟨c, k1.1⟩
          have e1 := Lst.uniq ⟨v4, v5⟩ k1
          have e2 := Lst.uniq ⟨w4, w5⟩ k2
          omega
  · rw [oneI_f hmx, if_pos (by decide), oneI_f (fun h => hmx h.2.1)]
    rfl
def rkL (M0 M : MS) : Prop := ∀ j, j ≠ 17 → j ≠ 18 → j ≠ 19 → M j = M0 j
def rwR (M : MS) (l : List (Nat × Nat)) : Prop := M 17 0 = nI l.length ∧ ∀ i, i < l.length → M 18 i = nI (l.getD i (0, 0)).1 ∧ M 19 i = nI (l.getD i (0, 0)).2
theorem r_layRow (hM : RMp M0 C) (hC : Gp C) (hz : Z4 M0) (hk : Lk M0 lk) (hL : L ≤ 240) (hm : M0 16 0 = nI L) (hV : ∀ t, t ≤ L → ∀ s, s < 2 ^ caN C → hrV C lk b L M0 t s (Pt C lk b L t s)) (hu : Us C lk b L 0 0) : ∃ M' l, f_X11_layRow M0 = some M' ∧ rkL M0 M' ∧ Rw C lk b L l 0 0 ∧ l.length ≤ 240 ∧ rwR M' l := by
  have hpw := pw_le hC.n
  have hp1 := Nat.one_le_two_pow (n := caN C)
  unfold f_X11_layRow
  rw [Option.bind_some]
  have hlp := lp_w (b := fun q => b_X11_layRow_9 q.1 q.2.1 q.2.2) (fun n q => ∃ t s l, n = L - t ∧ t ≤ L ∧ q.1 = nI t ∧ q.2.1 = nI s ∧ s < 2 ^ caN C ∧ rkL M0 q.2.2 ∧ Us C lk b L t s ∧ l.length ≤ t ∧ rwR q.2.2 l ∧ ∀ l', Rw C lk b L l' t s → Rw C lk b L (l ++ l') 0 0) (fun r => ∃ l, rkL M0 r ∧ Rw C lk b L l 0 0 ∧ l.length ≤ 240 ∧ rwR r l) ?_ FU L (0, 0, va_up M0 17 (fun _ => 0)) ⟨0, 0, [], rfl, Nat.zero_le _, rfl, rfl, hp1, fun j h1 h2 h3 => up_n M0 _ h1, hu, Nat.le_refl _, ⟨rfl, fun i h => absurd h (Nat.not_lt_zero i)⟩, fun l' h => h⟩ (FU_gt (by omega))
  · obtain ⟨r, e, l, q⟩ := hlp
    exact ⟨r, l, by rw [e]; rfl, q⟩
  · rintro n ⟨q1, q2, q3⟩ ⟨t, s, l, k0, k1, k2, k3, k4, k5, k6, k7, k8, k9⟩
    have k2 : q1 = nI t := k2
    have k3 : q2 = nI s := k3
    subst k2 k3
    have k5 : rkL M0 q3 := k5
    have k8 : rwR q3 l := k8
    have hM3 : RMp q3 C := by unfold RMp; rw [k5 0 (by decide) (by decide) (by decide)]; exact hM
    have hz3 : Z4 q3 := by unfold Z4; rw [k5 4 (by decide) (by decide) (by decide)]; exact hz
    have hk3 : Lk q3 lk := by unfold Lk; rw [k5 15 (by decide) (by decide) (by decide)]; exact hk
    have hm3 : q3 16 0 = nI L := by rw [k5 16 (by decide) (by decide) (by decide)]; exact hm
    have hV3 : ∀ t, t ≤ L → ∀ s, s < 2 ^ caN C → hrV C lk b L q3 t s (Pt C lk b L t s) := by unfold hrV; rw [k5 14 (by decide) (by decide) (by decide)]; exact hV
    show (∃ r, b_X11_layRow_9 (nI t) (nI s) q3 = _ ∧ _) ∨ (∃ s' m, m < n ∧ b_X11_layRow_9 (nI t) (nI s) q3 = _ ∧ _)
    unfold b_X11_layRow_9
    rw [hm3, i_le (by omega) (by omega)]
    by_cases hLt : L ≤ t
    · rw [if_pos hLt]
      refine Or.inl ⟨q3, rfl, l, k5, ?_, by omega, k8⟩
      have h1 := k9 [] (Rw.fin hLt)
      rw [List.append_nil] at h1
      exact h1
    · rw [if_neg hLt]
      have hlp := lp_for (b := fun q => b_X11_layRow_19 (nI t) (nI s) q3 q) (2 ^ caN C) (fun i q => 1 ≤ i ∧ q = nI i ∧ ∀ z, 1 ≤ z → z < i → ¬ Nxt C lk b L t s z) (fun y => ∃ x, y = nI x ∧ 1 ≤ x ∧ x ≤ 2 ^ caN C ∧ (∀ z, 1 ≤ z → z < x → ¬ Nxt C lk b L t s z) ∧ (x < 2 ^ caN C → Nxt C lk b L t s x)) ?_ ?_ (F := FU) (i := 1) (s := 1) ⟨Nat.le_refl _, rfl, fun z h1 h2 => by omega⟩ hp1 (FU_gt (by omega))
      · obtain ⟨y, e, x, ex, hx1, hx2, hx3, hx4⟩ := hlp
        have hno : ∀ z, z < x → ¬ Nxt C lk b L t s z := fun z hz h => hx3 z h.2.1.1 hz h
        rw [e, Option.bind_some, ex]
        unfold k_X11_layRow_19
        rw [r_all hM3 hC, Option.bind_some, i_le (by omega) (by omega)]
        by_cases hx : x < 2 ^ caN C
        · have hn := hx4 hx
          have hpos := hn.2.1.pos hC
          have hl := hn.2.2.1
          have hT := tmS_le hC x
          have hNx : IsNx C lk b L t s x := Or.inr ⟨by omega, hn, hno⟩
          have hMr : ∀ f1 f2 f3, RMp (va_up (va_up (va_up q3 18 f1) 19 f2) 17 f3) C := fun _ _ _ => hM3
          rw [if_pos (by omega), k8.1, q_wrM (by omega) (by decide), Option.bind_some, up_n _ _ (by decide), k8.1, q_wrM (by omega) (by decide), Option.bind_some, Option.bind_some, up_n _ _ (by decide), up_n _ _ (by decide), up_n _ _ (by decide), k8.1, r_timeOfSet (hMr _ _ _) hC (by omega), Option.bind_some, Option.bind_some, Option.bind_some, nI_add, q_xor, nI_1]
          refine Or.inr ⟨_, L - (t + tmS C x), by omega, rfl, t + tmS C x, s ^^^ x, l ++ [(t, x)], rfl, hl, rfl, rfl, Nat.xor_lt_two_pow k4 hx, fun j h1 h2 h3 => ?_, hn.us, ?_, ⟨?_, ?_⟩, ?_⟩
          · dsimp only
            rw [up_n _ _ h1, up_n _ _ h3, up_n _ _ h2]
            exact k5 j h1 h2 h3
          · rw [List.length_append]
            show l.length + 1 ≤ t + tmS C x
            omega
          · dsimp only
            rw [up_s, List.length_append]
            rfl
          · intro i hi
            dsimp only
            rw [List.length_append] at hi
            have hi : i < l.length + 1 := hi
            rw [up_n (k := 17) _ _ (by decide), up_n (k := 17) _ _ (by decide), up_n (k := 19) _ _ (by decide), up_s, up_s]
            by_cases h5 : i = l.length
            · subst h5
              rw [pk_us, pk_us, getD_app2]
              exact ⟨rfl, rfl⟩
            · rw [pk_un h5, pk_un h5, getD_app1 (by omega)]
              exact k8.2 i (by omega)
          · intro l' h
            rw [List.append_assoc]
            exact k9 _ (Rw.cross (by omega) (by omega) hNx h)
        · have hNx : IsNx C lk b L t s 0 := Or.inl ⟨rfl, fun z h => hno z (by have := h.2.1.2.1; omega) h⟩
          rw [if_neg (by omega), Option.bind_some, nI_1]
          exact Or.inr ⟨_, L - (t + 1), by omega, rfl, t + 1, s, l, rfl, by omega, rfl, rfl, k4, k5, hNx.wait (by omega) k6, by omega, k8, fun l' h => k9 l' (h.wait hNx)⟩
      · rintro y ⟨j1, rfl, j3⟩
        refine ⟨nI (2 ^ caN C), ?_, 2 ^ caN C, rfl, j1, Nat.le_refl _, j3, fun h => by omega⟩
        show b_X11_layRow_19 (nI t) (nI s) q3 (nI (2 ^ caN C)) = _
        unfold b_X11_layRow_19
        rw [r_all hM3 hC, Option.bind_some, i_lt (by omega) (by omega), if_pos (by omega)]
      · rintro x y hx ⟨j1, rfl, j3⟩
        show (∃ s', b_X11_layRow_19 (nI t) (nI s) q3 (nI x) = _ ∧ _) ∨ (∃ r, b_X11_layRow_19 (nI t) (nI s) q3 (nI x) = _ ∧ _)
        unfold b_X11_layRow_19
        rw [r_all hM3 hC, Option.bind_some, i_lt (by omega) (by omega), if_neg (by omega), r_isNext hM3 hC hz3 hk3 hL hm3 hV3 (by omega) k4 k6 j1 hx, Option.bind_some]
        by_cases hn : Nxt C lk b L t s x
        · rw [oneI_t hn, if_neg (by decide)]
          exact Or.inr ⟨_, rfl, x, rfl, j1, by omega, j3, fun _ => hn⟩
        · rw [oneI_f hn, if_pos (by decide), Option.bind_some, nI_1]
          refine Or.inl ⟨_, rfl, by omega, rfl, fun z h1 h2 => ?_⟩
          rcases Nat.lt_or_ge z x with h8 | h8
          · exact j3 z h1 h8
          · obtain rfl : z = x := by omega
            exact hn
/-- what no call of the planner changes -/
def rk4 (M0 M : MS) : Prop := ∀ j, j < 4 → M j = M0 j
theorem r_findLeast (hM : RMp M0 C) (hC : Gp C) (hb : b < 2 ^ caN C) {k : Int32} {k2 : Nat} (hk2 : k2 < 31) (hlk : ∀ x, x < 64 → (bN x k2 = 0 ↔ x &&& lk = 0)) (hk : (k = -1 ∧ k2 = 6) ∨ k = nI k2) : ∃ r M', f_X11_findLeast M0 (nI b) k = some (r, M') ∧ rk4 M0 M' ∧ RMp M' C ∧ Z4 M' ∧ Lk M' lk ∧ IsMn C lk b (M' 16 0) ∧ ((M' 16 0 = -1 ∧ r = nI 1000000) ∨ ∃ L v, L ≤ 240 ∧ M' 16 0 = nI L ∧ r = nI v ∧ Lst C lk b L 0 0 v ∧ v < 1000000 ∧ ∀ t, t ≤ L → ∀ s, s < 2 ^ caN C → hrV C lk b L M' t s (Pt C lk b L t s)) := by
  obtain ⟨M1, e1, p1, p2⟩ := r_carryNothing M0
  have hM1 := p1.q (by decide) hM
  have hJ : ∃ r M', j_X11_findLeast_16 (nI b) M1 (nI k2) = some (r, M') ∧ rk4 M0 M' ∧ RMp M' C ∧ Z4 M' ∧ Lk M' lk ∧ IsMn C lk b (M' 16 0) ∧ ((M' 16 0 = -1 ∧ r = nI 1000000) ∨ ∃ L v, L ≤ 240 ∧ M' 16 0 = nI L ∧ r = nI v ∧ Lst C lk b L 0 0 v ∧ v < 1000000 ∧ ∀ t, t ≤ L → ∀ s, s < 2 ^ caN C → hrV C lk b L M' t s (Pt C lk b L t s)) := by
    unfold j_X11_findLeast_16
    rw [Option.bind_some]
    have hM3 : RMp (va_up M1 15 (fun _ => nI k2)) C := hM1
    have hz3 : Z4 (va_up M1 15 (fun _ => nI k2)) := p2
    have hk3 : Lk (va_up M1 15 (fun _ => nI k2)) lk := ⟨k2, hk2, rfl, hlk⟩
    obtain ⟨v, M5, e5, g1, g2⟩ := r_firstMinute hM3 hC hz3 hk3 hb
    rw [e5, q_bi2, Option.bind_some, up_s]
    have hM6 : RMp (va_up M5 16 (fun _ => v)) C := g1.q (by decide) hM3
    have hz6 : Z4 (va_up M5 16 (fun _ => v)) := g1.z (by decide) hz3
    have hk6 : Lk (va_up M5 16 (fun _ => v)) lk := by
      unfold Lk
      rw [up_n _ _ (by decide), g1 15 (by decide)]
      exact hk3
    have hr6 : rk4 M0 (va_up M5 16 (fun _ => v)) := fun j hj => by
      rw [up_n _ _ (by omega), g1 j (by omega), up_n _ _ (by omega), p1 j (by omega)]
    rcases g2.cases with hv | ⟨L, hL, hv, hov⟩
    · subst hv
      rw [if_pos (by rfl)]
      exact ⟨_, _, rfl, hr6, hM6, hz6, hk6, g2, Or.inl ⟨rfl, rfl⟩⟩
    · subst hv
      rw [if_neg (fun h => m1_ne (by omega) h.symm)]
      obtain ⟨w, M8, e8, n1, n2, n3, n4⟩ := r_findHire hM6 hC hz6 hk6 hL (Nat.lt_of_lt_of_le hb (pw_le hC.n))
      have hu : Us C lk b L 0 0 := by
        obtain ⟨s, h1, h2⟩ := hov
        exact h1.back hC (Pt.fin h2)
      rw [e8, q_bi2]
      have h16 : M8 16 0 = nI L := by rw [n1 16 (by decide)]; rfl
      have hls := n3.1 hu
      have hle := (hls.1.le hC).2
      refine ⟨_, _, rfl, fun j hj => (n1 j (by omega)).trans (hr6 j hj), n1.q (by decide) hM6, n1.z (by decide) hz6, ?_, ?_, Or.inr ⟨L, w, hL, h16, rfl, hls, by omega, n4⟩⟩
      · unfold Lk
        rw [n1 15 (by decide)]
        exact hk6
      · rw [h16]
        exact g2
  unfold f_X11_findLeast
  rw [e1, Option.bind_some]
  rcases hk with ⟨rfl, rfl⟩ | rfl
  · rw [if_pos (by rfl)]
    exact hJ
  · rw [if_neg (fun h => m1_ne (by omega) h.symm)]
    exact hJ
end
