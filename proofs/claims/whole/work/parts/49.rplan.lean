/-! the reference's planner -/
theorem up_s {α : Type} (f : Nat → α) (k : Nat) (v : α) : va_up f k v k = v := if_pos (by rfl)
theorem up_n {α : Type} (f : Nat → α) {k j : Nat} (v : α) (h : j ≠ k) : va_up f k v j = f j := if_neg h
/-- nothing but row k has changed -/
def kp (k : Nat) (M M' : MS) : Prop := ∀ j, j ≠ k → M' j = M j
theorem kp.rf (k : Nat) (M : MS) : kp k M M := fun _ _ => rfl
theorem kp.tr {k : Nat} {M M1 M2 : MS} (h : kp k M M1) (g : kp k M1 M2) : kp k M M2 := fun j hj => (g j hj).trans (h j hj)
theorem kp.up {k : Nat} {M M1 : MS} (h : kp k M M1) (f : Nat → Int32) : kp k M (va_up M1 k f) := fun j hj => (up_n M1 f hj).trans (h j hj)
theorem kp.q {k : Nat} {M M1 : MS} {C : Cmp} (h : kp k M M1) (hk : k ≠ 0) (g : RMp M C) : RMp M1 C := by
  unfold RMp
  rw [h 0 (fun e => hk e.symm)]
  exact g
theorem kp.z {k : Nat} {M M1 : MS} (h : kp k M M1) (hk : k ≠ 4) (g : Z4 M) : Z4 M1 := by
  unfold Z4
  rw [h 4 (fun e => hk e.symm)]
  exact g
theorem r_carryNothing (M : MS) : ∃ M', f_X11_carryNothing M = some M' ∧ kp 4 M M' ∧ Z4 M' := by
  unfold f_X11_carryNothing
  have hlp := lp_for (b := fun q => b_X11_carryNothing_2 q.1 q.2) 6 (fun i q => q.1 = nI i ∧ kp 4 M q.2 ∧ ∀ p, p < i → q.2 4 p = nI 0) (fun r => kp 4 M r ∧ Z4 r) ?_ ?_ (F := FU) (i := 0) (s := (0, M)) ⟨rfl, kp.rf 4 M, fun p h => by omega⟩ (Nat.zero_le _) (FU_gt (by decide))
  · obtain ⟨r, h1, h2, h3⟩ := hlp
    exact ⟨r, by rw [h1]; rfl, h2, h3⟩
  · rintro ⟨q1, q2⟩ ⟨h0, h⟩
    have h0 : q1 = nI 6 := h0
    subst h0
    refine ⟨q2, ?_, h⟩
    show b_X11_carryNothing_2 (nI 6) q2 = _
    unfold b_X11_carryNothing_2
    rw [if_pos (by decide)]
  · rintro i ⟨q1, q2⟩ hi ⟨h0, h2, h4⟩
    have h0 : q1 = nI i := h0
    subst h0
    have h2 : kp 4 M q2 := h2
    refine Or.inl ⟨(nI (i + 1), va_up q2 4 (upd (q2 4) i 0)), ?_, rfl, h2.up _, fun p hp => ?_⟩
    · show b_X11_carryNothing_2 (nI i) q2 = _
      unfold b_X11_carryNothing_2
      rw [ln6, i_le (by omega) (by omega), if_neg (by omega), q_wrM hi (by decide), Option.bind_some, Option.bind_some, nI_1]
    · show va_up q2 4 (upd (q2 4) i 0) 4 p = nI 0
      rw [up_s]
      by_cases h5 : p = i
      · subst h5; exact pk_us
      · rw [pk_un h5]; exact h4 p (by omega)
theorem q_lk6 : ∀ x, x < 64 → bN x 6 = 0 := by decide +kernel
theorem q_lkp : ∀ p, p < 6 → ∀ x, x < 64 → (bN x p = 0 ↔ x &&& 2 ^ p = 0) := by decide +kernel
/-- the one lacking, by its number and by its bits -/
def Lk (M : MS) (lk : Nat) : Prop := ∃ li, li < 31 ∧ M 15 0 = nI li ∧ ∀ x, x < 64 → (bN x li = 0 ↔ x &&& lk = 0)
section
variable {M : MS} {C : Cmp} {lk b L : Nat}
theorem r_mayCross (hM : RMp M C) (hC : Gp C) (hz : Z4 M) (hk : Lk M lk) {x s t : Nat} (h1 : 1 ≤ x) (hx : x < 2 ^ caN C) (hs : s < 64) (ht : t < 1000) : f_X11_mayCross M (nI x) (nI s) (nI t) = some (nI (oneI (mayX C lk x s t))) := by
  obtain ⟨li, l1, l2, l3⟩ := hk
  have hx6 : x < 64 := Nat.lt_of_lt_of_le hx (pw_le hC.n)
  have hb := bN_lt x li
  have hp6 : pcn x ≤ 6 := by
    have := bN_le x 0; have := bN_le x 1; have := bN_le x 2; have := bN_le x 3; have := bN_le x 4; have := bN_le x 5
    unfold pcn
    omega
  have hwl := whyS_lt (C := C) (s := x) (t := t) (nt := ntA C t)
  have hJ : j_X11_mayCross_18 M (nI x) (nI t) 1 = some (nI (oneI (x &&& lk = 0 ∧ whyS C x t (ntA C t) = 0))) := by
    unfold j_X11_mayCross_18
    rw [if_neg (by decide), l2, ln31, ln1, q_bit (by omega) l1, ln0, i_eq (by omega) (by omega)]
    by_cases h2 : bN x li = 0
    · rw [if_pos h2, r_manyIn hx6, Option.bind_some, ln3, i_le (by omega) (by omega)]
      by_cases h3 : 3 ≤ pcn x
      · rw [if_pos h3, oneI_f (fun h => by
          have := (whyS_0.mp h.2).1
          split at this <;> omega)]
      · rw [if_neg h3, r_whyNot hM hC hz hx ht, Option.bind_some, i_eq (by omega) (by omega)]
        by_cases h4 : whyS C x t (ntA C t) = 0
        · rw [if_pos h4, oneI_t ⟨(l3 x hx6).mp h2, h4⟩]
        · rw [if_neg h4, oneI_f (fun h => h4 h.2)]
    · rw [if_neg h2, oneI_f (fun h => h2 ((l3 x hx6).mpr h.1))]
  have ha := Nat.lt_of_le_of_lt (Nat.and_le_left (n := x) (m := s)) hx6
  unfold f_X11_mayCross j_X11_mayCross_13
  rw [hJ, q_and, Nat.and_comm s x, show (0 : Int32) = nI 0 from rfl, i_eq (by omega) (by omega), i_eq (by omega) (by omega)]
  by_cases h2 : x &&& s = 0
  · rw [if_pos h2]
    exact congrArg (fun z => some (nI z)) (oneI_c ⟨fun h => ⟨h1, hx, Or.inl h2, h⟩, fun h => h.2.2.2⟩)
  · rw [if_neg h2]
    by_cases h3 : x &&& s = x
    · rw [if_pos h3]
      exact congrArg (fun z => some (nI z)) (oneI_c ⟨fun h => ⟨h1, hx, Or.inr h3, h⟩, fun h => h.2.2.2⟩)
    · rw [if_neg h3, oneI_f (fun h => h.2.2.1.elim h2 h3)]
      unfold j_X11_mayCross_18
      rw [if_pos (by rfl)]
      rfl
theorem q_at (t s : Nat) : f_X11_at (nI t) (nI s) = some (nI (64 * t + s)) := by
  unfold f_X11_at
  rw [ln64, pk_mul, nI_add]
theorem q_b1 : vp_nar .boolean 1 = nI 1 := rfl
theorem q_b0 : vp_nar .boolean 0 = nI 0 := rfl
/-- the row comes holds P -/
def cmH (M : MS) (P : Nat → Nat → Prop) : Prop := ∀ t, t ≤ 240 → ∀ s, s < 64 → M 20 (64 * t + s) = nI (oneI (P t s))
theorem cmH.set {M : MS} {P Q : Nat → Nat → Prop} {t s : Nat} (h : cmH M P) (hs : s < 64) (e : ∀ t' s', Q t' s' ↔ P t' s' ∨ (t' = t ∧ s' = s)) : cmH (va_up M 20 (upd (M 20) (64 * t + s) (nI 1))) Q := by
  intro t' ht' s' hs'
  rw [up_s]
  by_cases h1 : t' = t ∧ s' = s
  · rw [h1.1, h1.2, pk_us, oneI_t ((e t s).mpr (Or.inr ⟨rfl, rfl⟩))]
  · rw [pk_un (by omega), h t' ht' s' hs', oneI_c ⟨fun h2 => (e t' s').mpr (Or.inl h2), fun h2 => ((e t' s').mp h2).elim id (fun h3 => absurd h3 h1)⟩]
theorem r_goForth (hM : RMp M C) (hC : Gp C) (hz : Z4 M) (hk : Lk M lk) {P : Nat → Nat → Prop} (hP : cmH M P) {t s : Nat} (ht : t < 240) (hs : s < 2 ^ caN C) : ∃ M', f_X11_goForth M (nI t) (nI s) = some M' ∧ kp 20 M M' ∧ cmH M' (fun t' s' => P t' s' ∨ stp C lk t s t' s') := by
  have hs6 : s < 64 := Nat.lt_of_lt_of_le hs (pw_le hC.n)
  have hpw := pw_le hC.n
  unfold f_X11_goForth
  rw [ln240, i_eq (by omega) (by omega), if_neg (by omega), nI_1, q_at, Option.bind_some, q_b1, q_wrM (by omega) (by decide), Option.bind_some]
  have hlp := lp_for (b := fun q => b_X11_goForth_23 (nI t) (nI s) q.1 q.2) (2 ^ caN C) (fun i q => 1 ≤ i ∧ q.1 = nI i ∧ kp 20 M q.2 ∧ cmH q.2 (fun t' s' => P t' s' ∨ (t' = t + 1 ∧ s' = s) ∨ ∃ x, x < i ∧ mayX C lk x s t ∧ t' = t + tmS C x ∧ s' = s ^^^ x)) (fun r => kp 20 M r ∧ cmH r (fun t' s' => P t' s' ∨ stp C lk t s t' s')) ?_ ?_ (F := FU) (i := 1) (s := (1, va_up M 20 (upd (M 20) (64 * (t + 1) + s) (nI 1)))) ⟨Nat.le_refl _, rfl, (kp.rf 20 M).up _, hP.set hs6 (fun t' s' => ⟨fun h => h.imp id (fun h => h.elim id (fun ⟨x, x1, x2, _⟩ => by have := x2.1; omega)), fun h => h.imp id Or.inl⟩)⟩ (Nat.one_le_two_pow) (FU_gt (by omega))
  · obtain ⟨r, e, q1, q2⟩ := hlp
    exact ⟨r, by rw [e]; rfl, q1, q2⟩
  · rintro ⟨q1, q2⟩ ⟨_, h0, h1, h2⟩
    have h0 : q1 = nI (2 ^ caN C) := h0
    subst h0
    have h1 : kp 20 M q2 := h1
    refine ⟨q2, ?_, h1, fun t' ht' s' hs' => (h2 t' ht' s' hs').trans (congrArg nI (oneI_c ⟨fun h => h.imp id (fun h => h.imp id (fun ⟨x, _, x2⟩ => ⟨x, x2⟩)), fun h => h.imp id (fun h => h.imp id (fun ⟨x, x2⟩ => ⟨x, x2.1.2.1, x2⟩))⟩))⟩
    show b_X11_goForth_23 (nI t) (nI s) (nI (2 ^ caN C)) q2 = _
    unfold b_X11_goForth_23
    rw [r_all (h1.q (by decide) hM) hC, Option.bind_some, i_lt (by omega) (by omega), if_pos (by have := Nat.one_le_two_pow (n := caN C); omega)]
  · rintro i ⟨q1, q2⟩ hi ⟨hi1, h0, h1, h2⟩
    have h0 : q1 = nI i := h0
    subst h0
    have h1 : kp 20 M q2 := h1
    have h2 : cmH q2 (fun t' s' => P t' s' ∨ (t' = t + 1 ∧ s' = s) ∨ ∃ x, x < i ∧ mayX C lk x s t ∧ t' = t + tmS C x ∧ s' = s ^^^ x) := h2
    have hM2 := h1.q (by decide) hM
    have hz2 := h1.z (by decide) hz
    have hk2 : Lk q2 lk := by unfold Lk; rw [h1 15 (by decide)]; exact hk
    refine Or.inl ?_
    show ∃ s', b_X11_goForth_23 (nI t) (nI s) (nI i) q2 = _ ∧ _
    have hT := tmS_le hC i
    unfold b_X11_goForth_23
    rw [r_all hM2 hC, Option.bind_some, i_lt (by omega) (by omega), if_neg (by omega), r_mayCross hM2 hC hz2 hk2 hi1 hi hs6 (by omega), Option.bind_some]
    by_cases hm : mayX C lk i s t
    · have hend := hm.end
      have hsx : s ^^^ i < 64 := lt64_xor hs6 (by omega)
      rw [oneI_t hm, if_neg (by decide), r_timeOfSet hM2 hC (by omega), Option.bind_some, nI_add, q_xor, q_at, Option.bind_some, q_b1, q_wrM (by omega) (by decide), Option.bind_some, Option.bind_some, nI_1]
      refine ⟨_, rfl, by omega, rfl, h1.up _, h2.set hsx (fun t' s' => ⟨?_, ?_⟩)⟩
      · rintro (h | h | ⟨x, x1, x2⟩)
        · exact Or.inl (Or.inl h)
        · exact Or.inl (Or.inr (Or.inl h))
        · rcases Nat.lt_or_ge x i with h8 | h8
          · exact Or.inl (Or.inr (Or.inr ⟨x, h8, x2⟩))
          · obtain rfl : x = i := by omega
            exact Or.inr x2.2
      · rintro ((h | h | ⟨x, x1, x2⟩) | h)
        · exact Or.inl h
        · exact Or.inr (Or.inl h)
        · exact Or.inr (Or.inr ⟨x, by omega, x2⟩)
        · exact Or.inr (Or.inr ⟨i, by omega, hm, h⟩)
    · rw [oneI_f hm, if_pos (by decide), Option.bind_some, nI_1]
      refine ⟨_, rfl, by omega, rfl, h1, fun t' ht' s' hs' => (h2 t' ht' s' hs').trans (congrArg nI (oneI_c ⟨fun h => h.imp id (fun h => h.imp id (fun ⟨x, x1, x2⟩ => ⟨x, by omega, x2⟩)), fun h => h.imp id (fun h => h.imp id (fun ⟨x, x1, x2⟩ => ?_))⟩))⟩
      rcases Nat.lt_or_ge x i with h8 | h8
      · exact ⟨x, h8, x2⟩
      · obtain rfl : x = i := by omega
        exact absurd x2.1 hm
def rfN (C : Cmp) (lk k j t s : Nat) : Prop := Fk C lk k t s ∨ ∃ s', s' < j ∧ Rch C lk k s' ∧ k < 240 ∧ stp C lk k s' t s
theorem rfN.at (hC : Gp C) {k j s : Nat} : rfN C lk k j k s ↔ Rch C lk k s := by
  constructor
  · rintro (h | ⟨s', _, _, _, h4⟩)
    · exact h.rch
    · have := h4.gt hC
      omega
  · exact fun h => Or.inl ((Fk.at hC).mpr h)
theorem r_firstMinute (hM : RMp M C) (hC : Gp C) (hz : Z4 M) (hk : Lk M lk) (hb : b < 2 ^ caN C) : ∃ v M', f_X11_firstMinute M (nI b) = some (v, M') ∧ kp 20 M M' ∧ IsMn C lk b v := by
  have hpw := pw_le hC.n
  have hp1 := Nat.one_le_two_pow (n := caN C)
  unfold f_X11_firstMinute
  have hlp := lp_for (b := fun q => b_X11_firstMinute_2 q.1 q.2) 15424 (fun i q => q.1 = nI i ∧ kp 20 M q.2 ∧ ∀ j, j < i → q.2 20 j = nI (if j = 0 then 1 else 0)) (fun r => kp 20 M r ∧ ∀ j, j < 15424 → r 20 j = nI (if j = 0 then 1 else 0)) ?_ ?_ (F := FU) (i := 0) (s := (0, M)) ⟨rfl, kp.rf 20 M, fun p h => by omega⟩ (Nat.zero_le _) (FU_gt (by decide))
  · obtain ⟨M1, e1, p1, p2⟩ := hlp
    rw [e1, Option.bind_some]
    unfold k_X11_firstMinute_2
    have hlp := lp_for (b := fun q => b_X11_firstMinute_32 (nI b) q.1 q.2) 241 (fun k q => q.1 = nI k ∧ kp 20 M q.2 ∧ cmH q.2 (Fk C lk k) ∧ ∀ j, j < k → ¬ Ov C lk b j) (fun r => kp 20 M r.2 ∧ IsMn C lk b r.1) ?_ ?_ (F := FU) (i := 0) (s := (0, M1)) ⟨rfl, p1, fun t ht s hs => ?_, fun j h => by omega⟩ (Nat.zero_le _) (FU_gt (by decide))
    · obtain ⟨r, e, q1, q2⟩ := hlp
      exact ⟨r.1, r.2, e, q1, q2⟩
    · rintro ⟨q1, q2⟩ ⟨h0, h1, h2, h3⟩
      have h0 : q1 = nI 241 := h0
      subst h0
      refine ⟨(-1, q2), ?_, h1, Or.inl ⟨rfl, fun k hk => h3 k (by omega)⟩⟩
      show b_X11_firstMinute_32 (nI b) (nI 241) q2 = _
      unfold b_X11_firstMinute_32
      rw [if_pos (by decide)]
    · rintro k ⟨q1, q2⟩ hk2 ⟨h0, h1, h2, h3⟩
      have h0 : q1 = nI k := h0
      subst h0
      have h1 : kp 20 M q2 := h1
      show (∃ s', b_X11_firstMinute_32 (nI b) (nI k) q2 = _ ∧ _) ∨ (∃ r, b_X11_firstMinute_32 (nI b) (nI k) q2 = _ ∧ _)
      unfold b_X11_firstMinute_32
      rw [ln240, i_lt (by omega) (by omega), if_neg (by omega)]
      have hlp := lp_for (b := fun q => b_X11_firstMinute_41 (nI b) (nI k) q.1 q.2) (2 ^ caN C) (fun j q => q.1 = nI j ∧ kp 20 M q.2 ∧ cmH q.2 (rfN C lk k j) ∧ ∀ s, s < j → Rch C lk k s → ¬ ov b s) (fun r => (∃ M', r = Sum.inl (nI (k + 1), M') ∧ kp 20 M M' ∧ cmH M' (Fk C lk (k + 1)) ∧ ¬ Ov C lk b k) ∨ (∃ M', r = Sum.inr (nI k, M') ∧ kp 20 M M' ∧ Ov C lk b k)) ?_ ?_ (F := FU) (i := 0) (s := (0, q2)) ⟨rfl, h1, fun t ht s hs => (h2 t ht s hs).trans (congrArg nI (oneI_c ⟨Or.inl, fun h => h.elim id (fun ⟨s', a, _⟩ => by omega)⟩)), fun s h => by omega⟩ (Nat.zero_le _) (FU_gt (by omega))
      · obtain ⟨r, e, hr⟩ := hlp
        rcases hr with ⟨M', rfl, g1, g2, g3⟩ | ⟨M', rfl, g1, g2⟩
        · refine Or.inl ⟨_, e, rfl, g1, g2, fun j hj => ?_⟩
          rcases Nat.lt_or_ge j k with h8 | h8
          · exact h3 j h8
          · obtain rfl : j = k := by omega
            exact g3
        · exact Or.inr ⟨_, e, g1, Or.inr ⟨k, by omega, rfl, g2, h3⟩⟩
      · rintro ⟨y1, y2⟩ ⟨k0, k1, k2, k3⟩
        have k0 : y1 = nI (2 ^ caN C) := k0
        subst k0
        have k1 : kp 20 M y2 := k1
        refine ⟨Sum.inl (nI (k + 1), y2), ?_, Or.inl ⟨y2, rfl, k1, fun t ht s hs => (k2 t ht s hs).trans (congrArg nI (oneI_c ?_)), fun ⟨s, a, c⟩ => k3 s a.lt.2 a c⟩⟩
        · show b_X11_firstMinute_41 (nI b) (nI k) (nI (2 ^ caN C)) y2 = _
          unfold b_X11_firstMinute_41
          rw [r_all (k1.q (by decide) hM) hC, Option.bind_some, i_lt (by omega) (by omega), if_pos (by omega), Option.bind_some, nI_1]
        · rcases Nat.lt_or_ge k 240 with h8 | h8
          · rw [Fk.succ h8]
            exact ⟨fun h => h.imp id (fun ⟨s', _, a, _, c⟩ => ⟨s', a, c⟩), fun h => h.imp id (fun ⟨s', a, c⟩ => ⟨s', a.lt.2, a, h8, c⟩)⟩
          · refine ⟨fun h => h.elim (fun h => ?_) (fun ⟨s', _, _, a, _⟩ => by omega), fun h => Or.inl (Fk.of hC h.rch (by omega))⟩
            exact Fk.of hC h.rch (by omega)
      · rintro j ⟨y1, y2⟩ hj ⟨k0, k1, k2, k3⟩
        have k0 : y1 = nI j := k0
        subst k0
        have k1 : kp 20 M y2 := k1
        have k2 : cmH y2 (rfN C lk k j) := k2
        have hM2 := k1.q (by decide) hM
        have hba := Nat.lt_of_le_of_lt (Nat.and_le_left (n := j) (m := b)) hj
        show (∃ s', b_X11_firstMinute_41 (nI b) (nI k) (nI j) y2 = _ ∧ _) ∨ (∃ r, b_X11_firstMinute_41 (nI b) (nI k) (nI j) y2 = _ ∧ _)
        unfold b_X11_firstMinute_41
        rw [r_all hM2 hC, Option.bind_some, i_lt (by omega) (by omega), if_neg (by omega), q_at, Option.bind_some, q_rd (by omega) (by decide), Option.bind_some, k2 k (by omega) j (by omega), oneI_c (rfN.at hC)]
        by_cases hr : Rch C lk k j
        · rw [oneI_t hr, if_neg (by decide), q_and, i_eq (by omega) (by omega)]
          by_cases ho : j &&& b = b
          · rw [if_pos ho]
            exact Or.inr ⟨_, rfl, Or.inr ⟨y2, rfl, k1, j, hr, ho⟩⟩
          · rw [if_neg ho]
            rcases Nat.lt_or_ge k 240 with h8 | h8
            · obtain ⟨M', e', g1, g2⟩ := r_goForth hM2 hC (k1.z (by decide) hz) (by unfold Lk; rw [k1 15 (by decide)]; exact hk) k2 h8 hj
              rw [e', Option.bind_some, Option.bind_some, nI_1]
              refine Or.inl ⟨_, rfl, rfl, k1.tr g1, fun t ht s hs => (g2 t ht s hs).trans (congrArg nI (oneI_c ⟨?_, ?_⟩)), fun s hs' => ?_⟩
              · rintro ((h | ⟨s', a, c⟩) | h)
                · exact Or.inl h
                · exact Or.inr ⟨s', by omega, c⟩
                · exact Or.inr ⟨j, by omega, hr, h8, h⟩
              · rintro (h | ⟨s', a, c, d, f⟩)
                · exact Or.inl (Or.inl h)
                · rcases Nat.lt_or_ge s' j with h9 | h9
                  · exact Or.inl (Or.inr ⟨s', h9, c, d, f⟩)
                  · obtain rfl : s' = j := by omega
                    exact Or.inr f
              · rcases Nat.lt_or_ge s j with h9 | h9
                · exact k3 s h9
                · obtain rfl : s = j := by omega
                  exact fun _ => ho
            · obtain rfl : k = 240 := by omega
              unfold f_X11_goForth
              rw [if_pos (by rfl), Option.bind_some, Option.bind_some, nI_1]
              refine Or.inl ⟨_, rfl, rfl, k1, fun t ht s hs => (k2 t ht s hs).trans (congrArg nI (oneI_c ⟨fun h => h.imp id (fun ⟨s', a, c⟩ => ⟨s', by omega, c⟩), fun h => h.imp id (fun ⟨s', a, c, d, _⟩ => by omega)⟩)), fun s hs' => ?_⟩
              rcases Nat.lt_or_ge s j with h9 | h9
              · exact k3 s h9
              · obtain rfl : s = j := by omega
                exact fun _ => ho
        · rw [oneI_f hr, if_pos (by decide), Option.bind_some, nI_1]
          refine Or.inl ⟨_, rfl, rfl, k1, fun t ht s hs => (k2 t ht s hs).trans (congrArg nI (oneI_c ⟨fun h => h.imp id (fun ⟨s', a, c⟩ => ⟨s', by omega, c⟩), fun h => h.imp id (fun ⟨s', a, c⟩ => ?_)⟩)), fun s hs' => ?_⟩
          · rcases Nat.lt_or_ge s j with h9 | h9
            · exact k3 s h9
            · obtain rfl : s = j := by omega
              exact fun h => absurd h hr
          · rcases Nat.lt_or_ge s' j with h9 | h9
            · exact ⟨s', h9, c⟩
            · obtain rfl : s' = j := by omega
              exact absurd c.1 hr
    · show M1 20 (64 * t + s) = _
      rw [p2 _ (by omega)]
      refine congrArg nI ?_
      by_cases h : 64 * t + s = 0
      · rw [if_pos h, oneI_t (Fk.zero.mpr ⟨by omega, by omega⟩)]
      · rw [if_neg h, oneI_f (fun h9 => by have := Fk.zero.mp h9; omega)]
  · rintro ⟨q1, q2⟩ ⟨h0, h⟩
    have h0 : q1 = nI 15424 := h0
    subst h0
    refine ⟨q2, ?_, h⟩
    show b_X11_firstMinute_2 (nI 15424) q2 = _
    unfold b_X11_firstMinute_2
    rw [if_pos (by decide)]
  · rintro i ⟨q1, q2⟩ hi ⟨h0, h2, h4⟩
    have h0 : q1 = nI i := h0
    subst h0
    have h2 : kp 20 M q2 := h2
    refine Or.inl ⟨(nI (i + 1), va_up q2 20 (upd (q2 20) i (nI (if i = 0 then 1 else 0)))), ?_, rfl, h2.up _, fun p hp => ?_⟩
    · show b_X11_firstMinute_2 (nI i) q2 = _
      unfold b_X11_firstMinute_2
      rw [show (15424 : Int32) = nI 15424 from rfl, i_le (by omega) (by omega), if_neg (by omega), ln0, i_eq (by omega) (by omega), q_wrM hi (by decide), q_wrM hi (by decide)]
      by_cases h5 : i = 0
      · rw [if_pos h5, if_pos h5, q_b1, Option.bind_some, Option.bind_some, nI_1]
      · rw [if_neg h5, if_neg h5, Option.bind_some, Option.bind_some, nI_1]
        rfl
    · show va_up q2 20 (upd (q2 20) i _) 20 p = _
      rw [up_s]
      by_cases h5 : p = i
      · subst h5; exact pk_us
      · rw [pk_un h5]; exact h4 p (by omega)
end
