/-! the class' planner: what is open, and the fewest minutes -/
def PF (S S' : CS) : Prop := S'.2.2 = S.2.2 ∧ ∀ k, (k < 33 ∨ (40 ≤ k ∧ k < 4300) ∨ 5000 ≤ k) → S'.1 k = S.1 k
theorem PF.rf (S : CS) : PF S S := ⟨rfl, fun _ _ => rfl⟩
theorem PF.tr {S S1 S2 : CS} (h : PF S S1) (g : PF S1 S2) : PF S S2 := ⟨g.1.trans h.1, fun k hk => (g.2 k hk).trans (h.2 k hk)⟩
theorem PF.i {S S1 : CS} (h : PF S S1) {k : Nat} (f : Nat → Int32) (hk : (33 ≤ k ∧ k < 40) ∨ (4300 ≤ k ∧ k < 5000)) : PF S (siI S1 k f) := ⟨h.1, fun j hj => by
  show va_up S1.1 k f j = S.1 j
  unfold va_up
  rw [if_neg (by omega)]
  exact h.2 j hj⟩
theorem PF.j {S S1 : CS} (h : PF S S1) (k : Nat) (f : Nat → Int64) : PF S (siJ S1 k f) := ⟨h.1, h.2⟩
theorem PF.q {S S1 : CS} {C : Cmp} (h : PF S S1) (hS : RCp S C) : RCp S1 C := by
  unfold RCp
  rw [h.1, h.2 5 (by decide), h.2 1306 (by decide)]
  exact hS
theorem siI_s (S : CS) (k : Nat) (f : Nat → Int32) : (siI S k f).1 k = f := if_pos (by rfl)
theorem siI_n (S : CS) {k j : Nat} (f : Nat → Int32) (h : j ≠ k) : (siI S k f).1 j = S.1 j := if_neg h
theorem siJ_s (S : CS) (k : Nat) (f : Nat → Int64) : (siJ S k f).2.1 k = f := if_pos (by rfl)
theorem siJ_n (S : CS) {k j : Nat} (f : Nat → Int64) (h : j ≠ k) : (siJ S k f).2.1 j = S.2.1 j := if_neg h
def okS (C : Cmp) (x t nt : Nat) : Prop := pcn x = (if nt = 1 then 1 else 2) ∧ ¬ anv C x nt ∧ ¬ (nt = 0 ∧ ¬ unl C (fs1 x) (fs2 x) t 0 0)
def opn (C : Cmp) (lk x t : Nat) : Prop := 1 ≤ x ∧ x < 2 ^ caN C ∧ x &&& lk = 0 ∧ okS C x t (ntA C t)
theorem whyS_06 {C : Cmp} {s t nt : Nat} : (whyS C s t nt = 0 ∨ whyS C s t nt = 6) ↔ okS C s t nt := by
  unfold whyS okS
  by_cases h1 : pcn s = (if nt = 1 then 1 else 2)
  · rw [if_pos h1]
    by_cases h2 : anv C s nt
    · rw [cif_t h2]
      exact ⟨fun h => (by rcases h with h | h <;> cases h), fun h => absurd h2 h.2.1⟩
    · rw [cif_f h2]
      by_cases h3 : nt = 0 ∧ ¬ unl C (fs1 s) (fs2 s) t 0 0
      · rw [cif_t h3]
        exact ⟨fun h => (by rcases h with h | h <;> cases h), fun h => absurd h3 h.2.2⟩
      · rw [cif_f h3]
        refine ⟨fun _ => ⟨h1, h2, h3⟩, fun _ => ?_⟩
        split
        · exact Or.inr rfl
        · exact Or.inl rfl
  · rw [if_neg h1]
    exact ⟨fun h => (by rcases h with h | h <;> cases h), fun h => absurd h.1 h1⟩
theorem mayX_opn {C : Cmp} {lk x s t : Nat} : mayX C lk x s t ↔ opn C lk x t ∧ oneS x s ∧ t + tmS C x ≤ 240 := by
  unfold mayX opn okS
  rw [whyS_0]
  exact ⟨fun ⟨a, b, c, d, e, f, g, h⟩ => ⟨⟨a, b, d, e, f, g⟩, c, h⟩, fun ⟨⟨a, b, d, e, f, g⟩, c, h⟩ => ⟨a, b, c, d, e, f, g, h⟩⟩
theorem okS_pcn {C : Cmp} {x t nt : Nat} (h : okS C x t nt) : pcn x ≤ 2 := by
  have := h.1
  split at this <;> omega
/-- between evening and night nothing changes -/
theorem okS_next {C : Cmp} {x t : Nat} (h1 : t + 1 ≠ caU C 1) (h3 : t + 1 ≠ caU C 3) : okS C x (t + 1) (ntA C (t + 1)) ↔ okS C x t (ntA C t) := by
  have e1 : ntA C (t + 1) = ntA C t := by
    unfold ntA
    by_cases h : caU C 3 ≤ t
    · rw [if_pos h, if_pos (by omega)]
    · rw [if_neg h, if_neg (by omega)]
  have e2 : ∀ p, wtA C p (t + 1) = wtA C p t := by
    intro p
    unfold wtA
    by_cases h : (caK C p = 2 ∨ caK C p = 4) ∧ caU C 1 ≤ t
    · rw [if_pos h, if_pos ⟨h.1, by omega⟩]
    · rw [if_neg h, if_neg (fun k => h ⟨k.1, by omega⟩)]
  unfold okS unl dfW
  rw [e1, e2, e2]
section
variable {S : CS} {C : Cmp}
theorem c_hasSet (hS : RCp S C) (hC : Gp C) {x : Nat} (hx : x < 2147483648) : f_X1_hasSet_3 S (nI x) = some (nI (if x < 2 ^ caN C then 1 else 0)) := by
  have hn := hC.n
  have := pw_le hn
  unfold f_X1_hasSet_3
  rw [if_neg (nI_pos (by omega)), hS.n, ln1, ln31, q_shl (by omega), i_le (by omega) (by omega)]
  by_cases h : x < 2 ^ caN C
  · rw [if_neg (by omega), if_pos h]
  · rw [if_pos (by omega), if_neg h]; rfl
theorem c_fill35 (S : CS) : ∃ S', f_J7_fill_d0a16_35 S 0 = some S' ∧ PF S S' ∧ S'.1 = S.1 ∧ ∀ t, t < 240 → S'.2.1 35 t = 0 := by
  unfold f_J7_fill_d0a16_35
  have hlp := lp_for (b := fun q => b_J7_fill_d0a16_35_6 0 q.1 q.2) 240 (fun i q => q.1 = nI i ∧ PF S q.2 ∧ q.2.1 = S.1 ∧ ∀ t, t < i → q.2.2.1 35 t = 0) (fun r => PF S r ∧ r.1 = S.1 ∧ ∀ t, t < 240 → r.2.1 35 t = 0) ?_ ?_ (F := FU) (i := 0) (s := (0, S)) ⟨rfl, PF.rf S, rfl, fun t h => by omega⟩ (Nat.zero_le _) (FU_gt (by decide))
  · obtain ⟨r, h1, h2, h3, h4⟩ := hlp
    exact ⟨r, by rw [h1]; rfl, h2, h3, h4⟩
  · rintro ⟨q1, q2⟩ ⟨h0, h⟩
    have h0 : q1 = nI 240 := h0
    subst h0
    refine ⟨q2, ?_, h⟩
    show b_J7_fill_d0a16_35_6 0 (nI 240) q2 = _
    unfold b_J7_fill_d0a16_35_6
    rw [if_pos (by decide)]
  · rintro i ⟨q1, q2⟩ hi ⟨h0, h2, h3, h4⟩
    have h0 : q1 = nI i := h0
    subst h0
    refine Or.inl ⟨(nI (i + 1), siJ q2 35 (vp_updL (q2.2.1 35) i 0)), ?_, rfl, h2.j _ _, h3, fun t ht => ?_⟩
    · show b_J7_fill_d0a16_35_6 0 (nI i) q2 = _
      unfold b_J7_fill_d0a16_35_6
      rw [ln240, i_le (by omega) (by omega), if_neg (by omega), q_wrJ hi (by decide), Option.bind_some, Option.bind_some, nI_1]
    · show (siJ q2 35 (vp_updL (q2.2.1 35) i 0)).2.1 35 t = 0
      rw [siJ_s]
      by_cases h5 : t = i
      · subst h5; exact pk_uLs
      · rw [pk_uLn h5]; exact h4 t (by omega)
theorem c_fill36 (S : CS) : ∃ S', f_J7_fill_d0a16_36 S 0 = some S' ∧ PF S S' ∧ S'.1 = S.1 ∧ S'.2.1 35 = S.2.1 35 ∧ ∀ t, t < 241 → S'.2.1 36 t = 0 := by
  unfold f_J7_fill_d0a16_36
  have hlp := lp_for (b := fun q => b_J7_fill_d0a16_36_6 0 q.1 q.2) 241 (fun i q => q.1 = nI i ∧ PF S q.2 ∧ q.2.1 = S.1 ∧ q.2.2.1 35 = S.2.1 35 ∧ ∀ t, t < i → q.2.2.1 36 t = 0) (fun r => PF S r ∧ r.1 = S.1 ∧ r.2.1 35 = S.2.1 35 ∧ ∀ t, t < 241 → r.2.1 36 t = 0) ?_ ?_ (F := FU) (i := 0) (s := (0, S)) ⟨rfl, PF.rf S, rfl, rfl, fun t h => by omega⟩ (Nat.zero_le _) (FU_gt (by decide))
  · obtain ⟨r, h1, h2, h3, h4⟩ := hlp
    exact ⟨r, by rw [h1]; rfl, h2, h3, h4⟩
  · rintro ⟨q1, q2⟩ ⟨h0, h⟩
    have h0 : q1 = nI 241 := h0
    subst h0
    refine ⟨q2, ?_, h⟩
    show b_J7_fill_d0a16_36_6 0 (nI 241) q2 = _
    unfold b_J7_fill_d0a16_36_6
    rw [if_pos (by decide)]
  · rintro i ⟨q1, q2⟩ hi ⟨h0, h2, h3, h5, h4⟩
    have h0 : q1 = nI i := h0
    subst h0
    refine Or.inl ⟨(nI (i + 1), siJ q2 36 (vp_updL (q2.2.1 36) i 0)), ?_, rfl, h2.j _ _, h3, (siJ_n q2 _ (by decide)).trans h5, fun t ht => ?_⟩
    · show b_J7_fill_d0a16_36_6 0 (nI i) q2 = _
      unfold b_J7_fill_d0a16_36_6
      rw [ln241, i_le (by omega) (by omega), if_neg (by omega), q_wrJ hi (by decide), Option.bind_some, Option.bind_some, nI_1]
    · show (siJ q2 36 (vp_updL (q2.2.1 36) i 0)).2.1 36 t = 0
      rw [siJ_s]
      by_cases h5 : t = i
      · subst h5; exact pk_uLs
      · rw [pk_uLn h5]; exact h4 t (by omega)
/-- the state of findOpen behind the sets of small number j: nothing but the row 35 has changed -/
def opI (S0 : CS) (C : Cmp) (lk j : Nat) (S : CS) : Prop := PF S0 S ∧ S.1 = S0.1 ∧ ∀ t, t < 240 → ∀ x, x < 64 → (bt (S.2.1 35 t) x = true ↔ ∃ i, i < j ∧ sm i = x ∧ opn C lk x t)
theorem c_findOpen1 (hS : RCp S C) (hC : Gp C) {lk j : Nat} (hj : j < 21) {S1 : CS} (hI : opI S C lk j S1) (hx : opn C lk (sm j) 0 ∨ (sm j < 2 ^ caN C ∧ sm j &&& lk = 0)) : ∃ S2, lp (fun s => b_X7_findOpen_33_3_61 (nI (sm j)) 1 s.1 s.2.1 s.2.2) FU (0, 0, S1) = some S2 ∧ opI S C lk (j + 1) S2 := by
  have hu := hC.u
  obtain ⟨g1, g2, g3⟩ := q_sm2 j hj
  have hxn : sm j < 2 ^ caN C ∧ sm j &&& lk = 0 := hx.elim (fun h => ⟨h.2.1, h.2.2.1⟩) id
  have hlp := lp_for (b := fun q => b_X7_findOpen_33_3_61 (nI (sm j)) 1 q.1 q.2.1 q.2.2) 240 (fun i q => q.2.1 = nI i ∧ (i ≠ 0 → q.1 = nI (oneI (okS C (sm j) (i - 1) (ntA C (i - 1))))) ∧ PF S q.2.2 ∧ q.2.2.1 = S.1 ∧ ∀ t, t < 240 → ∀ x, x < 64 → (bt (q.2.2.2.1 35 t) x = true ↔ (∃ i, i < j ∧ sm i = x ∧ opn C lk x t) ∨ (t < i ∧ sm j = x ∧ opn C lk x t))) (fun S2 => opI S C lk (j + 1) S2) ?_ ?_ (F := FU) (i := 0) (s := (0, 0, S1)) ⟨rfl, fun h => absurd rfl h, hI.1, hI.2.1, fun t ht x hx => by rw [hI.2.2 t ht x hx]; exact ⟨Or.inl, fun h => h.elim id (fun h => by omega)⟩⟩ (Nat.zero_le _) (FU_gt (by decide))
  · obtain ⟨S2, h1, h2⟩ := hlp
    exact ⟨S2, h1, h2⟩
  · rintro ⟨q1, q2, q3⟩ ⟨h0, _, h3, h4, h5⟩
    have h0 : q2 = nI 240 := h0
    subst h0
    refine ⟨q3, ?_, h3, h4, fun t ht x hx => ?_⟩
    · show b_X7_findOpen_33_3_61 (nI (sm j)) 1 q1 (nI 240) q3 = _
      unfold b_X7_findOpen_33_3_61
      rw [if_pos (by decide)]
    · refine (h5 t ht x hx).trans ⟨fun h => ?_, fun ⟨i, h6, h7⟩ => ?_⟩
      · rcases h with ⟨i, h6, h7⟩ | ⟨h6, h7⟩
        · exact ⟨i, by omega, h7⟩
        · exact ⟨j, by omega, h7⟩
      · rcases Nat.lt_or_ge i j with h8 | h8
        · exact Or.inl ⟨i, h8, h7⟩
        · obtain rfl : i = j := by omega
          exact Or.inr ⟨ht, h7⟩
  · rintro i ⟨q1, q2, q3⟩ hi ⟨h0, hq, h3, h4, h5⟩
    have h0 : q2 = nI i := h0
    subst h0
    have h4 : q3.1 = S.1 := h4
    have hS3 := h3.q hS
    refine Or.inl ?_
    show ∃ s', b_X7_findOpen_33_3_61 (nI (sm j)) 1 q1 (nI i) q3 = some (Sum.inl s') ∧ _
    have key : ∀ y, y = oneI (okS C (sm j) i (ntA C i)) → ∃ s', j_X7_findOpen_33_3_136 (nI (sm j)) (nI i) q3 (nI y) = some (Sum.inl s') ∧ (s'.2.1 = nI (i + 1) ∧ (i + 1 ≠ 0 → s'.1 = nI (oneI (okS C (sm j) (i + 1 - 1) (ntA C (i + 1 - 1))))) ∧ PF S s'.2.2 ∧ s'.2.2.1 = S.1 ∧ ∀ t, t < 240 → ∀ x, x < 64 → (bt (s'.2.2.2.1 35 t) x = true ↔ (∃ i, i < j ∧ sm i = x ∧ opn C lk x t) ∨ (t < i + 1 ∧ sm j = x ∧ opn C lk x t))) := by
      intro y hy
      unfold j_X7_findOpen_33_3_136
      by_cases ho : okS C (sm j) i (ntA C i)
      · rw [oneI_t ho] at hy
        subst hy
        rw [if_neg (by decide), q_rdJ hi (by decide), Option.bind_some, q_wrJ hi (by decide), Option.bind_some, Option.bind_some, nI_1]
        refine ⟨_, rfl, rfl, fun _ => by rw [Nat.add_sub_cancel, oneI_t ho], h3.j _ _, h4, fun t ht x hx => ?_⟩
        show bt ((siJ q3 35 (vp_updL (q3.2.1 35) i (q3.2.1 35 i ||| 1 <<< (Int32.toInt64 (nI (sm j)) &&& 63)))).2.1 35 t) x = true ↔ _
        rw [siJ_s]
        by_cases h6 : t = i
        · subst h6
          rw [pk_uLs, bt_or, Bool.or_eq_true, h5 t ht x hx, bt_sh1 _ g2 x hx, decide_eq_true_iff]
          constructor
          · rintro ((h7 | ⟨h7, _⟩) | h7)
            · exact Or.inl h7
            · omega
            · exact Or.inr ⟨by omega, h7.symm, by rw [h7]; exact ⟨g1, hxn.1, hxn.2, ho⟩⟩
          · rintro (h7 | ⟨_, h7, _⟩)
            · exact Or.inl (Or.inl h7)
            · exact Or.inr h7.symm
        · rw [pk_uLn h6, h5 t ht x hx]
          exact ⟨fun h => h.imp id (fun ⟨h7, h8⟩ => ⟨by omega, h8⟩), fun h => h.imp id (fun ⟨h7, h8⟩ => ⟨by omega, h8⟩)⟩
      · rw [oneI_f ho] at hy
        subst hy
        rw [if_pos (by decide), Option.bind_some, nI_1]
        refine ⟨_, rfl, rfl, fun _ => by rw [Nat.add_sub_cancel, oneI_f ho], h3, h4, fun t ht x hx => ?_⟩
        refine (h5 t ht x hx).trans ⟨fun h => h.imp id (fun ⟨h7, h8⟩ => ⟨by omega, h8⟩), fun h => h.imp id (fun ⟨h7, h8, h9⟩ => ?_)⟩
        rcases Nat.lt_or_ge t i with h6 | h6
        · exact ⟨h6, h8, h9⟩
        · obtain rfl : t = i := by omega
          subst h8
          exact absurd h9.2.2.2 ho
    have key2 : ∃ s', j_X7_findOpen_33_3_101 (nI (sm j)) (nI i) q3 = some (Sum.inl s') ∧ (s'.2.1 = nI (i + 1) ∧ (i + 1 ≠ 0 → s'.1 = nI (oneI (okS C (sm j) (i + 1 - 1) (ntA C (i + 1 - 1))))) ∧ PF S s'.2.2 ∧ s'.2.2.1 = S.1 ∧ ∀ t, t < 240 → ∀ x, x < 64 → (bt (s'.2.2.2.1 35 t) x = true ↔ (∃ i, i < j ∧ sm i = x ∧ opn C lk x t) ∨ (t < i + 1 ∧ sm j = x ∧ opn C lk x t))) := by
      have hlt := whyS_lt (C := C) (s := sm j) (t := i) (nt := ntA C i)
      have h06 := whyS_06 (C := C) (s := sm j) (t := i) (nt := ntA C i)
      unfold j_X7_findOpen_33_3_101 j_X7_findOpen_33_3_129 j_X7_findOpen_33_3_134
      rw [c_isNight hS3 hC (by omega), Option.bind_some, c_whyNot hS3 hC hxn.1 (by omega) (ntA_lt C i), Option.bind_some, ln0, ln6, i_eq (by omega) (by omega), i_eq (by omega) (by omega)]
      by_cases hw : whyS C (sm j) i (ntA C i) = 0
      · rw [if_pos hw]
        exact key 1 (oneI_t (h06.mp (Or.inl hw))).symm
      · rw [if_neg hw]
        by_cases hw6 : whyS C (sm j) i (ntA C i) = 6
        · rw [if_pos hw6]
          exact key 1 (oneI_t (h06.mp (Or.inr hw6))).symm
        · rw [if_neg hw6]
          exact key 0 (oneI_f (fun h => (h06.mpr h).elim hw hw6)).symm
    unfold b_X7_findOpen_33_3_61
    rw [ln240, i_le (by omega) (by omega), if_neg (by omega), if_neg (by decide), show rdI 4 (q3.1 5) 1 = some (nI (caU C 1)) from c_u hS3 (i := 1) (by decide), show rdI 4 (q3.1 5) 3 = some (nI (caU C 3)) from c_u hS3 (i := 3) (by decide), Option.bind_some, Option.bind_some, ln0, i_eq (by omega) (by omega), i_eq (by omega) (by omega), i_eq (by omega) (by omega)]
    by_cases hi0 : i = 0
    · rw [if_pos hi0]
      exact key2
    · rw [if_neg hi0]
      by_cases hi1 : i = caU C 1
      · rw [if_pos hi1]
        exact key2
      · rw [if_neg hi1]
        by_cases hi3 : i = caU C 3
        · rw [if_pos hi3]
          exact key2
        · rw [if_neg hi3]
          have hq1 : q1 = _ := hq hi0
          rw [hq1]
          refine key _ (oneI_c ?_)
          obtain ⟨k, rfl⟩ : ∃ k, i = k + 1 := ⟨i - 1, by omega⟩
          exact (okS_next hi1 hi3).symm
theorem c_findOpen (hS : RCp S C) (hC : Gp C) {lk : Nat} (hl : lk < 64) : ∃ S', f_X7_findOpen_33_3 S (nI lk) = some S' ∧ PF S S' ∧ S'.1 = S.1 ∧ ∀ t, t < 240 → ∀ x, x < 64 → (bt (S'.2.1 35 t) x = true ↔ opn C lk x t) := by
  obtain ⟨S1, e1, p1, p2, p3⟩ := c_fill35 S
  unfold f_X7_findOpen_33_3
  rw [e1, Option.bind_some]
  have hlp := lp_for (b := fun q => b_X7_findOpen_33_3_19 (nI lk) q.1 q.2) 21 (fun j q => q.1 = nI j ∧ opI S C lk j q.2) (fun r => opI S C lk 21 r) ?_ ?_ (F := FU) (i := 0) (s := (0, S1)) ⟨rfl, p1, p2, fun t ht x hx => by rw [p3 t ht, bt_0]; exact ⟨fun h => (by cases h), fun ⟨i, h, _⟩ => by omega⟩⟩ (Nat.zero_le _) (FU_gt (by decide))
  · obtain ⟨S2, h1, h2⟩ := hlp
    refine ⟨S2, by rw [h1]; rfl, h2.1, h2.2.1, fun t ht x hx => (h2.2.2 t ht x hx).trans ⟨fun ⟨i, _, _, h⟩ => h, fun h => ?_⟩⟩
    obtain ⟨i, h3, h4⟩ := q_sm3 x hx h.1 (okS_pcn h.2.2.2)
    exact ⟨i, h3, h4, h⟩
  · rintro ⟨q1, q2⟩ ⟨h0, h⟩
    have h0 : q1 = nI 21 := h0
    subst h0
    refine ⟨q2, ?_, h⟩
    show b_X7_findOpen_33_3_19 (nI lk) (nI 21) q2 = _
    unfold b_X7_findOpen_33_3_19
    rw [if_pos (by decide)]
  · rintro j ⟨q1, q2⟩ hj ⟨h0, h⟩
    have h0 : q1 = nI j := h0
    subst h0
    have h : opI S C lk j q2 := h
    have hS2 := h.1.q hS
    obtain ⟨g1, g2, g3⟩ := q_sm2 j hj
    refine Or.inl ?_
    show ∃ s', b_X7_findOpen_33_3_19 (nI lk) (nI j) q2 = _ ∧ _
    have none : ¬ (sm j < 2 ^ caN C ∧ sm j &&& lk = 0) → ∃ s', j_X7_findOpen_33_3_52 (nI j) q2 (nI (sm j)) = some (Sum.inl s') ∧ s'.1 = nI (j + 1) ∧ opI S C lk (j + 1) s'.2 := by
      intro hno
      unfold j_X7_findOpen_33_3_52 j_X7_findOpen_33_3_53
      have e : lp (fun s => b_X7_findOpen_33_3_61 (nI (sm j)) 0 s.1 s.2.1 s.2.2) FU (0, 0, q2) = some q2 := by
        refine lp_up (n := 1) (lp_e ?_) (Nat.le_of_ble_eq_true rfl)
        show b_X7_findOpen_33_3_61 (nI (sm j)) 0 0 0 q2 = _
        unfold b_X7_findOpen_33_3_61
        rw [if_neg (by decide), if_pos (by rfl)]
      rw [e, Option.bind_some]
      refine ⟨(nI (j + 1), q2), ?_, rfl, h.1, h.2.1, fun t ht x hx => (h.2.2 t ht x hx).trans ⟨fun ⟨i, a, b⟩ => ⟨i, by omega, b⟩, fun ⟨i, a, b⟩ => ?_⟩⟩
      · unfold k_X7_findOpen_33_3_61
        rw [Option.bind_some, nI_1]
      · rcases Nat.lt_or_ge i j with h8 | h8
        · exact ⟨i, h8, b⟩
        · obtain rfl : i = j := by omega
          obtain ⟨b1, b2⟩ := b
          subst b1
          exact absurd ⟨b2.2.1, b2.2.2.1⟩ hno
    unfold b_X7_findOpen_33_3_19
    rw [ln21, i_le (by omega) (by omega), if_neg (by omega), c_sm hj, Option.bind_some, c_hasSet hS2 hC (by omega), Option.bind_some, q_and, ln0]
    by_cases hx : sm j < 2 ^ caN C
    · rw [if_pos hx, if_neg (by decide), i_eq (Nat.lt_of_le_of_lt Nat.and_le_left (by omega)) (by decide)]
      by_cases hk : sm j &&& lk = 0
      · rw [if_pos hk]
        unfold j_X7_findOpen_33_3_53
        obtain ⟨S3, e3, o3⟩ := c_findOpen1 hS hC hj h (Or.inr ⟨hx, hk⟩)
        rw [e3, Option.bind_some]
        refine ⟨(nI (j + 1), S3), ?_, rfl, o3⟩
        unfold k_X7_findOpen_33_3_61
        rw [Option.bind_some, nI_1]
      · rw [if_neg hk]
        exact none (fun h => hk h.2)
    · rw [if_neg hx, if_pos (by decide)]
      exact none (fun h => hx h.1)
end
