/-! the class' planner: the fewest minutes -/
theorem oneS_x : ∀ x, x < 64 → ∀ s, s < 64 → ((x &&& s = 0 ∨ x &&& s = x) ↔ (x &&& (s ^^^ x) = 0 ∨ x &&& (s ^^^ x) = x)) := by decide +kernel
theorem oneS_xor {x s : Nat} (hx : x < 64) (hs : s < 64) : oneS x s ↔ oneS x (s ^^^ x) := oneS_x x hx s hs
theorem xor_xx (s x : Nat) : (s ^^^ x) ^^^ x = s := by rw [Nat.xor_assoc, Nat.xor_self, Nat.xor_zero]
def PlS (S : CS) (C : Cmp) (lk : Nat) : Prop := (∀ t, t < 240 → ∀ x, x < 64 → (bt (S.2.1 35 t) x = true ↔ opn C lk x t)) ∧ ∀ i, i < 21 → S.1 38 (sm i) = nI (tmS C (sm i)) ∧ S.1 39 (sm i) = nI (hrS C (sm i))
theorem PlS.go {S S' : CS} {C : Cmp} {lk : Nat} (h : PlS S C lk) (h1 : S'.2.1 35 = S.2.1 35) (h2 : S'.1 38 = S.1 38) (h3 : S'.1 39 = S.1 39) : PlS S' C lk := by
  unfold PlS
  rw [h1, h2, h3]
  exact h
theorem c_mayCross {S : CS} {C : Cmp} {lk i t e : Nat} (hC : Gp C) (h : PlS S C lk) (hi : i < 21) (ht : t < 240) (he : e ≤ 240) : f_X7_mayCross_33 S (nI (sm i)) (nI t) (nI e) = some (nI (oneI (opn C lk (sm i) t ∧ t + tmS C (sm i) ≤ e))) := by
  obtain ⟨g1, g2, g3⟩ := q_sm2 i hi
  have hT := tmS_le hC (sm i)
  have hb := h.1 t ht (sm i) g2
  unfold f_X7_mayCross_33
  rw [q_rdJ ht (by decide), Option.bind_some, i_tst g2, q_rd g2 (by decide), Option.bind_some, (h.2 i hi).1, nI_add, i_lt (by omega) (by omega)]
  by_cases h1 : bt (S.2.1 35 t) (sm i) = false
  · rw [if_pos h1, oneI_f (fun h9 => by rw [hb.mpr h9.1] at h1; cases h1)]
    rfl
  · rw [if_neg h1]
    have h2 : bt (S.2.1 35 t) (sm i) = true := by simpa using h1
    by_cases h3 : e < t + tmS C (sm i)
    · rw [if_pos h3, oneI_f (fun h9 => by omega)]; rfl
    · rw [if_neg h3, oneI_t ⟨hb.mp h2, by omega⟩]; rfl
section
variable {S0 : CS} {C : Cmp} {lk b : Nat}
/-- what findMinutes keeps -/
def fmK (S0 S : CS) : Prop := PF S0 S ∧ S.2.1 35 = S0.2.1 35 ∧ ∀ j, j ≠ 4301 → S.1 j = S0.1 j
theorem fmK.j {S : CS} (h : fmK S0 S) (f : Nat → Int64) : fmK S0 (siJ S 36 f) := ⟨h.1.j _ _, (siJ_n S f (by decide)).trans h.2.1, h.2.2⟩
theorem fmK.pl {S : CS} (h : fmK S0 S) (g : PlS S0 C lk) : PlS S C lk := g.go h.2.1 (h.2.2 38 (by decide)) (h.2.2 39 (by decide))
def fmN (C : Cmp) (lk k i t s : Nat) : Prop := Fk C lk k t s ∨ ∃ s', Rch C lk k s' ∧ ((t = k + 1 ∧ s = s') ∨ ∃ j, j < i ∧ mayX C lk (sm j) s' k ∧ t = k + tmS C (sm j) ∧ s = s' ^^^ sm j)
theorem fmN.at (hC : Gp C) {k i s : Nat} : fmN C lk k i k s ↔ Rch C lk k s := by
  constructor
  · rintro (h | ⟨s', h1, ⟨h2, _⟩ | ⟨j, _, h3, h4, _⟩⟩)
    · exact h.rch
    · omega
    · have := h3.pos hC
      omega
  · exact fun h => Or.inl ((Fk.at hC).mpr h)
theorem fmN.fin {k t s : Nat} (hC : Gp C) (hk : k < 240) : fmN C lk k 21 t s ↔ Fk C lk (k + 1) t s := by
  rw [Fk.succ hk]
  constructor
  · rintro (h | ⟨s', h1, h2 | ⟨j, _, h3, h4, h5⟩⟩)
    · exact Or.inl h
    · exact Or.inr ⟨s', h1, Or.inl h2⟩
    · exact Or.inr ⟨s', h1, Or.inr ⟨sm j, h3, h4, h5⟩⟩
  · rintro (h | ⟨s', h1, h2 | ⟨x, h3, h4, h5⟩⟩)
    · exact Or.inl h
    · exact Or.inr ⟨s', h1, Or.inl h2⟩
    · obtain ⟨j, j1, j2⟩ := q_sm3 x (Nat.lt_of_lt_of_le h3.2.1 (pw_le hC.n)) h3.1 (okS_pcn (mayX_opn.mp h3).1.2.2.2)
      subst j2
      exact Or.inr ⟨s', h1, Or.inr ⟨j, j1, h3, h4, h5⟩⟩
theorem c_fm_in (hC : Gp C) (hP : PlS S0 C lk) {k : Nat} (hk : k < 240) {S1 : CS} (h1 : fmK S0 S1) (h2 : ∀ t, t ≤ 240 → ∀ s, s < 64 → (bt (S1.2.1 36 t) s = true ↔ fmN C lk k 0 t s)) (h4 : S1.1 4301 0 = -1) : ∃ S2, lp (fun s => b_X7_findMinutes_33_78 (nI k) s.1 s.2) FU (0, S1) = some S2 ∧ fmK S0 S2 ∧ (∀ t, t ≤ 240 → ∀ s, s < 64 → (bt (S2.2.1 36 t) s = true ↔ Fk C lk (k + 1) t s)) ∧ S2.1 4301 0 = -1 := by
  have hlp := lp_for (b := fun q => b_X7_findMinutes_33_78 (nI k) q.1 q.2) 21 (fun i q => q.1 = nI i ∧ fmK S0 q.2 ∧ (∀ t, t ≤ 240 → ∀ s, s < 64 → (bt (q.2.2.1 36 t) s = true ↔ fmN C lk k i t s)) ∧ q.2.1 4301 0 = -1) (fun r => fmK S0 r ∧ (∀ t, t ≤ 240 → ∀ s, s < 64 → (bt (r.2.1 36 t) s = true ↔ Fk C lk (k + 1) t s)) ∧ r.1 4301 0 = -1) ?_ ?_ (F := FU) (i := 0) (s := (0, S1)) ⟨rfl, h1, h2, h4⟩ (Nat.zero_le _) (FU_gt (by decide))
  · obtain ⟨r, e, q⟩ := hlp
    exact ⟨r, e, q⟩
  · rintro ⟨q1, q2⟩ ⟨h0, g1, g2, g3⟩
    have h0 : q1 = nI 21 := h0
    subst h0
    refine ⟨q2, ?_, g1, fun t ht s hs => (g2 t ht s hs).trans (fmN.fin hC hk), g3⟩
    show b_X7_findMinutes_33_78 (nI k) (nI 21) q2 = _
    unfold b_X7_findMinutes_33_78
    rw [if_pos (by decide)]
  · rintro i ⟨q1, q2⟩ hi ⟨h0, g1, g2, g3⟩
    have h0 : q1 = nI i := h0
    subst h0
    refine Or.inl ?_
    show ∃ s', b_X7_findMinutes_33_78 (nI k) (nI i) q2 = _ ∧ _
    have g1 : fmK S0 q2 := g1
    have hP2 := g1.pl hP
    obtain ⟨m1, m2, m3⟩ := q_sm2 i hi
    have hT := tmS_le hC (sm i)
    unfold b_X7_findMinutes_33_78
    rw [ln21, i_le (by omega) (by omega), if_neg (by omega), c_sm hi, Option.bind_some, ln240, c_mayCross hC hP2 hi hk (by decide), Option.bind_some]
    by_cases hm : opn C lk (sm i) k ∧ k + tmS C (sm i) ≤ 240
    · rw [oneI_t hm, if_neg (by decide), q_rd m2 (by decide), Option.bind_some, (hP2.2 i hi).1, nI_add, q_rdJ (by omega) (by decide), Option.bind_some, q_rdJ (by omega) (by decide), Option.bind_some]
      obtain ⟨z, ez, hz⟩ := c_crossed (q2.2.1 36 k) m2
      rw [ez, Option.bind_some, q_wrJ (by omega) (by decide), Option.bind_some, Option.bind_some, nI_1]
      refine ⟨_, rfl, rfl, g1.j _, fun t ht s hs => ?_, g3⟩
      show bt ((siJ q2 36 (vp_updL (q2.2.1 36) (k + tmS C (sm i)) (q2.2.1 36 (k + tmS C (sm i)) ||| z))).2.1 36 t) s = true ↔ _
      rw [siJ_s]
      have hsx := lt64_xor hs m2
      have e1 : bt z s = true ↔ ∃ s', Rch C lk k s' ∧ mayX C lk (sm i) s' k ∧ s = s' ^^^ sm i := by
        rw [hz s hs, g2 k (by omega) _ hsx, fmN.at hC]
        constructor
        · rintro ⟨a, b⟩
          exact ⟨s ^^^ sm i, a, mayX_opn.mpr ⟨hm.1, (oneS_xor m2 hs).mp b, hm.2⟩, (xor_xx s _).symm⟩
        · rintro ⟨s', a, b, rfl⟩
          have hs' : s' < 64 := Nat.lt_of_lt_of_le a.lt.2 (pw_le hC.n)
          exact ⟨by rw [xor_xx]; exact a, (oneS_xor m2 hs').mp b.2.2.1⟩
      by_cases ht2 : t = k + tmS C (sm i)
      · rw [ht2, pk_uLs, bt_or, Bool.or_eq_true, ← ht2, g2 t ht s hs, e1]
        constructor
        · rintro ((h | ⟨s', a, b⟩) | ⟨s', a, b, c⟩)
          · exact Or.inl h
          · exact Or.inr ⟨s', a, b.imp id (fun ⟨j, c, d⟩ => ⟨j, by omega, d⟩)⟩
          · exact Or.inr ⟨s', a, Or.inr ⟨i, by omega, b, ht2, c⟩⟩
        · rintro (h | ⟨s', a, b | ⟨j, c, d, e5, f⟩⟩)
          · exact Or.inl (Or.inl h)
          · exact Or.inl (Or.inr ⟨s', a, Or.inl b⟩)
          · rcases Nat.lt_or_ge j i with h8 | h8
            · exact Or.inl (Or.inr ⟨s', a, Or.inr ⟨j, h8, d, e5, f⟩⟩)
            · obtain rfl : j = i := by omega
              exact Or.inr ⟨s', a, d, f⟩
      · rw [pk_uLn ht2, g2 t ht s hs]
        constructor
        · rintro (h | ⟨s', a, b⟩)
          · exact Or.inl h
          · exact Or.inr ⟨s', a, b.imp id (fun ⟨j, c, d⟩ => ⟨j, by omega, d⟩)⟩
        · rintro (h | ⟨s', a, b | ⟨j, c, d, e5, f⟩⟩)
          · exact Or.inl h
          · exact Or.inr ⟨s', a, Or.inl b⟩
          · rcases Nat.lt_or_ge j i with h8 | h8
            · exact Or.inr ⟨s', a, Or.inr ⟨j, h8, d, e5, f⟩⟩
            · obtain rfl : j = i := by omega
              exact absurd e5 ht2
    · rw [oneI_f hm, if_pos (by decide), Option.bind_some, nI_1]
      refine ⟨_, rfl, rfl, g1, fun t ht s hs => (g2 t ht s hs).trans ?_, g3⟩
      constructor
      · rintro (h | ⟨s', a, b⟩)
        · exact Or.inl h
        · exact Or.inr ⟨s', a, b.imp id (fun ⟨j, c, d⟩ => ⟨j, by omega, d⟩)⟩
      · rintro (h | ⟨s', a, b | ⟨j, c, d, e5, f⟩⟩)
        · exact Or.inl h
        · exact Or.inr ⟨s', a, Or.inl b⟩
        · rcases Nat.lt_or_ge j i with h8 | h8
          · exact Or.inr ⟨s', a, Or.inr ⟨j, h8, d, e5, f⟩⟩
          · obtain rfl : j = i := by omega
            exact absurd ⟨(mayX_opn.mp d).1, d.end⟩ hm
theorem c_findMinutes (hC : Gp C) (hP : PlS S0 C lk) (hb : b < 64) {z : Int64} (hz : ∀ s, s < 64 → (bt z s = true ↔ ov b s)) : ∃ S', f_X7_findMinutes_33 S0 z = some S' ∧ fmK S0 S' ∧ IsMn C lk b (S'.1 4301 0) ∧ ∀ k, k ≤ 240 → S'.1 4301 0 = nI k → ∀ t, t ≤ k → ∀ s, s < 64 → (bt (S'.2.1 36 t) s = true ↔ Rch C lk t s) := by
  unfold f_X7_findMinutes_33
  rw [Option.bind_some]
  obtain ⟨S2, e2, p1, p2, p3, p4⟩ := c_fill36 (siI S0 4301 (fun _ => -1))
  rw [e2, Option.bind_some, show (0 : Int32) = nI 0 from rfl, q_wrJ (by decide) (by decide), Option.bind_some]
  have hK : fmK S0 S2 := ⟨((PF.rf S0).i _ (by decide)).tr p1, p3, fun j hj => by rw [p2, siI_n S0 _ hj]⟩
  have hm1 : S2.1 4301 0 = -1 := by rw [p2, siI_s]
  have ovq : ∀ (S : CS) (k : Nat), k ≤ 240 → (∀ t, t ≤ 240 → ∀ s, s < 64 → (bt (S.2.1 36 t) s = true ↔ Fk C lk k t s)) → ((lg_cmp (S.2.1 36 k &&& z) 0 = 0) = ¬ Ov C lk b k) := by
    intro S k hk h
    rw [bt_any]
    refine propext ⟨fun g ⟨s, a, c⟩ => ?_, fun g s hs ⟨a, c⟩ => ?_⟩
    · have hs : s < 64 := Nat.lt_of_lt_of_le a.lt.2 (pw_le hC.n)
      exact g s hs ⟨(h k hk s hs).mpr ((Fk.at hC).mpr a), (hz s hs).mpr c⟩
    · exact g ⟨s, (Fk.at hC).mp ((h k hk s hs).mp a), (hz s hs).mp c⟩
  have hlp := lp_for (b := fun q => b_X7_findMinutes_33_22 z q.1 q.2) 240 (fun k q => q.1 = nI k ∧ fmK S0 q.2 ∧ (∀ t, t ≤ 240 → ∀ s, s < 64 → (bt (q.2.2.1 36 t) s = true ↔ Fk C lk k t s)) ∧ q.2.1 4301 0 = -1 ∧ ∀ j, j < k → ¬ Ov C lk b j) (fun r => fmK S0 r ∧ IsMn C lk b (r.1 4301 0) ∧ ∀ k, k ≤ 240 → r.1 4301 0 = nI k → ∀ t, t ≤ k → ∀ s, s < 64 → (bt (r.2.1 36 t) s = true ↔ Rch C lk t s)) ?_ ?_ (F := FU) (i := 0) (s := (0, siJ S2 36 (vp_updL (S2.2.1 36) 0 1))) ⟨rfl, hK.j _, fun t ht s hs => ?_, hm1, fun j h => by omega⟩ (Nat.zero_le _) (FU_gt (by decide))
  · obtain ⟨r, e, q⟩ := hlp
    exact ⟨r, e, q⟩
  · rintro ⟨q1, q2⟩ ⟨h0, g1, g2, g3, g4⟩
    have h0 : q1 = nI 240 := h0
    subst h0
    have g3 : q2.1 4301 0 = -1 := g3
    have g1 : fmK S0 q2 := g1
    show ∃ r, b_X7_findMinutes_33_22 z (nI 240) q2 = _ ∧ _
    unfold b_X7_findMinutes_33_22
    rw [if_pos (by decide), ln240, q_rdJ (by decide) (by decide), Option.bind_some, i_cl (ovq q2 240 (by decide) g2)]
    by_cases ho : Ov C lk b 240
    · rw [if_neg (fun h => h ho), Option.bind_some]
      refine ⟨_, rfl, ⟨g1.1.i _ (by decide), g1.2.1, fun j hj => (siI_n q2 _ hj).trans (g1.2.2 j hj)⟩, ?_, fun k hk hk2 t ht s hs => ?_⟩
      · rw [siI_s]
        exact Or.inr ⟨240, by decide, rfl, ho, g4⟩
      · rw [siI_s, q_eq (by decide) (by omega)] at hk2
        subst hk2
        exact (g2 t ht s hs).trans ⟨Fk.rch, fun h => Fk.of hC h ht⟩
    · rw [if_pos ho]
      refine ⟨_, rfl, g1, ?_, fun k hk hk2 => ?_⟩
      · rw [g3]
        refine Or.inl ⟨rfl, fun k hk => ?_⟩
        rcases Nat.lt_or_ge k 240 with h | h
        · exact g4 k h
        · obtain rfl : k = 240 := by omega
          exact ho
      · rw [g3] at hk2
        exact absurd hk2 (by
          intro h
          have := congrArg Int32.toInt h
          rw [nI_toInt (by omega)] at this
          have h2 : (-1 : Int32).toInt = -1 := rfl
          omega)
  · rintro k ⟨q1, q2⟩ hk ⟨h0, g1, g2, g3, g4⟩
    have h0 : q1 = nI k := h0
    subst h0
    have g3 : q2.1 4301 0 = -1 := g3
    have g1 : fmK S0 q2 := g1
    show (∃ s', b_X7_findMinutes_33_22 z (nI k) q2 = _ ∧ _) ∨ (∃ r, b_X7_findMinutes_33_22 z (nI k) q2 = _ ∧ _)
    unfold b_X7_findMinutes_33_22
    rw [ln240, i_le (by omega) (by omega), if_neg (by omega), q_rdJ (k := k) (by omega) (by decide), Option.bind_some, i_cl (ovq q2 k (by omega) g2)]
    by_cases ho : Ov C lk b k
    · rw [if_neg (fun h => h ho), Option.bind_some]
      refine Or.inr ⟨_, rfl, ⟨g1.1.i _ (by decide), g1.2.1, fun j hj => (siI_n q2 _ hj).trans (g1.2.2 j hj)⟩, ?_, fun k2 hk3 hk2 t ht s hs => ?_⟩
      · rw [siI_s]
        exact Or.inr ⟨k, by omega, rfl, ho, g4⟩
      · rw [siI_s, q_eq (by omega) (by omega)] at hk2
        subst hk2
        exact (g2 t (by omega) s hs).trans ⟨Fk.rch, fun h => Fk.of hC h ht⟩
    · rw [if_pos ho, nI_1, q_rdJ (k := k + 1) (by omega) (by decide), Option.bind_some, Option.bind_some, q_wrJ (by omega) (by decide), Option.bind_some]
      obtain ⟨S3, e3, k1, k2, k3⟩ := c_fm_in hC hP hk (S1 := siJ q2 36 (vp_updL (q2.2.1 36) (k + 1) (q2.2.1 36 (k + 1) ||| q2.2.1 36 k))) (g1.j _) (fun t ht s hs => by
        rw [siJ_s]
        by_cases h5 : t = k + 1
        · subst h5
          rw [pk_uLs, bt_or, Bool.or_eq_true, g2 _ ht s hs, g2 k (by omega) s hs, Fk.at hC]
          constructor
          · rintro (h | h)
            · exact Or.inl h
            · exact Or.inr ⟨s, h, Or.inl ⟨rfl, rfl⟩⟩
          · rintro (h | ⟨s', a, ⟨_, rfl⟩ | ⟨j, c, _⟩⟩)
            · exact Or.inl h
            · exact Or.inr a
            · omega
        · rw [pk_uLn h5, g2 _ ht s hs]
          constructor
          · exact Or.inl
          · rintro (h | ⟨s', a, ⟨c, _⟩ | ⟨j, c, _⟩⟩)
            · exact h
            · exact absurd c h5
            · omega) g3
      rw [e3, Option.bind_some]
      unfold k_X7_findMinutes_33_78
      rw [Option.bind_some, nI_1]
      refine Or.inl ⟨_, rfl, rfl, k1, k2, k3, fun j hj => ?_⟩
      rcases Nat.lt_or_ge j k with h | h
      · exact g4 j h
      · obtain rfl : j = k := by omega
        exact ho
  · show bt ((siJ S2 36 (vp_updL (S2.2.1 36) 0 1)).2.1 36 t) s = true ↔ _
    rw [siJ_s, Fk.zero]
    by_cases h5 : t = 0
    · subst h5
      rw [pk_uLs, bt_1 s hs, decide_eq_true_iff]
      exact ⟨fun h => ⟨rfl, h⟩, fun h => h.2⟩
    · rw [pk_uLn h5, p4 t (by omega), bt_0]
      exact ⟨fun h => (by cases h), fun h => absurd h.1 h5⟩
end
