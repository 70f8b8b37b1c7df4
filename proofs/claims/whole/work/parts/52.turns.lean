/-! turns: how far a band is from the other side -/
noncomputable def cnP (P : Nat → Prop) : Nat → Nat
  | 0 => 0
  | i + 1 => cnP P i + oneI (P i)
theorem cnP_le (P : Nat → Prop) : ∀ n, cnP P n ≤ n := by
  intro n
  induction n with
  | zero => exact Nat.le_refl _
  | succ n ih =>
    have h := oneI_lt (P n)
    show cnP P n + oneI (P n) ≤ n + 1
    omega
theorem cnP_mono {P Q : Nat → Prop} : ∀ n, (∀ s, s < n → P s → Q s) → cnP P n ≤ cnP Q n := by
  intro n
  induction n with
  | zero => intro _; exact Nat.le_refl _
  | succ n ih =>
    intro h
    have h1 := ih (fun s hs => h s (by omega))
    show cnP P n + oneI (P n) ≤ cnP Q n + oneI (Q n)
    by_cases hp : P n
    · rw [oneI_t hp, oneI_t (h n (by omega) hp)]
      omega
    · rw [oneI_f hp]
      omega
theorem cnP_lt {P Q : Nat → Prop} : ∀ n, (∀ s, s < n → P s → Q s) → ∀ z, z < n → Q z → ¬ P z → cnP P n < cnP Q n := by
  intro n
  induction n with
  | zero => intro _ z hz; omega
  | succ n ih =>
    intro h z hz hq hp
    show cnP P n + oneI (P n) < cnP Q n + oneI (Q n)
    rcases Nat.lt_or_ge z n with h1 | h1
    · have h2 := ih (fun s hs => h s (by omega)) z h1 hq hp
      by_cases hp : P n
      · rw [oneI_t hp, oneI_t (h n (by omega) hp)]
        omega
      · rw [oneI_f hp]
        omega
    · obtain rfl : z = n := by omega
      have h2 := cnP_mono z (fun s hs => h s (by omega))
      rw [oneI_f hp, oneI_t hq]
      omega
theorem cnP_one {P Q : Nat → Prop} {z : Nat} : ∀ n, (∀ s, s < n → (Q s ↔ P s ∨ s = z)) → z < n → ¬ P z → cnP Q n = cnP P n + 1 := by
  intro n
  induction n with
  | zero => intro _ hz; omega
  | succ n ih =>
    intro h hz hp
    show cnP Q n + oneI (Q n) = cnP P n + oneI (P n) + 1
    rcases Nat.lt_or_ge z n with h1 | h1
    · rw [ih (fun s hs => h s (by omega)) h1 hp, oneI_c (h n (by omega)), oneI_c (show (P n ∨ n = z) ↔ P n from ⟨fun h => h.elim id (fun h => by omega), Or.inl⟩)]
      omega
    · obtain rfl : z = n := by omega
      have e1 : cnP Q z = cnP P z := Nat.le_antisymm (cnP_mono z (fun s hs hq => ((h s (by omega)).mp hq).elim id (fun h => by omega))) (cnP_mono z (fun s hs hq => (h s (by omega)).mpr (Or.inl hq)))
      rw [e1, oneI_f hp, oneI_t ((h z (by omega)).mpr (Or.inr rfl))]
def mvT (C : Cmp) (b x : Nat) : Prop := 1 ≤ x ∧ x < 2 ^ caN C ∧ x &&& b = x ∧ pcn x = 2 ∧ ¬ anv C x 0 ∧ unl C (fs1 x) (fs2 x) 0 0 0
def Dt (C : Cmp) (b : Nat) : Nat → Nat → Prop
  | 0 => fun s => s = 0
  | k + 1 => fun s => Dt C b k s ∨ ∃ x s', mvT C b x ∧ oneS x s' ∧ Dt C b k s' ∧ s = s' ^^^ x
def IsTn (C : Cmp) (b k : Nat) : Prop := Dt C b k b ∧ ∀ j, j < k → ¬ Dt C b j b
def NoTn (C : Cmp) (b : Nat) : Prop := ∀ k, ¬ Dt C b k b
theorem IsTn.uniq {C : Cmp} {b k j : Nat} (h : IsTn C b k) (g : IsTn C b j) : k = j := by
  have e1 : ¬ k < j := fun h9 => g.2 k h9 h.1
  have e2 : ¬ j < k := fun h9 => h.2 j h9 g.1
  omega
theorem mvT_iff {C : Cmp} (hC : Gp C) {b x : Nat} (h1 : 1 ≤ x) (hx : x < 2 ^ caN C) (hb : x &&& b = x) : whyS C x 0 0 = 0 ↔ mvT C b x := by
  have hT := tmS_le hC x
  rw [whyS_0]
  constructor
  · rintro ⟨a, c, d, _⟩
    exact ⟨h1, hx, hb, a, c, Classical.byContradiction (fun h => d ⟨rfl, h⟩)⟩
  · rintro ⟨_, _, _, a, c, d⟩
    exact ⟨a, c, fun h => h.2 d, by omega⟩
section
variable {C : Cmp} {b : Nat}
theorem Dt.lt (hC : Gp C) : ∀ {k s : Nat}, Dt C b k s → s < 2 ^ caN C := by
  intro k
  induction k with
  | zero => intro s h; have h : s = 0 := h; subst h; exact Nat.two_pow_pos _
  | succ k ih =>
    intro s h
    rcases h with h | ⟨x, s', h1, h2, h3, rfl⟩
    · exact ih h
    · exact Nat.xor_lt_two_pow (ih h3) h1.2.1
theorem Dt.stop {k : Nat} (h : ∀ s, Dt C b (k + 1) s → Dt C b k s) : ∀ j s, Dt C b j s → Dt C b k s := by
  intro j
  induction j with
  | zero =>
    intro s hs
    have up : ∀ i, Dt C b i 0 := by
      intro i
      induction i with
      | zero => exact rfl
      | succ i ih => exact Or.inl ih
    have hs : s = 0 := hs
    subst hs
    exact up k
  | succ j ih =>
    intro s hs
    rcases hs with hs | ⟨x, s', h1, h2, h3, h4⟩
    · exact ih s hs
    · exact h s (Or.inr ⟨x, s', h1, h2, ih s' h3, h4⟩)
/-- the class' turn: one step of all sides at once -/
theorem c_tn_in {S : CS} (hS : RCp S C) (hC : Gp C) (hb : b < 2 ^ caN C) {k : Nat} {y : Int64} (hy : ∀ s, s < 64 → (bt y s = true ↔ Dt C b k s)) : ∃ z, lp (fun s => b_X1_turnsUntilOver_3_41 S (nI b) y s.1 s.2) FU (y, 0) = some z ∧ ∀ s, s < 64 → (bt z s = true ↔ Dt C b (k + 1) s) := by
  have hpw := pw_le hC.n
  have hlp := lp_for (b := fun q => b_X1_turnsUntilOver_3_41 S (nI b) y q.1 q.2) 21 (fun i q => q.2 = nI i ∧ ∀ s, s < 64 → (bt q.1 s = true ↔ Dt C b k s ∨ ∃ j s', j < i ∧ mvT C b (sm j) ∧ oneS (sm j) s' ∧ Dt C b k s' ∧ s = s' ^^^ sm j)) (fun z => ∀ s, s < 64 → (bt z s = true ↔ Dt C b (k + 1) s)) ?_ ?_ (F := FU) (i := 0) (s := (y, 0)) ⟨rfl, fun s hs => (hy s hs).trans ⟨Or.inl, fun h => h.elim id (fun ⟨j, s', h, _⟩ => by omega)⟩⟩ (Nat.zero_le _) (FU_gt (by decide))
  · obtain ⟨z, e, q⟩ := hlp
    exact ⟨z, e, q⟩
  · rintro ⟨q1, q2⟩ ⟨h0, h1⟩
    have h0 : q2 = nI 21 := h0
    subst h0
    refine ⟨q1, ?_, fun s hs => (h1 s hs).trans ⟨fun h => h.imp id (fun ⟨j, s', _, a⟩ => ⟨sm j, s', a⟩), fun h => h.imp id (fun ⟨x, s', a, c⟩ => ?_)⟩⟩
    · show b_X1_turnsUntilOver_3_41 S (nI b) y q1 (nI 21) = _
      unfold b_X1_turnsUntilOver_3_41
      rw [if_pos (by decide)]
    · obtain ⟨j, j1, j2⟩ := q_sm3 x (Nat.lt_of_lt_of_le a.2.1 hpw) a.1 (by have := a.2.2.2.1; omega)
      subst j2
      exact ⟨j, s', j1, a, c⟩
  · rintro i ⟨q1, q2⟩ hi ⟨h0, h1⟩
    have h0 : q2 = nI i := h0
    subst h0
    have h1 : ∀ s, s < 64 → (bt q1 s = true ↔ Dt C b k s ∨ ∃ j s', j < i ∧ mvT C b (sm j) ∧ oneS (sm j) s' ∧ Dt C b k s' ∧ s = s' ^^^ sm j) := h1
    refine Or.inl ?_
    show ∃ s', b_X1_turnsUntilOver_3_41 S (nI b) y q1 (nI i) = _ ∧ _
    obtain ⟨m1, m2, m3⟩ := q_sm2 i hi
    have ha := Nat.lt_of_le_of_lt (Nat.and_le_left (n := sm i) (m := b)) m2
    have skip : ¬ mvT C b (sm i) → ∀ s, s < 64 → (bt q1 s = true ↔ Dt C b k s ∨ ∃ j s', j < i + 1 ∧ mvT C b (sm j) ∧ oneS (sm j) s' ∧ Dt C b k s' ∧ s = s' ^^^ sm j) := by
      intro hno s hs
      refine (h1 s hs).trans ⟨fun h => h.imp id (fun ⟨j, s', a, c⟩ => ⟨j, s', by omega, c⟩), fun h => h.imp id (fun ⟨j, s', a, c⟩ => ?_)⟩
      rcases Nat.lt_or_ge j i with h8 | h8
      · exact ⟨j, s', h8, c⟩
      · obtain rfl : j = i := by omega
        exact absurd c.1 hno
    unfold b_X1_turnsUntilOver_3_41
    rw [ln21, i_le (by omega) (by omega), if_neg (by omega), c_sm hi, Option.bind_some, q_and, i_eq (by omega) (by omega)]
    by_cases hsb : sm i &&& b = sm i
    · have hlt : sm i < 2 ^ caN C := by
        have := Nat.and_le_right (n := sm i) (m := b)
        omega
      have hwl := whyS_lt (C := C) (s := sm i) (t := 0) (nt := 0)
      have hw := c_whyNot hS hC hlt (t := 0) (nt := 0) (by decide) (by decide)
      have hw : f_X1_whyNot_3 S (nI (sm i)) 0 0 = some (nI (whyS C (sm i) 0 0)) := hw
      rw [if_pos hsb, hw, Option.bind_some, ln0, i_eq (by omega) (by omega)]
      by_cases h5 : whyS C (sm i) 0 0 = 0
      · have hmv := (mvT_iff hC m1 hlt hsb).mp h5
        obtain ⟨w, ew, hw⟩ := c_crossed y m2
        rw [if_pos h5, ew, Option.bind_some, Option.bind_some, Option.bind_some, nI_1]
        refine ⟨_, rfl, rfl, fun s hs => ?_⟩
        show bt (q1 ||| w) s = true ↔ _
        have hsx := lt64_xor hs m2
        rw [bt_or, Bool.or_eq_true, h1 s hs, hw s hs, hy _ hsx]
        constructor
        · rintro ((h | ⟨j, s', a, c⟩) | ⟨a, c⟩)
          · exact Or.inl h
          · exact Or.inr ⟨j, s', by omega, c⟩
          · exact Or.inr ⟨i, s ^^^ sm i, by omega, hmv, (oneS_xor m2 hs).mp c, a, (xor_xx s _).symm⟩
        · rintro (h | ⟨j, s', a, c⟩)
          · exact Or.inl (Or.inl h)
          · rcases Nat.lt_or_ge j i with h8 | h8
            · exact Or.inl (Or.inr ⟨j, s', h8, c⟩)
            · obtain rfl : j = i := by omega
              obtain ⟨_, c2, c3, rfl⟩ := c
              have hs' : s' < 64 := Nat.lt_of_lt_of_le (c3.lt hC) hpw
              exact Or.inr ⟨by rw [xor_xx]; exact c3, (oneS_xor m2 hs').mp c2⟩
      · rw [if_neg h5, Option.bind_some, nI_1]
        exact ⟨_, rfl, rfl, skip (fun h => h5 ((mvT_iff hC m1 hlt hsb).mpr h))⟩
    · rw [if_neg hsb, Option.bind_some, nI_1]
      exact ⟨_, rfl, rfl, skip (fun h => hsb h.2.2.1)⟩
theorem c_turns {S : CS} (hS : RCp S C) (hC : Gp C) (hb : b < 2 ^ caN C) : ∃ v, f_X1_turnsUntilOver_3 S (nI b) = some v ∧ ((v = -1 ∧ NoTn C b) ∨ ∃ k, k < 64 ∧ v = nI k ∧ IsTn C b k) := by
  have hpw := pw_le hC.n
  have hb6 : b < 64 := by omega
  unfold f_X1_turnsUntilOver_3
  have hlp := lp_for (b := fun q => b_X1_turnsUntilOver_3_5 S (nI b) q.1 q.2) 64 (fun k q => q.2 = nI k ∧ (∀ s, s < 64 → (bt q.1 s = true ↔ Dt C b k s)) ∧ (∀ j, j < k → ¬ Dt C b j b) ∧ k + 1 ≤ cnP (Dt C b k) 64) (fun v => (v = -1 ∧ NoTn C b) ∨ ∃ k, k < 64 ∧ v = nI k ∧ IsTn C b k) ?_ ?_ (F := FU) (i := 0) (s := (1, 0)) ⟨rfl, fun s hs => by rw [bt_1 s hs, decide_eq_true_iff]; exact Iff.rfl, fun j h => by omega, ?_⟩ (Nat.zero_le _) (FU_gt (by decide))
  · obtain ⟨v, e, q⟩ := hlp
    exact ⟨v, e, q⟩
  · rintro q ⟨_, _, _, h⟩
    have := cnP_le (Dt C b 64) 64
    omega
  · rintro k ⟨q1, q2⟩ hk ⟨h0, h1, h2, h3⟩
    have h0 : q2 = nI k := h0
    subst h0
    have h1 : ∀ s, s < 64 → (bt q1 s = true ↔ Dt C b k s) := h1
    show (∃ s', b_X1_turnsUntilOver_3_5 S (nI b) q1 (nI k) = _ ∧ _) ∨ (∃ r, b_X1_turnsUntilOver_3_5 S (nI b) q1 (nI k) = _ ∧ _)
    unfold b_X1_turnsUntilOver_3_5
    rw [ln64, i_le (by omega) (by omega), if_neg (by omega), i_tst hb6]
    by_cases hd : Dt C b k b
    · have ht := (h1 b hb6).mpr hd
      rw [if_neg (by rw [ht]; decide)]
      exact Or.inr ⟨_, rfl, Or.inr ⟨k, hk, rfl, hd, h2⟩⟩
    · have ht : bt q1 b = false := by
        cases hh : bt q1 b with
        | false => rfl
        | true => exact absurd ((h1 b hb6).mp hh) hd
      obtain ⟨z, ez, hz⟩ := c_tn_in hS hC hb h1
      rw [if_pos ht, ez, Option.bind_some]
      unfold k_X1_turnsUntilOver_3_41
      by_cases hzz : z = q1
      · rw [if_pos (lg_eq0.mpr hzz)]
        refine Or.inr ⟨_, rfl, Or.inl ⟨rfl, fun j hj => hd ?_⟩⟩
        refine Dt.stop (fun s hs => ?_) j b hj
        have hs6 : s < 64 := Nat.lt_of_lt_of_le (hs.lt hC) hpw
        rw [← h1 s hs6, ← hzz]
        exact (hz s hs6).mpr hs
      · rw [if_neg (fun h => hzz (lg_eq0.mp h)), Option.bind_some, nI_1]
        refine Or.inl ⟨_, rfl, rfl, hz, fun j hj => ?_, ?_⟩
        · rcases Nat.lt_or_ge j k with h8 | h8
          · exact h2 j h8
          · obtain rfl : j = k := by omega
            exact hd
        · have hex : ∃ s, s < 64 ∧ Dt C b (k + 1) s ∧ ¬ Dt C b k s := by
            refine Classical.byContradiction (fun hno => hzz (bt_ext (fun s hs => ?_)))
            have e1 : Dt C b (k + 1) s ↔ Dt C b k s := ⟨fun h => Classical.byContradiction (fun h9 => hno ⟨s, hs, h, h9⟩), Or.inl⟩
            have e2 := (hz s hs).trans (e1.trans (h1 s hs).symm)
            cases h7 : bt z s <;> cases h8 : bt q1 s
            · rfl
            · rw [h7, h8] at e2; exact absurd (e2.mpr rfl) (by decide)
            · rw [h7, h8] at e2; exact absurd (e2.mp rfl) (by decide)
            · rfl
          obtain ⟨s, s1, s2, s3⟩ := hex
          have := cnP_lt (P := Dt C b k) (Q := Dt C b (k + 1)) 64 (fun s _ h => Or.inl h) s s1 s2 s3
          omega
  · have := cnP_lt (P := fun _ => False) (Q := Dt C b 0) 64 (fun s _ h => absurd h id) 0 (by decide) rfl id
    omega
/-! the reference's walk in breadth -/
def bfA (C : Cmp) (b : Nat) (q d : Nat → Nat) (k m : Nat) : Prop :=
  (∀ a, a < m → q a < 2 ^ caN C ∧ d (q a) ≤ a ∧ Dt C b (d (q a)) (q a)) ∧
  (∀ s, s < 64 → d s ≠ 1000000 → ∃ a, a < m ∧ q a = s) ∧
  cnP (fun s => d s ≠ 1000000) 64 = m ∧
  (∀ a a', a ≤ a' → a' < m → d (q a) ≤ d (q a')) ∧
  (k < m → ∀ a, a < m → d (q a) ≤ d (q k) + 1) ∧
  (∀ a x, a < k → mvT C b x → oneS x (q a) → d (q a ^^^ x) ≤ d (q a) + 1) ∧
  1 ≤ m ∧ d 0 = 0
theorem bfA.le {q d : Nat → Nat} {k m : Nat} (h : bfA C b q d k m) : m ≤ 64 := by
  have := cnP_le (fun s => d s ≠ 1000000) 64
  have := h.2.2.1
  omega
theorem bfA.ne {q d : Nat → Nat} {k m : Nat} (h : bfA C b q d k m) {z a : Nat} (hz : d z = 1000000) (ha : a < m) : q a ≠ z := fun e => by
  have h1 := (h.1 a ha).2.1
  have h2 := h.le
  rw [e, hz] at h1
  omega
theorem bfA.lt {q d : Nat → Nat} {k m : Nat} (h : bfA C b q d k m) {z : Nat} (hz6 : z < 64) (hz : d z = 1000000) : m < 64 := by
  have h1 := cnP_lt (P := fun s => d s ≠ 1000000) (Q := fun _ => True) 64 (fun _ _ _ => trivial) z hz6 trivial (fun h => h hz)
  have h2 := cnP_le (fun _ => True) 64
  have := h.2.2.1
  omega
theorem bfA.push {q d : Nat → Nat} {k m x : Nat} (hC : Gp C) (h : bfA C b q d k m) (hk : k < m) (hx : mvT C b x) (ho : oneS x (q k)) (hd : d (q k ^^^ x) = 1000000) : bfA C b (fun a => if a = m then q k ^^^ x else q a) (fun s => if s = q k ^^^ x then d (q k) + 1 else d s) k (m + 1) := by
  have hpw := pw_le hC.n
  obtain ⟨g1, g2, g3⟩ := h.1 k hk
  have hz : q k ^^^ x < 2 ^ caN C := Nat.xor_lt_two_pow g1 hx.2.1
  have hm := h.lt (z := q k ^^^ x) (by omega) hd
  have hne : ∀ a, a < m → q a ≠ q k ^^^ x := fun a ha => h.ne hd ha
  have qo : ∀ a, a < m → (if a = m then q k ^^^ x else q a) = q a := fun a ha => if_neg (by omega)
  have do' : ∀ a, a < m → (if q a = q k ^^^ x then d (q k) + 1 else d (q a)) = d (q a) := fun a ha => if_neg (hne a ha)
  refine ⟨fun a ha => ?_, fun s hs hds => ?_, ?_, fun a a' haa ha' => ?_, fun _ a ha => ?_, fun a y ha hy hoy => ?_, by omega, ?_⟩
  · by_cases e : a = m
    · subst e
      dsimp only
      rw [if_pos (by rfl), if_pos (by rfl)]
      exact ⟨hz, by omega, Or.inr ⟨x, q k, hx, ho, g3, rfl⟩⟩
    · have ha2 : a < m := by omega
      dsimp only
      rw [qo a ha2, do' a ha2]
      exact h.1 a ha2
  · by_cases e : s = q k ^^^ x
    · exact ⟨m, by omega, by show (if m = m then q k ^^^ x else q m) = s; rw [if_pos (by rfl), e]⟩
    · have hds : (if s = q k ^^^ x then d (q k) + 1 else d s) ≠ 1000000 := hds
      rw [if_neg e] at hds
      obtain ⟨a, a1, a2⟩ := h.2.1 s hs hds
      exact ⟨a, by omega, by show (if a = m then q k ^^^ x else q a) = s; rw [qo a a1, a2]⟩
  · rw [cnP_one (P := fun s => d s ≠ 1000000) (z := q k ^^^ x) 64 (fun s hs => ?_) (by omega) (fun h9 => h9 hd), h.2.2.1]
    show (if s = q k ^^^ x then d (q k) + 1 else d s) ≠ 1000000 ↔ _
    by_cases e : s = q k ^^^ x
    · rw [if_pos e]
      exact ⟨fun _ => Or.inr e, fun _ => by omega⟩
    · rw [if_neg e]
      exact ⟨Or.inl, fun h9 => h9.elim id (fun h9 => absurd h9 e)⟩
  · show (if (if a = m then q k ^^^ x else q a) = q k ^^^ x then d (q k) + 1 else d (if a = m then q k ^^^ x else q a)) ≤ (if (if a' = m then q k ^^^ x else q a') = q k ^^^ x then d (q k) + 1 else d (if a' = m then q k ^^^ x else q a'))
    by_cases e' : a' = m
    · rw [if_pos (c := (if a' = m then q k ^^^ x else q a') = q k ^^^ x) (by rw [if_pos e'])]
      by_cases e : a = m
      · rw [if_pos (c := (if a = m then q k ^^^ x else q a) = q k ^^^ x) (by rw [if_pos e])]
        omega
      · have ha2 : a < m := by omega
        rw [qo a ha2, do' a ha2]
        exact h.2.2.2.2.1 hk a ha2
    · have ha2 : a < m := by omega
      have ha3 : a' < m := by omega
      rw [qo a ha2, qo a' ha3, do' a ha2, do' a' ha3]
      exact h.2.2.2.1 a a' haa ha3
  · show (if (if a = m then q k ^^^ x else q a) = q k ^^^ x then d (q k) + 1 else d (if a = m then q k ^^^ x else q a)) ≤ (if (if k = m then q k ^^^ x else q k) = q k ^^^ x then d (q k) + 1 else d (if k = m then q k ^^^ x else q k)) + 1
    rw [qo k hk, do' k hk]
    by_cases e : a = m
    · rw [if_pos (c := (if a = m then q k ^^^ x else q a) = q k ^^^ x) (by rw [if_pos e])]
      omega
    · have ha2 : a < m := by omega
      rw [qo a ha2, do' a ha2]
      exact h.2.2.2.2.1 hk a ha2
  · have ha2 : a < m := by omega
    have hoy : oneS y (if a = m then q k ^^^ x else q a) := hoy
    rw [qo a ha2] at hoy
    have h1 := h.2.2.2.2.2.1 a y ha hy hoy
    show (if (if a = m then q k ^^^ x else q a) ^^^ y = q k ^^^ x then d (q k) + 1 else d ((if a = m then q k ^^^ x else q a) ^^^ y)) ≤ (if (if a = m then q k ^^^ x else q a) = q k ^^^ x then d (q k) + 1 else d (if a = m then q k ^^^ x else q a)) + 1
    rw [qo a ha2, do' a ha2]
    have h2 := (h.1 a ha2).2.1
    by_cases e : q a ^^^ y = q k ^^^ x
    · rw [e, hd] at h1
      omega
    · rw [if_neg e]
      exact h1
  · show (if 0 = q k ^^^ x then d (q k) + 1 else d 0) = 0
    have h0 := h.2.2.2.2.2.2.2
    rw [if_neg (fun e => by rw [← e, h0] at hd; omega)]
    exact h0
theorem bfA.next {q d : Nat → Nat} {k m : Nat} (h : bfA C b q d k m) (hk : k < m) (hx : ∀ x, mvT C b x → oneS x (q k) → d (q k ^^^ x) ≤ d (q k) + 1) : bfA C b q d (k + 1) m := by
  obtain ⟨h1, h2, h3, h4, h5, h6, h7⟩ := h
  refine ⟨h1, h2, h3, h4, fun hk1 a ha => ?_, fun a x ha => ?_, h7⟩
  · have := h5 hk a ha
    have := h4 k (k + 1) (by omega) hk1
    omega
  · rcases Nat.lt_or_ge a k with h8 | h8
    · exact h6 a x h8
    · obtain rfl : a = k := by omega
      exact hx x
theorem bfA.fin {q d : Nat → Nat} {m : Nat} (hC : Gp C) (h : bfA C b q d m m) : ∀ j s, Dt C b j s → d s ≤ j ∧ d s ≠ 1000000 := by
  have hpw := pw_le hC.n
  intro j
  induction j with
  | zero =>
    intro s hs
    have hs : s = 0 := hs
    rw [hs, h.2.2.2.2.2.2.2]
    exact ⟨Nat.le_refl _, by decide⟩
  | succ j ih =>
    intro s hs
    rcases hs with hs | ⟨x, s', h1, h2, h3, rfl⟩
    · have := ih s hs
      exact ⟨by omega, this.2⟩
    · obtain ⟨g1, g2⟩ := ih s' h3
      obtain ⟨a, a1, rfl⟩ := h.2.1 s' (Nat.lt_of_lt_of_le (h3.lt hC) hpw) g2
      have g3 := h.2.2.2.2.2.1 a x a1 h1 h2
      have g4 := (h.1 a a1).2.1
      have g5 := h.le
      exact ⟨by omega, by omega⟩
theorem q_sub2 : ∀ x, x < 64 → ∀ b, b < 64 → ((nI x &&& (nI b ^^^ (-1)) = 0) ↔ x &&& b = x) := by decide +kernel
def tnS (z m x : Int32) (M : MS) : Option ((Int32 × Int32 × MS) ⊕ (Int32 × MS)) :=
  Option.bind (rdI 64 (M 21) (z ^^^ x)) (fun x25 => (if x25 = 1000000 then (Option.bind (rdI 64 (M 21) z) (fun x27 => Option.bind (wrM M 21 64 (z ^^^ x) (x27 + 1)) (fun M28 => Option.bind (wrM M28 22 64 m (z ^^^ x)) (fun M29 => Option.bind (some (m + 1)) (fun x30 => Option.bind (some (x + 1)) (fun x31 => some (Sum.inl (x30, x31, M29)))))))) else (Option.bind (some (x + 1)) (fun x26 => some (Sum.inl (m, x26, M))))))
theorem r_tn1 {M : MS} (hM : RMp M C) (hC : Gp C) (hz : Z4 M) (hb : b < 2 ^ caN C) {z x : Nat} (hz6 : z < 2 ^ caN C) (h1 : 1 ≤ x) (hx : x < 2 ^ caN C) (m : Int32) : (mvT C b x ∧ oneS x z → b_X11_turnsOf_56 (nI b) (nI z) m (nI x) M = tnS (nI z) m (nI x) M) ∧ (¬ (mvT C b x ∧ oneS x z) → b_X11_turnsOf_56 (nI b) (nI z) m (nI x) M = some (Sum.inl (m, nI (x + 1), M))) := by
  have hpw := pw_le hC.n
  have hp1 := Nat.one_le_two_pow (n := caN C)
  have hx6 : x < 64 := by omega
  have hp6 : pcn x ≤ 6 := by
    have := bN_le x 0; have := bN_le x 1; have := bN_le x 2; have := bN_le x 3; have := bN_le x 4; have := bN_le x 5
    unfold pcn
    omega
  have hJ0 : j_X11_turnsOf_128 (nI z) m (nI x) M 0 = some (Sum.inl (m, nI (x + 1), M)) := by
    unfold j_X11_turnsOf_128
    rw [if_pos (by rfl), Option.bind_some, nI_1]
  have hJ1 : (mvT C b x → j_X11_turnsOf_88 (nI b) (nI z) m (nI x) M 1 = tnS (nI z) m (nI x) M) ∧ (¬ mvT C b x → j_X11_turnsOf_88 (nI b) (nI z) m (nI x) M 1 = some (Sum.inl (m, nI (x + 1), M))) := by
    unfold j_X11_turnsOf_88 j_X11_turnsOf_127
    rw [hJ0, r_manyIn hx6]
    by_cases hs : x &&& b = x
    · rw [if_pos ((q_sub2 x hx6 b (by omega)).mpr hs), if_neg (by decide), Option.bind_some, ln2, i_eq (by omega) (by omega)]
      by_cases h2 : pcn x = 2
      · have hn := r_anyNever hM hC hx6 (nt := 0) (by decide)
        have hn : f_X11_anyNever M (nI x) 0 = some (nI (oneI (anv C x 0))) := hn
        rw [if_pos h2, hn, Option.bind_some]
        by_cases h3 : anv C x 0
        · rw [oneI_t h3, if_neg (by decide)]
          exact ⟨fun h => absurd h3 h.2.2.2.2.1, fun _ => rfl⟩
        · obtain ⟨g0, g00, g1, g2, g3, g4, _, _⟩ := q_pair x hx6 h2
          have ga := q_bitn _ hC.n x hx _ (by omega) g3
          have gb := q_bitn _ hC.n x hx _ (by omega) g4
          have hn6 := hC.n
          have hu := r_areUnlike hM hC ga gb (t := 0) (by decide) (hz _ (by omega)) (hz _ (by omega)) (by decide) (by decide)
          have hu : f_X11_areUnlike M (nI (fs1 x)) (nI (fs2 x)) 0 = some (nI (oneI (unl C (fs1 x) (fs2 x) 0 0 0))) := hu
          rw [oneI_f h3, if_pos (by decide)]
          unfold j_X11_turnsOf_128
          rw [if_neg (by decide), r_firstIn hx6 g0, Option.bind_some, Option.bind_some, q_without x hx6 g0, r_firstIn (Nat.lt_of_le_of_lt (Nat.sub_le _ _) hx6) g00, Option.bind_some, show fs1 (x - 2 ^ fs1 x) = fs2 x from rfl, hu, Option.bind_some]
          by_cases h4 : unl C (fs1 x) (fs2 x) 0 0 0
          · rw [oneI_t h4, if_neg (by decide)]
            exact ⟨fun _ => rfl, fun h => absurd ⟨h1, hx, hs, h2, h3, h4⟩ h⟩
          · rw [oneI_f h4, if_pos (by decide), Option.bind_some, nI_1]
            exact ⟨fun h => absurd h.2.2.2.2.2 h4, fun _ => rfl⟩
      · rw [if_neg h2]
        exact ⟨fun h => absurd h.2.2.2.1 h2, fun _ => rfl⟩
    · rw [if_neg (fun h => hs ((q_sub2 x hx6 b (by omega)).mp h))]
      exact ⟨fun h => absurd h.2.2.1 hs, fun _ => rfl⟩
  have ha := Nat.lt_of_le_of_lt (Nat.and_le_left (n := z) (m := x)) hz6
  unfold b_X11_turnsOf_56 j_X11_turnsOf_83
  rw [r_all hM hC, Option.bind_some, i_lt (by omega) (by omega), if_neg (by omega), q_and, ln0, i_eq (by omega) (by omega), i_eq (by omega) (by omega)]
  have hone : oneS x z ↔ z &&& x = 0 ∨ z &&& x = x := by
    unfold oneS
    rw [Nat.and_comm]
  by_cases h2 : z &&& x = 0
  · rw [if_pos h2]
    exact ⟨fun h => hJ1.1 h.1, fun h => hJ1.2 (fun h9 => h ⟨h9, hone.mpr (Or.inl h2)⟩)⟩
  · rw [if_neg h2]
    by_cases h3 : z &&& x = x
    · rw [if_pos h3]
      exact ⟨fun h => hJ1.1 h.1, fun h => hJ1.2 (fun h9 => h ⟨h9, hone.mpr (Or.inr h3)⟩)⟩
    · rw [if_neg h3]
      refine ⟨fun h => absurd (hone.mp h.2) (fun h9 => h9.elim h2 h3), fun _ => ?_⟩
      unfold j_X11_turnsOf_88 j_X11_turnsOf_127
      rw [hJ0]
      by_cases h4 : nI x &&& (nI b ^^^ (-1)) = 0
      · rw [if_pos h4, if_pos (by rfl)]
      · rw [if_neg h4]
def bfM (M0 M : MS) (q d : Nat → Nat) (m : Nat) : Prop := (∀ j, j ≠ 21 → j ≠ 22 → M j = M0 j) ∧ (∀ s, s < 64 → M 21 s = nI (d s)) ∧ ∀ a, a < m → M 22 a = nI (q a)
theorem r_tn_in {M0 : MS} (hM : RMp M0 C) (hC : Gp C) (hz : Z4 M0) (hb : b < 2 ^ caN C) {M : MS} {q d : Nat → Nat} {k m : Nat} (hk : k < m) (hA : bfA C b q d k m) (hB : bfM M0 M q d m) : ∃ m' M' q' d', lp (fun s => b_X11_turnsOf_56 (nI b) (nI (q k)) s.1 s.2.1 s.2.2) FU (nI m, 1, M) = some (nI m', M') ∧ m ≤ m' ∧ bfA C b q' d' (k + 1) m' ∧ bfM M0 M' q' d' m' := by
  have hpw := pw_le hC.n
  have hp1 := Nat.one_le_two_pow (n := caN C)
  obtain ⟨z, ez⟩ : ∃ z, z = q k := ⟨_, rfl⟩
  have hz6 : z < 2 ^ caN C := by rw [ez]; exact (hA.1 k hk).1
  rw [← ez]
  have hlp := lp_for (b := fun s => b_X11_turnsOf_56 (nI b) (nI z) s.1 s.2.1 s.2.2) (2 ^ caN C) (fun i s => 1 ≤ i ∧ s.2.1 = nI i ∧ ∃ m' q' d', s.1 = nI m' ∧ m ≤ m' ∧ q' k = z ∧ bfA C b q' d' k m' ∧ (∀ x, x < i → mvT C b x → oneS x z → d' (z ^^^ x) ≤ d' z + 1) ∧ bfM M0 s.2.2 q' d' m') (fun r => ∃ m' q' d', r.1 = nI m' ∧ m ≤ m' ∧ bfA C b q' d' (k + 1) m' ∧ bfM M0 r.2 q' d' m') ?_ ?_ (F := FU) (i := 1) (s := (nI m, 1, M)) ⟨Nat.le_refl _, rfl, m, q, d, rfl, Nat.le_refl _, ez.symm, hA, fun x h1 h2 => by have := h2.1; omega, hB⟩ hp1 (FU_gt (by omega))
  · obtain ⟨r, e, m', q', d', r1, r2, r3, r4⟩ := hlp
    refine ⟨m', r.2, q', d', ?_, r2, r3, r4⟩
    rw [e, ← r1]
  · rintro ⟨s1, s2, s3⟩ ⟨_, h0, m', q', d', g1, g2, g3, g4, g5, g6⟩
    have h0 : s2 = nI (2 ^ caN C) := h0
    subst h0
    have g6 : bfM M0 s3 q' d' m' := g6
    refine ⟨(s1, s3), ?_, m', q', d', g1, g2, g4.next (by omega) (fun x h1 h2 => ?_), g6⟩
    · show b_X11_turnsOf_56 (nI b) (nI z) s1 (nI (2 ^ caN C)) s3 = _
      unfold b_X11_turnsOf_56
      have hM3 : RMp s3 C := by unfold RMp; rw [g6.1 0 (by decide) (by decide)]; exact hM
      rw [r_all hM3 hC, Option.bind_some, i_lt (by omega) (by omega), if_pos (by omega)]
    · rw [g3] at h2 ⊢
      exact g5 x h1.2.1 h1 h2
  · rintro x ⟨s1, s2, s3⟩ hx ⟨h1, h0, m', q', d', g1, g2, g3, g4, g5, g6⟩
    have h0 : s2 = nI x := h0
    have g1 : s1 = nI m' := g1
    subst h0 g1
    have g6 : bfM M0 s3 q' d' m' := g6
    have hM3 : RMp s3 C := by unfold RMp; rw [g6.1 0 (by decide) (by decide)]; exact hM
    have hz3 : Z4 s3 := by unfold Z4; rw [g6.1 4 (by decide) (by decide)]; exact hz
    refine Or.inl ?_
    show ∃ s', b_X11_turnsOf_56 (nI b) (nI z) (nI m') (nI x) s3 = _ ∧ _
    obtain ⟨t1, t2⟩ := r_tn1 hM3 hC hz3 hb hz6 h1 hx (nI m')
    by_cases hmv : mvT C b x ∧ oneS x z
    · rw [t1 hmv]
      unfold tnS
      have hzx : z ^^^ x < 2 ^ caN C := Nat.xor_lt_two_pow hz6 hx
      have hdz : d' z ≤ k := by have := (g4.1 k (by omega)).2.1; rw [g3] at this; exact this
      have hle := g4.le
      rw [q_xor, q_rd (by omega) (by decide), Option.bind_some, g6.2.1 _ (by omega), q_rd (by omega) (by decide), Option.bind_some, g6.2.1 z (by omega), nI_1, q_wrM (by omega) (by decide), Option.bind_some]
      by_cases hd : d' (z ^^^ x) = 1000000
      · have hm64 := g4.lt (z := z ^^^ x) (by omega) hd
        rw [if_pos (by rw [hd]; rfl), q_wrM hm64 (by decide), Option.bind_some, Option.bind_some, Option.bind_some, nI_1, nI_1]
        have hpush := g4.push hC (by omega) hmv.1 (by rw [g3]; exact hmv.2) (by rw [g3]; exact hd)
        rw [g3] at hpush
        refine ⟨_, rfl, by omega, rfl, m' + 1, _, _, rfl, by omega, ?_, hpush, fun y hy hyv hyo => ?_, fun j h2 h3 => ?_, fun s hs => ?_, fun a ha => ?_⟩
        · show (if k = m' then z ^^^ x else q' k) = z
          rw [if_neg (by omega)]
          exact g3
        · show (if z ^^^ y = z ^^^ x then d' z + 1 else d' (z ^^^ y)) ≤ (if z = z ^^^ x then d' z + 1 else d' z) + 1
          by_cases e1 : z ^^^ y = z ^^^ x
          · rw [if_pos e1]
            split <;> omega
          · rw [if_neg e1]
            have hyx : y ≠ x := fun e2 => e1 (by rw [e2])
            have := g5 y (by omega) hyv hyo
            split <;> omega
        · dsimp only
          rw [up_n _ _ h3, up_n _ _ h2]
          exact g6.1 j h2 h3
        · dsimp only
          rw [up_n (k := 22) _ _ (by decide), up_s]
          by_cases e1 : s = z ^^^ x
          · rw [e1, pk_us, if_pos (by rfl)]
          · rw [pk_un e1, if_neg e1]
            exact g6.2.1 s hs
        · dsimp only
          rw [up_s]
          by_cases e1 : a = m'
          · rw [e1, pk_us, if_pos (by rfl)]
          · rw [pk_un e1, if_neg e1, up_n _ _ (by decide)]
            exact g6.2.2 a (by omega)
      · rw [if_neg (fun h9 => hd ?_), Option.bind_some, nI_1]
        · refine ⟨_, rfl, by omega, rfl, m', q', d', rfl, g2, g3, g4, fun y hy hyv hyo => ?_, g6⟩
          rcases Nat.lt_or_ge y x with h8 | h8
          · exact g5 y h8 hyv hyo
          · obtain rfl : y = x := by omega
            obtain ⟨a, a1, a2⟩ := g4.2.1 (z ^^^ y) (by omega) hd
            have := g4.2.2.2.2.1 (by omega) a a1
            rw [a2, g3] at this
            exact this
        · by_cases hb2 : d' (z ^^^ x) < 2147483648
          · exact (nI_eq (by omega) (by decide)).mp h9
          · obtain ⟨a, a1, a2⟩ := g4.2.1 (z ^^^ x) (by omega) hd
            have h7 := (g4.1 a a1).2.1
            rw [a2] at h7
            omega
    · rw [t2 hmv]
      refine ⟨_, rfl, by omega, rfl, m', q', d', rfl, g2, g3, g4, fun y hy hyv hyo => ?_, g6⟩
      rcases Nat.lt_or_ge y x with h8 | h8
      · exact g5 y h8 hyv hyo
      · obtain rfl : y = x := by omega
        exact absurd ⟨hyv, hyo⟩ hmv
theorem r_turnsOf {M0 : MS} (hM : RMp M0 C) (hC : Gp C) (hz : Z4 M0) (hb : b < 2 ^ caN C) : ∃ v M', f_X11_turnsOf M0 (nI b) = some (v, M') ∧ (∀ j, j ≠ 21 → j ≠ 22 → M' j = M0 j) ∧ ((v = nI 1000000 ∧ NoTn C b) ∨ ∃ k, k < 1000000 ∧ v = nI k ∧ IsTn C b k) := by
  have hpw := pw_le hC.n
  unfold f_X11_turnsOf
  have hlp := lp_for (b := fun s => b_X11_turnsOf_2 s.1 s.2) 64 (fun i s => s.1 = nI i ∧ (∀ j, j ≠ 21 → j ≠ 22 → s.2 j = M0 j) ∧ ∀ a, a < i → s.2 21 a = nI 1000000) (fun r => (∀ j, j ≠ 21 → j ≠ 22 → r j = M0 j) ∧ ∀ a, a < 64 → r 21 a = nI 1000000) ?_ ?_ (F := FU) (i := 0) (s := (0, M0)) ⟨rfl, fun _ _ _ => rfl, fun a h => by omega⟩ (Nat.zero_le _) (FU_gt (by decide))
  · obtain ⟨M1, e1, p1, p2⟩ := hlp
    rw [e1, Option.bind_some]
    unfold k_X11_turnsOf_2
    rw [show (0 : Int32) = nI 0 from rfl, q_wrM (by decide) (by decide), Option.bind_some, q_wrM (by decide) (by decide), Option.bind_some]
    obtain ⟨M2, eM2⟩ : ∃ M2, M2 = va_up (va_up M1 21 (upd (M1 21) 0 (nI 0))) 22 (upd (va_up M1 21 (upd (M1 21) 0 (nI 0)) 22) 0 (nI 0)) := ⟨_, rfl⟩
    rw [← eM2]
    have hB : bfM M0 M2 (fun _ => 0) (fun s => if s = 0 then 0 else 1000000) 1 := by
      rw [eM2]
      refine ⟨fun j h1 h2 => by rw [up_n _ _ h2, up_n _ _ h1]; exact p1 j h1 h2, fun s hs => ?_, fun a ha => ?_⟩
      · rw [up_n _ _ (by decide), up_s]
        by_cases h : s = 0
        · subst h; rw [pk_us]; rfl
        · dsimp only
          rw [pk_un h, if_neg h]; exact p2 s hs
      · obtain rfl : a = 0 := by omega
        rw [up_s, pk_us]
    have hA : bfA C b (fun _ => 0) (fun s => if s = 0 then 0 else 1000000) 0 1 := by
      refine ⟨fun a ha => ⟨Nat.two_pow_pos _, Nat.zero_le _, rfl⟩, fun s hs h => ⟨0, by decide, ?_⟩, ?_, fun a a' _ _ => Nat.le_refl _, fun _ a ha => Nat.zero_le _, fun a x ha => by omega, Nat.le_refl _, rfl⟩
      · by_cases h1 : s = 0
        · exact h1.symm
        · have h : (if s = 0 then 0 else 1000000) ≠ 1000000 := h
          rw [if_neg h1] at h
          exact absurd rfl h
      · rw [cnP_one (P := fun _ => False) (z := 0) 64 (fun s hs => ?_) (by decide) id]
        · have : ∀ n, cnP (fun _ => False) n = 0 := by
            intro n
            induction n with
            | zero => rfl
            | succ n ih => show cnP (fun _ => False) n + oneI False = 0; rw [ih, oneI_f id]
          rw [this]
        · show (if s = 0 then 0 else 1000000) ≠ 1000000 ↔ _
          by_cases h1 : s = 0
          · rw [if_pos h1]
            exact ⟨fun _ => Or.inr h1, fun _ => by decide⟩
          · rw [if_neg h1]
            exact ⟨fun h => absurd rfl h, fun h => h.elim (fun h => absurd h id) (fun h => absurd h h1)⟩
    have hlp := lp_w (b := fun s => b_X11_turnsOf_40 (nI b) s.1 s.2.1 s.2.2) (fun n s => ∃ k m q d, n = 64 - k ∧ k ≤ m ∧ s.1 = nI m ∧ s.2.1 = nI k ∧ bfA C b q d k m ∧ bfM M0 s.2.2 q d m) (fun r => ∃ m q d, bfA C b q d m m ∧ bfM M0 r q d m) ?_ FU 64 (nI 1, nI 0, M2) ⟨0, 1, _, _, rfl, by decide, rfl, rfl, hA, hB⟩ (FU_gt (by decide))
    · obtain ⟨r, e, m, q, d, g1, g2⟩ := hlp
      rw [show ((1 : Int32), nI 0, M2) = (nI 1, nI 0, M2) from rfl, e, Option.bind_some]
      unfold k_X11_turnsOf_40
      have hb6 : b < 64 := by omega
      rw [q_rd hb6 (by decide), Option.bind_some, g2.2.1 b hb6]
      refine ⟨_, _, rfl, g2.1, ?_⟩
      by_cases hd : d b = 1000000
      · exact Or.inl ⟨by rw [hd], fun k hk => (g1.fin hC k b hk).2 hd⟩
      · obtain ⟨a, a1, a2⟩ := g1.2.1 b hb6 hd
        obtain ⟨a3, a4, a5⟩ := g1.1 a a1
        have hle := g1.le
        rw [a2] at a4 a5
        exact Or.inr ⟨d b, by omega, rfl, a5, fun j hj hdj => by have := (g1.fin hC j b hdj).1; omega⟩
    · rintro n ⟨s1, s2, s3⟩ ⟨k, m, q, d, hn, hkm, h1, h2, hA, hB⟩
      have h1 : s1 = nI m := h1
      have h2 : s2 = nI k := h2
      subst h1 h2
      have hB : bfM M0 s3 q d m := hB
      have hle := hA.le
      show (∃ r, b_X11_turnsOf_40 (nI b) (nI m) (nI k) s3 = _ ∧ _) ∨ (∃ s' n', n' < n ∧ b_X11_turnsOf_40 (nI b) (nI m) (nI k) s3 = _ ∧ _)
      unfold b_X11_turnsOf_40
      rw [i_le (by omega) (by omega)]
      by_cases hk : m ≤ k
      · rw [if_pos hk]
        obtain rfl : k = m := by omega
        exact Or.inl ⟨_, rfl, k, q, d, hA, hB⟩
      · rw [if_neg hk, q_rd (by omega) (by decide), Option.bind_some, hB.2.2 k (by omega)]
        obtain ⟨m', M', q', d', e, g2, g3, g4⟩ := r_tn_in hM hC hz hb (by omega) hA hB
        rw [e, Option.bind_some]
        unfold k_X11_turnsOf_56
        rw [Option.bind_some, nI_1]
        exact Or.inr ⟨_, 64 - (k + 1), by omega, rfl, k + 1, m', q', d', rfl, by omega, rfl, rfl, g3, g4⟩
  · rintro ⟨q1, q2⟩ ⟨h0, h⟩
    have h0 : q1 = nI 64 := h0
    subst h0
    refine ⟨q2, ?_, h⟩
    show b_X11_turnsOf_2 (nI 64) q2 = _
    unfold b_X11_turnsOf_2
    rw [if_pos (by decide)]
  · rintro i ⟨q1, q2⟩ hi ⟨h0, h2, h4⟩
    have h0 : q1 = nI i := h0
    subst h0
    have h2 : ∀ j, j ≠ 21 → j ≠ 22 → q2 j = M0 j := h2
    refine Or.inl ⟨(nI (i + 1), va_up q2 21 (upd (q2 21) i (nI 1000000))), ?_, rfl, fun j h5 h6 => (up_n _ _ h5).trans (h2 j h5 h6), fun a ha => ?_⟩
    · show b_X11_turnsOf_2 (nI i) q2 = _
      unfold b_X11_turnsOf_2
      rw [ln64, i_le (by omega) (by omega), if_neg (by omega), ln1000000, q_wrM hi (by decide), Option.bind_some, Option.bind_some, nI_1]
    · show va_up q2 21 (upd (q2 21) i (nI 1000000)) 21 a = nI 1000000
      rw [up_s]
      by_cases h5 : a = i
      · subst h5; exact pk_us
      · rw [pk_un h5]; exact h4 a (by omega)
end
