/-! ways over the bridge, in plain numbers -/
def oneS (x s : Nat) : Prop := x &&& s = 0 ∨ x &&& s = x
def mayX (C : Cmp) (lk x s t : Nat) : Prop := 1 ≤ x ∧ x < 2 ^ caN C ∧ oneS x s ∧ x &&& lk = 0 ∧ whyS C x t (ntA C t) = 0
def Rch (C : Cmp) (lk t s : Nat) : Prop := ∀ X : Nat → Nat → Prop, X 0 0 → (∀ t s, t < 240 → X t s → X (t + 1) s) → (∀ t s x, t < 240 → X t s → mayX C lk x s t → X (t + tmS C x) (s ^^^ x)) → X t s
def stp (C : Cmp) (lk t' s' t s : Nat) : Prop := (t = t' + 1 ∧ s = s') ∨ ∃ x, mayX C lk x s' t' ∧ t = t' + tmS C x ∧ s = s' ^^^ x
def Fk (C : Cmp) (lk k t s : Nat) : Prop := (t = 0 ∧ s = 0) ∨ ∃ t' s', t' < k ∧ t' < 240 ∧ Rch C lk t' s' ∧ stp C lk t' s' t s
def ov (b s : Nat) : Prop := s &&& b = b
def Ov (C : Cmp) (lk b k : Nat) : Prop := ∃ s, Rch C lk k s ∧ ov b s
theorem q_has : ∀ s, s < 64 → s ≠ 0 → bN s (fs1 s) = 1 ∧ fs1 s < 6 := by decide +kernel
theorem whyS_0 {C : Cmp} {s t nt : Nat} : whyS C s t nt = 0 ↔ pcn s = (if nt = 1 then 1 else 2) ∧ ¬ anv C s nt ∧ ¬ (nt = 0 ∧ ¬ unl C (fs1 s) (fs2 s) t 0 0) ∧ t + tmS C s ≤ 240 := by
  unfold whyS
  by_cases h1 : pcn s = (if nt = 1 then 1 else 2)
  · rw [if_pos h1]
    by_cases h2 : anv C s nt
    · rw [cif_t h2]
      exact ⟨fun h => (by cases h), fun h => absurd h2 h.2.1⟩
    · rw [cif_f h2]
      by_cases h3 : nt = 0 ∧ ¬ unl C (fs1 s) (fs2 s) t 0 0
      · rw [cif_t h3]
        exact ⟨fun h => (by cases h), fun h => absurd h3 h.2.2.1⟩
      · rw [cif_f h3]
        constructor
        · intro h
          refine ⟨h1, h2, h3, ?_⟩
          split at h
          · cases h
          · omega
        · intro h
          rw [if_neg (by omega)]
  · rw [if_neg h1]
    exact ⟨fun h => (by cases h), fun h => absurd h.1 h1⟩
section
variable {C : Cmp} {lk : Nat}
theorem tmS_pos (hC : Gp C) {x : Nat} (h0 : 1 ≤ x) (hx : x < 2 ^ caN C) : 1 ≤ tmS C x := by
  have hn := hC.n
  obtain ⟨h1, h2⟩ := q_has x (Nat.lt_of_lt_of_le hx (pw_le hn)) (by omega)
  have h3 := q_bitn _ hn x hx _ h2 h1
  have h4 := mxT_ge (C := C) h3 h1
  have h5 := tmO_lt hC h3
  unfold tmS
  omega
theorem mayX.end {x s t : Nat} (h : mayX C lk x s t) : t + tmS C x ≤ 240 := (whyS_0.mp h.2.2.2.2).2.2.2
theorem mayX.pos (hC : Gp C) {x s t : Nat} (h : mayX C lk x s t) : 1 ≤ tmS C x := tmS_pos hC h.1 h.2.1
theorem Rch.zero : Rch C lk 0 0 := fun _ h _ _ => h
theorem Rch.wait {t s : Nat} (h : Rch C lk t s) (ht : t < 240) : Rch C lk (t + 1) s := fun X h0 h1 h2 => h1 t s ht (h X h0 h1 h2)
theorem Rch.cross {t s x : Nat} (h : Rch C lk t s) (ht : t < 240) (hx : mayX C lk x s t) : Rch C lk (t + tmS C x) (s ^^^ x) := fun X h0 h1 h2 => h2 t s x ht (h X h0 h1 h2) hx
theorem Rch.step {t s t1 s1 : Nat} (h : Rch C lk t s) (ht : t < 240) (hs : stp C lk t s t1 s1) : Rch C lk t1 s1 := by
  rcases hs with ⟨rfl, rfl⟩ | ⟨x, hx, rfl, rfl⟩
  · exact h.wait ht
  · exact h.cross ht hx
theorem Rch.inv {t s : Nat} (h : Rch C lk t s) : (t = 0 ∧ s = 0) ∨ ∃ t' s', t' < 240 ∧ Rch C lk t' s' ∧ stp C lk t' s' t s := by
  have h1 := h (fun t s => Rch C lk t s ∧ ((t = 0 ∧ s = 0) ∨ ∃ t' s', t' < 240 ∧ Rch C lk t' s' ∧ stp C lk t' s' t s)) ⟨Rch.zero, Or.inl ⟨rfl, rfl⟩⟩ (fun t s ht h => ⟨h.1.wait ht, Or.inr ⟨t, s, ht, h.1, Or.inl ⟨rfl, rfl⟩⟩⟩) (fun t s x ht h hx => ⟨h.1.cross ht hx, Or.inr ⟨t, s, ht, h.1, Or.inr ⟨x, hx, rfl, rfl⟩⟩⟩)
  exact h1.2
theorem Rch.lt {t s : Nat} (h : Rch C lk t s) : t ≤ 240 ∧ s < 2 ^ caN C := h (fun t s => t ≤ 240 ∧ s < 2 ^ caN C) ⟨by decide, Nat.two_pow_pos _⟩ (fun t s ht h => ⟨by omega, h.2⟩) (fun t s x ht h hx => ⟨hx.end, Nat.xor_lt_two_pow h.2 hx.2.1⟩)
theorem stp.gt (hC : Gp C) {t s t1 s1 : Nat} (h : stp C lk t s t1 s1) : t < t1 := by
  rcases h with ⟨rfl, rfl⟩ | ⟨x, hx, rfl, rfl⟩
  · omega
  · have := hx.pos hC
    omega
theorem Fk.rch {k t s : Nat} (h : Fk C lk k t s) : Rch C lk t s := by
  rcases h with ⟨rfl, rfl⟩ | ⟨t', s', _, h1, h2, h3⟩
  · exact Rch.zero
  · exact h2.step h1 h3
theorem Fk.of (hC : Gp C) {k t s : Nat} (h : Rch C lk t s) (hk : t ≤ k) : Fk C lk k t s := by
  rcases h.inv with h | ⟨t', s', h1, h2, h3⟩
  · exact Or.inl h
  · have := h3.gt hC
    exact Or.inr ⟨t', s', by omega, h1, h2, h3⟩
theorem Fk.at (hC : Gp C) {k s : Nat} : Fk C lk k k s ↔ Rch C lk k s := ⟨Fk.rch, fun h => Fk.of hC h (Nat.le_refl _)⟩
theorem Fk.zero {t s : Nat} : Fk C lk 0 t s ↔ t = 0 ∧ s = 0 := ⟨fun h => h.elim id (fun ⟨_, _, h, _⟩ => by omega), Or.inl⟩
theorem Fk.succ {k t s : Nat} (hk : k < 240) : Fk C lk (k + 1) t s ↔ Fk C lk k t s ∨ ∃ s', Rch C lk k s' ∧ stp C lk k s' t s := by
  constructor
  · rintro (h | ⟨t', s', h1, h2, h3, h4⟩)
    · exact Or.inl (Or.inl h)
    · rcases Nat.lt_or_ge t' k with h5 | h5
      · exact Or.inl (Or.inr ⟨t', s', h5, h2, h3, h4⟩)
      · obtain rfl : t' = k := by omega
        exact Or.inr ⟨s', h3, h4⟩
  · rintro ((h | ⟨t', s', h1, h2, h3, h4⟩) | ⟨s', h1, h2⟩)
    · exact Or.inl h
    · exact Or.inr ⟨t', s', by omega, h2, h3, h4⟩
    · exact Or.inr ⟨k, s', by omega, hk, h1, h2⟩
/-- the fewest minutes, as a number of the machine; -1: never -/
def IsMn (C : Cmp) (lk b : Nat) (v : Int32) : Prop := (v = -1 ∧ ∀ k, k ≤ 240 → ¬ Ov C lk b k) ∨ ∃ k, k ≤ 240 ∧ v = nI k ∧ Ov C lk b k ∧ ∀ j, j < k → ¬ Ov C lk b j
theorem IsMn.uniq {b : Nat} {v w : Int32} (h : IsMn C lk b v) (g : IsMn C lk b w) : v = w := by
  rcases h with ⟨h1, h2⟩ | ⟨k, h1, h2, h3, h4⟩ <;> rcases g with ⟨g1, g2⟩ | ⟨j, g1, g2, g3, g4⟩
  · rw [h1, g1]
  · exact absurd g3 (h2 j g1)
  · exact absurd h3 (g2 k h1)
  · have e1 : ¬ k < j := fun h => g4 k h h3
    have e2 : ¬ j < k := fun h => h4 j h g3
    obtain rfl : k = j := by omega
    rw [h2, g2]
/-- ways on from (t, s) to the end at L, by their hire -/
def Pt (C : Cmp) (lk b L t s c : Nat) : Prop := ∀ X : Nat → Nat → Nat → Prop, (∀ s, ov b s → X L s 0) → (∀ t s c, t < L → X (t + 1) s c → X t s c) → (∀ t s x c, t < L → mayX C lk x s t → t + tmS C x ≤ L → X (t + tmS C x) (s ^^^ x) c → X t s (c + hrS C x)) → X t s c
theorem Pt.fin {b L s : Nat} (h : ov b s) : Pt C lk b L L s 0 := fun _ h0 _ _ => h0 s h
theorem Pt.wait {b L t s c : Nat} (h : Pt C lk b L (t + 1) s c) (ht : t < L) : Pt C lk b L t s c := fun X h0 h1 h2 => h1 t s c ht (h X h0 h1 h2)
theorem Pt.cross {b L t s x c : Nat} (h : Pt C lk b L (t + tmS C x) (s ^^^ x) c) (ht : t < L) (hx : mayX C lk x s t) (hl : t + tmS C x ≤ L) : Pt C lk b L t s (c + hrS C x) := fun X h0 h1 h2 => h2 t s x c ht hx hl (h X h0 h1 h2)
theorem Pt.inv {b L t s c : Nat} (h : Pt C lk b L t s c) : (t = L ∧ ov b s ∧ c = 0) ∨ (t < L ∧ Pt C lk b L (t + 1) s c) ∨ (t < L ∧ ∃ x c', mayX C lk x s t ∧ t + tmS C x ≤ L ∧ Pt C lk b L (t + tmS C x) (s ^^^ x) c' ∧ c = c' + hrS C x) := by
  have h1 := h (fun t s c => Pt C lk b L t s c ∧ ((t = L ∧ ov b s ∧ c = 0) ∨ (t < L ∧ Pt C lk b L (t + 1) s c) ∨ (t < L ∧ ∃ x c', mayX C lk x s t ∧ t + tmS C x ≤ L ∧ Pt C lk b L (t + tmS C x) (s ^^^ x) c' ∧ c = c' + hrS C x))) (fun s h => ⟨Pt.fin h, Or.inl ⟨rfl, h, rfl⟩⟩) (fun t s c ht h => ⟨h.1.wait ht, Or.inr (Or.inl ⟨ht, h.1⟩)⟩) (fun t s x c ht hx hl h => ⟨h.1.cross ht hx hl, Or.inr (Or.inr ⟨ht, x, c, hx, hl, h.1, rfl⟩)⟩)
  exact h1.2
theorem Pt.le (hC : Gp C) {b L t s c : Nat} (h : Pt C lk b L t s c) : t ≤ L ∧ c ≤ 594 * (L - t) := h (fun t _ c => t ≤ L ∧ c ≤ 594 * (L - t)) (fun s h => ⟨Nat.le_refl _, Nat.zero_le _⟩) (fun t s c ht h => ⟨by omega, by omega⟩) (fun t s x c ht hx hl h => by
  have h1 := hx.pos hC
  have h2 := hrS_le hC x
  exact ⟨by omega, by omega⟩)
/-- from where the fewest minutes are reached, there is a way on from the start -/
theorem Rch.back (hC : Gp C) {b L t s c : Nat} (h : Rch C lk t s) (g : Pt C lk b L t s c) : ∃ c', Pt C lk b L 0 0 c' :=
  h (fun t s => ∀ c, Pt C lk b L t s c → ∃ c', Pt C lk b L 0 0 c') (fun c hc => ⟨c, hc⟩) (fun t s ht h c hc => h c (hc.wait (by have := (hc.le hC).1; omega))) (fun t s x ht h hx c hc => h _ (hc.cross (by have := (hc.le hC).1; have := hx.pos hC; omega) hx (hc.le hC).1)) c g
end
/-! the least of some numbers; N or more, where there is none -/
def LsW (N : Nat) (P : Nat → Prop) (v : Nat) : Prop := ((∃ c, P c) → P v ∧ ∀ c, P c → v ≤ c) ∧ ((¬ ∃ c, P c) → N ≤ v)
theorem LsW.or {N : Nat} {P Q : Nat → Prop} {v w : Nat} (h : LsW N P v) (g : LsW N Q w) (hb : ∀ c, P c ∨ Q c → c < N) : LsW N (fun c => P c ∨ Q c) (if w < v then w else v) := by
  by_cases hp : ∃ c, P c
  · obtain ⟨p1, p2⟩ := h.1 hp
    by_cases hq : ∃ c, Q c
    · obtain ⟨q1, q2⟩ := g.1 hq
      split
      · next h1 => exact ⟨fun _ => ⟨Or.inr q1, fun c hc => hc.elim (fun h2 => by have := p2 c h2; omega) (q2 c)⟩, fun h2 => absurd ⟨w, Or.inr q1⟩ h2⟩
      · next h1 => exact ⟨fun _ => ⟨Or.inl p1, fun c hc => hc.elim (p2 c) (fun h2 => by have := q2 c h2; omega)⟩, fun h2 => absurd ⟨v, Or.inl p1⟩ h2⟩
    · have h1 := g.2 hq
      have h2 := hb v (Or.inl p1)
      rw [if_neg (by omega)]
      exact ⟨fun _ => ⟨Or.inl p1, fun c hc => hc.elim (p2 c) (fun h3 => absurd ⟨c, h3⟩ hq)⟩, fun h3 => absurd ⟨v, Or.inl p1⟩ h3⟩
  · have h1 := h.2 hp
    by_cases hq : ∃ c, Q c
    · obtain ⟨q1, q2⟩ := g.1 hq
      have h2 := hb w (Or.inr q1)
      rw [if_pos (by omega)]
      exact ⟨fun _ => ⟨Or.inr q1, fun c hc => hc.elim (fun h3 => absurd ⟨c, h3⟩ hp) (q2 c)⟩, fun h3 => absurd ⟨w, Or.inr q1⟩ h3⟩
    · have h2 := g.2 hq
      refine ⟨fun ⟨c, hc⟩ => hc.elim (fun h3 => absurd ⟨c, h3⟩ hp) (fun h3 => absurd ⟨c, h3⟩ hq), fun _ => ?_⟩
      split <;> omega
theorem LsW.congr {N v : Nat} {P Q : Nat → Prop} (h : LsW N P v) (e : ∀ c, P c ↔ Q c) : LsW N Q v := by
  have : P = Q := funext (fun c => propext (e c))
  rw [← this]
  exact h
theorem LsW.none {N v : Nat} {P : Nat → Prop} (h : ∀ c, ¬ P c) (hv : N ≤ v) : LsW N P v := ⟨fun ⟨c, hc⟩ => absurd hc (h c), fun _ => hv⟩
theorem LsW.add {N v : Nat} {P : Nat → Prop} (h : LsW N P v) (k : Nat) : LsW N (fun c => ∃ c', P c' ∧ c = c' + k) (v + k) := by
  constructor
  · rintro ⟨c, c', h1, h2⟩
    obtain ⟨h3, h4⟩ := h.1 ⟨c', h1⟩
    refine ⟨⟨v, h3, rfl⟩, ?_⟩
    rintro c ⟨c', h1, h2⟩
    have := h4 c' h1
    omega
  · intro h1
    have := h.2 (fun ⟨c, hc⟩ => h1 ⟨c + k, c, hc, rfl⟩)
    omega
theorem LsW.uniq {N N' v w : Nat} {P : Nat → Prop} (h : LsW N P v) (g : LsW N' P w) (he : ∃ c, P c) : v = w := by
  obtain ⟨h1, h2⟩ := h.1 he
  obtain ⟨g1, g2⟩ := g.1 he
  have := h2 w g1
  have := g2 v h1
  omega
