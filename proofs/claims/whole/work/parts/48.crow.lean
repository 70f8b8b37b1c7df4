/-! the row of crossings -/
def Lst (C : Cmp) (lk b L t s v : Nat) : Prop := Pt C lk b L t s v ∧ ∀ c, Pt C lk b L t s c → v ≤ c
def Nxt (C : Cmp) (lk b L t s x : Nat) : Prop := t < L ∧ mayX C lk x s t ∧ t + tmS C x ≤ L ∧ ∃ c, Lst C lk b L (t + tmS C x) (s ^^^ x) c ∧ Lst C lk b L t s (c + hrS C x)
def IsNx (C : Cmp) (lk b L t s x : Nat) : Prop := (x = 0 ∧ ∀ y, ¬ Nxt C lk b L t s y) ∨ (x ≠ 0 ∧ Nxt C lk b L t s x ∧ ∀ y, y < x → ¬ Nxt C lk b L t s y)
def Rw (C : Cmp) (lk b L : Nat) : List (Nat × Nat) → Nat → Nat → Prop
  | [] => fun t s => ∀ t', t ≤ t' → t' < L → IsNx C lk b L t' s 0
  | q :: l => fun t s => t ≤ q.1 ∧ q.1 < L ∧ (∀ t', t ≤ t' → t' < q.1 → IsNx C lk b L t' s 0) ∧ q.2 ≠ 0 ∧ IsNx C lk b L q.1 s q.2 ∧ Rw C lk b L l (q.1 + tmS C q.2) (s ^^^ q.2)
section
variable {C : Cmp} {lk b L : Nat}
theorem Lst.uniq {t s v w : Nat} (h : Lst C lk b L t s v) (g : Lst C lk b L t s w) : v = w := by
  have := h.2 w g.1
  have := g.2 v h.1
  omega
theorem Us.lst {t s : Nat} (h : Us C lk b L t s) : ∃ v, Lst C lk b L t s v := by
  obtain ⟨v, h1, h2⟩ := pk_least (fun c => Pt C lk b L t s c) h
  exact ⟨v, h1, fun c hc => by
    rcases Nat.lt_or_ge c v with h3 | h3
    · exact absurd hc (h2 c h3)
    · exact h3⟩
theorem IsNx.uniq {t s x y : Nat} (h : IsNx C lk b L t s x) (g : IsNx C lk b L t s y) : x = y := by
  rcases h with ⟨h1, h2⟩ | ⟨h1, h2, h3⟩ <;> rcases g with ⟨g1, g2⟩ | ⟨g1, g2, g3⟩
  · omega
  · exact absurd g2 (h2 y)
  · exact absurd h2 (g2 x)
  · have e1 : ¬ x < y := fun h => g3 x h h2
    have e2 : ¬ y < x := fun h => h3 y h g2
    omega
theorem Rw.uniq : ∀ {l l' : List (Nat × Nat)} {t s : Nat}, Rw C lk b L l t s → Rw C lk b L l' t s → l = l' := by
  intro l
  induction l with
  | nil =>
    intro l' t s h g
    cases l' with
    | nil => rfl
    | cons q l' =>
      obtain ⟨g1, g2, _, g4, g5, _⟩ := g
      exact absurd (g5.uniq (h q.1 g1 g2)) g4
  | cons p l ih =>
    intro l' t s h g
    obtain ⟨h1, h2, h3, h4, h5, h6⟩ := h
    cases l' with
    | nil => exact absurd (h5.uniq (g p.1 h1 h2)) h4
    | cons q l' =>
      obtain ⟨g1, g2, g3, g4, g5, g6⟩ := g
      have e1 : ¬ p.1 < q.1 := fun h => h4 (h5.uniq (g3 p.1 h1 h))
      have e2 : ¬ q.1 < p.1 := fun h => g4 (g5.uniq (h3 q.1 g1 h))
      have e3 : p.1 = q.1 := by omega
      rw [← e3] at g5 g6
      have e4 := h5.uniq g5
      rw [← e4] at g6
      rw [ih h6 g6, show p = q from Prod.ext e3 e4]
theorem Rw.wait {l : List (Nat × Nat)} {t s : Nat} (h0 : IsNx C lk b L t s 0) (h : Rw C lk b L l (t + 1) s) : Rw C lk b L l t s := by
  cases l with
  | nil =>
    intro t' h1 h2
    rcases Nat.eq_or_lt_of_le h1 with h3 | h3
    · subst h3; exact h0
    · exact h t' h3 h2
  | cons q l =>
    obtain ⟨g1, g2, g3, g4⟩ := h
    refine ⟨by omega, g2, fun t' h1 h2 => ?_, g4⟩
    rcases Nat.eq_or_lt_of_le h1 with h3 | h3
    · subst h3; exact h0
    · exact g3 t' h3 h2
theorem Rw.cross {l : List (Nat × Nat)} {t s x : Nat} (ht : t < L) (hx : x ≠ 0) (h0 : IsNx C lk b L t s x) (h : Rw C lk b L l (t + tmS C x) (s ^^^ x)) : Rw C lk b L ((t, x) :: l) t s := ⟨Nat.le_refl _, ht, fun t' h1 h2 => by have : t' < t := h2; omega, hx, h0, h⟩
theorem Rw.fin {t s : Nat} (ht : L ≤ t) : Rw C lk b L [] t s := fun t' h1 h2 => by omega
theorem Nxt.of (x : Nat) {t s c v : Nat} (hv : Lst C lk b L t s v) (ht : t < L) (hx : mayX C lk x s t) (hl : t + tmS C x ≤ L) (hc : Pt C lk b L (t + tmS C x) (s ^^^ x) c) (e : v = c + hrS C x) : Nxt C lk b L t s x := by
  refine ⟨ht, hx, hl, c, ⟨hc, fun c' h => ?_⟩, by rw [← e]; exact hv⟩
  have := hv.2 _ (h.cross ht hx hl)
  omega
/-- where no crossing keeps the least, waiting does -/
theorem IsNx.wait {t s : Nat} (ht : t < L) (hu : Us C lk b L t s) (h : IsNx C lk b L t s 0) : Us C lk b L (t + 1) s := by
  obtain ⟨v, hv⟩ := hu.lst
  have hno : ∀ y, ¬ Nxt C lk b L t s y := h.elim (fun h => h.2) (fun h => absurd rfl h.1)
  rcases hv.1.inv with ⟨h1, _⟩ | ⟨_, h1⟩ | ⟨_, x, c', h1, h2, h3, h4⟩
  · omega
  · exact ⟨v, h1⟩
  · exact absurd (Nxt.of x hv ht h1 h2 h3 h4) (hno x)
theorem Nxt.us {t s x : Nat} (h : Nxt C lk b L t s x) : Us C lk b L (t + tmS C x) (s ^^^ x) := by
  obtain ⟨_, _, _, c, h, _⟩ := h
  exact ⟨c, h.1⟩
end
section
variable {S0 : CS} {C : Cmp} {lk b L : Nat}
theorem c_firstOfLeast (hC : Gp C) (hL : L ≤ 240) {S : CS} (hm : S.1 4301 0 = nI L) (hP : PlS S C lk) (hB : kuB C lk b L S) (hV : ∀ t, t ≤ L → ∀ s, s < 64 → hcV C lk b L S t s) {t s : Nat} (ht : t < L) (hs : s < 64) (hr : Rch C lk t s) (hu : Us C lk b L t s) : ∃ x, f_X7_firstOfLeast_33 S (nI t) (nI s) = some (nI x) ∧ x < 64 ∧ IsNx C lk b L t s x := by
  obtain ⟨v, hv⟩ := hu.lst
  have nsm : ∀ y, Nxt C lk b L t s y → ∃ j, j < 21 ∧ sm j = y := fun y h => q_sm3 y (Nat.lt_of_lt_of_le h.2.1.2.1 (pw_le hC.n)) h.2.1.1 (okS_pcn (mayX_opn.mp h.2.1).1.2.2.2)
  unfold f_X7_firstOfLeast_33
  have hlp := lp_for (b := fun q => b_X7_firstOfLeast_33_11 S (nI t) (nI s) q) 21 (fun i q => q = nI i ∧ ∀ j, j < i → ¬ Nxt C lk b L t s (sm j)) (fun r => ∃ x, r = nI x ∧ x < 64 ∧ IsNx C lk b L t s x) ?_ ?_ (F := FU) (i := 0) (s := 0) ⟨rfl, fun j h => by omega⟩ (Nat.zero_le _) (FU_gt (by decide))
  · obtain ⟨r, e, x, e2, q⟩ := hlp
    exact ⟨x, by rw [e, e2], q⟩
  · rintro q ⟨rfl, h⟩
    refine ⟨nI 0, ?_, 0, rfl, by decide, Or.inl ⟨rfl, fun y hy => ?_⟩⟩
    · show b_X7_firstOfLeast_33_11 S (nI t) (nI s) (nI 21) = _
      unfold b_X7_firstOfLeast_33_11
      rw [if_pos (by decide)]
      rfl
    · obtain ⟨j, j1, rfl⟩ := nsm y hy
      exact h j j1 hy
  · rintro i q hi ⟨rfl, h⟩
    obtain ⟨m1, m2, m3⟩ := q_sm2 i hi
    show (∃ s', b_X7_firstOfLeast_33_11 S (nI t) (nI s) (nI i) = _ ∧ _) ∨ (∃ r, b_X7_firstOfLeast_33_11 S (nI t) (nI s) (nI i) = _ ∧ _)
    have skip : ¬ Nxt C lk b L t s (sm i) → ∀ j, j < i + 1 → ¬ Nxt C lk b L t s (sm j) := fun hno j hj => by
      rcases Nat.lt_or_ge j i with h8 | h8
      · exact h j h8
      · obtain rfl : j = i := by omega
        exact hno
    unfold b_X7_firstOfLeast_33_11
    rw [ln21, i_le (by omega) (by omega), if_neg (by omega), c_sm hi, Option.bind_some, hm, c_mayCross hC hP hi (by omega) hL, Option.bind_some]
    by_cases hmm : opn C lk (sm i) t ∧ t + tmS C (sm i) ≤ L
    · rw [oneI_t hmm, if_neg (by decide), c_isOnOneSide m2 hs, Option.bind_some]
      by_cases ho : oneS (sm i) s
      · have hmay : mayX C lk (sm i) s t := mayX_opn.mpr ⟨hmm.1, ho, by omega⟩
        obtain ⟨w, w1, w2, w3⟩ := c_hireBy hC hL hP hB hi hs hmm.2 (hV _ hmm.2 _ (lt64_xor hs m2)) (hr.cross (by omega) hmay)
        obtain ⟨v', v1, v2, v3⟩ := c_hireFrom hC hL hB (t := t) (by omega) hs (hV t (by omega) s hs) hr
        obtain ⟨v4, v5⟩ := v3.1 hu
        have ev : v = v' := hv.uniq ⟨v4, v5⟩
        subst ev
        rw [oneI_t ho, if_neg (by decide), w1, Option.bind_some, v1, Option.bind_some, i_eq (by omega) (by omega)]
        by_cases hwv : w = v
        · rw [if_pos hwv]
          refine Or.inr ⟨nI (sm i), rfl, sm i, rfl, m2, Or.inr ⟨by omega, ?_, fun y hy hn => ?_⟩⟩
          · have hle := (v4.le hC).2
            have hex : ∃ c c', Pt C lk b L (t + tmS C (sm i)) (s ^^^ sm i) c' ∧ c = c' + hrS C (sm i) := by
              refine Classical.byContradiction (fun hno => ?_)
              have := w3.2 hno
              omega
            obtain ⟨⟨c', k1, k2⟩, _⟩ := w3.1 hex
            exact Nxt.of (sm i) hv ht hmay hmm.2 k1 (by omega)
          · obtain ⟨j, j1, rfl⟩ := nsm y hn
            rcases Nat.lt_or_ge j i with h8 | h8
            · exact h j h8 hn
            · rcases Nat.eq_or_lt_of_le h8 with h9 | h9
              · subst h9; omega
              · have := q_sm4 i hi j j1 h9
                omega
        · rw [if_neg hwv, Option.bind_some, nI_1]
          refine Or.inl ⟨_, rfl, rfl, skip (fun hn => hwv ?_)⟩
          obtain ⟨_, _, _, c, k1, k2⟩ := hn
          obtain ⟨⟨c', k3, k4⟩, k5⟩ := w3.1 ⟨_, c, k1.1, rfl⟩
          have k6 := k5 _ ⟨c, k1.1, rfl⟩
          have k7 := k1.2 c' k3
          have k8 := hv.uniq k2
          omega
      · rw [oneI_f ho, if_pos (by decide), Option.bind_some, nI_1]
        exact Or.inl ⟨_, rfl, rfl, skip (fun hn => ho hn.2.1.2.2.1)⟩
    · rw [oneI_f hmm, if_pos (by decide), Option.bind_some, nI_1]
      exact Or.inl ⟨_, rfl, rfl, skip (fun hn => hmm ⟨(mayX_opn.mp hn.2.1).1, hn.2.2.1⟩)⟩
def frK (S0 S : CS) : Prop := PF S0 S ∧ S.2.1 = S0.2.1 ∧ ∀ j, j ≠ 34 → j ≠ 4303 → S.1 j = S0.1 j
def rwA (S : CS) (l : List (Nat × Nat)) : Prop := S.1 4303 0 = nI l.length ∧ ∀ i, i < l.length → S.1 34 i = nI (64 * (l.getD i (0, 0)).1 + (l.getD i (0, 0)).2)
theorem getD_app1 {α : Type} {l : List α} {x d : α} {i : Nat} (h : i < l.length) : (l ++ [x]).getD i d = l.getD i d := by
  rw [List.getD_eq_getElem?_getD, List.getD_eq_getElem?_getD, List.getElem?_append_left h]
theorem getD_app2 {α : Type} {l : List α} {x d : α} : (l ++ [x]).getD l.length d = x := by
  rw [List.getD_eq_getElem?_getD, List.getElem?_append_right (Nat.le_refl _), Nat.sub_self]
  rfl
theorem c_findRow (hC : Gp C) (hL : L ≤ 240) (hm : S0.1 4301 0 = nI L) (hP : PlS S0 C lk) (hB : kuB C lk b L S0) (hV : ∀ t, t ≤ L → ∀ s, s < 64 → hcV C lk b L S0 t s) (hu : Us C lk b L 0 0) (h0 : S0.1 4303 0 = 0) : ∃ S' l, f_X7_findRow_33 S0 = some S' ∧ frK S0 S' ∧ Rw C lk b L l 0 0 ∧ l.length ≤ 240 ∧ rwA S' l := by
  unfold f_X7_findRow_33
  have hlp := lp_for (b := fun q => b_X7_findRow_33_6 q.1 q.2.1 q.2.2.1 q.2.2.2) L (fun t q => q.2.2.1 = nI t ∧ ∃ s f l, q.1 = nI s ∧ q.2.1 = nI f ∧ f ≤ L ∧ frK S0 q.2.2.2 ∧ s < 64 ∧ Rch C lk (if t < f then f else t) s ∧ Us C lk b L (if t < f then f else t) s ∧ l.length ≤ t ∧ rwA q.2.2.2 l ∧ ∀ l', Rw C lk b L l' (if t < f then f else t) s → Rw C lk b L (l ++ l') 0 0) (fun r => ∃ l, frK S0 r ∧ Rw C lk b L l 0 0 ∧ l.length ≤ 240 ∧ rwA r l) ?_ ?_ (F := FU) (i := 0) (s := (0, 0, 0, S0)) ⟨rfl, 0, 0, [], rfl, rfl, Nat.zero_le _, ⟨PF.rf S0, rfl, fun _ _ _ => rfl⟩, by decide, Rch.zero, hu, Nat.le_refl _, ⟨h0, fun i h => absurd h (Nat.not_lt_zero i)⟩, fun l' h => h⟩ (Nat.zero_le _) (FU_gt (by omega))
  · obtain ⟨r, e, l, q⟩ := hlp
    exact ⟨r, l, by rw [e]; rfl, q⟩
  · rintro ⟨q1, q2, q3, q4⟩ ⟨k0, s, f, l, k1, k2, k3, k4, k5, k6, k7, k8, k9, k10⟩
    have k0 : q3 = nI L := k0
    have k1 : q1 = nI s := k1
    have k2 : q2 = nI f := k2
    subst k0 k1 k2
    have k4 : frK S0 q4 := k4
    refine ⟨q4, ?_, l, k4, ?_, by omega, k9⟩
    · show b_X7_findRow_33_6 (nI s) (nI f) (nI L) q4 = _
      unfold b_X7_findRow_33_6
      rw [k4.2.2 4301 (by decide) (by decide), hm, if_pos (nI_le (Nat.le_refl _) (by omega))]
    · have h1 := k10 [] (Rw.fin (by split <;> omega))
      rw [List.append_nil] at h1
      exact h1
  · rintro t ⟨q1, q2, q3, q4⟩ ht ⟨k0, s, f, l, k1, k2, k3, k4, k5, k6, k7, k8, k9, k10⟩
    have k0 : q3 = nI t := k0
    have k1 : q1 = nI s := k1
    have k2 : q2 = nI f := k2
    subst k0 k1 k2
    have k4 : frK S0 q4 := k4
    have k9 : rwA q4 l := k9
    have hm4 : q4.1 4301 0 = nI L := by rw [k4.2.2 4301 (by decide) (by decide)]; exact hm
    refine Or.inl ?_
    show ∃ s', b_X7_findRow_33_6 (nI s) (nI f) (nI t) q4 = _ ∧ _
    unfold b_X7_findRow_33_6
    rw [hm4, i_le (by omega) (by omega), if_neg (by omega), i_le (by omega) (by omega)]
    by_cases hf : f ≤ t
    · rw [if_neg (by omega)] at k6 k7 k10
      have hP4 : PlS q4 C lk := hP.go (by rw [k4.2.1]) (k4.2.2 38 (by decide) (by decide)) (k4.2.2 39 (by decide) (by decide))
      have hB4 : kuB C lk b L q4 := by unfold kuB; rw [k4.2.1]; exact hB
      have hV4 : ∀ t, t ≤ L → ∀ s, s < 64 → hcV C lk b L q4 t s := by unfold hcV; rw [k4.2.2 37 (by decide) (by decide)]; exact hV
      obtain ⟨x, x1, x2, x3⟩ := c_firstOfLeast hC hL hm4 hP4 hB4 hV4 ht k5 k6 k7
      rw [if_pos hf, x1, Option.bind_some]
      unfold j_X7_findRow_33_29
      rw [show (0 : Int32) = nI 0 from rfl, i_eq (by omega) (by omega)]
      by_cases hx : x = 0
      · subst hx
        rw [if_pos (by rfl), Option.bind_some, nI_1]
        refine ⟨_, rfl, rfl, s, f, l, rfl, rfl, k3, k4, k5, ?_, ?_, by omega, k9, ?_⟩
        · rw [if_neg (by omega)]
          exact k6.wait (by omega)
        · rw [if_neg (by omega)]
          exact x3.wait ht k7
        · rw [if_neg (by omega)]
          exact fun l' h => k10 l' (h.wait x3)
      · have hn : Nxt C lk b L t s x := x3.elim (fun h => absurd h.1 hx) (fun h => h.2.1)
        have hpos := hn.2.1.pos hC
        have hl := hn.2.2.1
        obtain ⟨i, i1, i2⟩ := q_sm3 x x2 (by omega) (okS_pcn (mayX_opn.mp hn.2.1).1.2.2.2)
        rw [if_neg hx, k9.1, ln240, i_le (by omega) (by omega), if_neg (by omega), q_wrI (by omega) (by decide), Option.bind_some, Option.bind_some, Option.bind_some, siI_n _ _ (by decide), siI_n _ _ (by decide), siI_n _ _ (by decide), q_rd x2 (by decide), Option.bind_some, ← i2, (hP4.2 i i1).1, i2, Option.bind_some, Option.bind_some, q_xor, nI_add, nI_1]
        refine ⟨_, rfl, rfl, s ^^^ x, t + tmS C x, l ++ [(t, x)], rfl, rfl, hl, ⟨(k4.1.i _ (by decide)).i _ (by decide), k4.2.1, fun j h1 h2 => (siI_n _ _ h2).trans ((siI_n _ _ h1).trans (k4.2.2 j h1 h2))⟩, lt64_xor k5 x2, ?_, ?_, ?_, ⟨?_, ?_⟩, ?_⟩
        · rw [show (if t + 1 < t + tmS C x then t + tmS C x else t + 1) = t + tmS C x from by split <;> omega]
          exact k6.cross (by omega) hn.2.1
        · rw [show (if t + 1 < t + tmS C x then t + tmS C x else t + 1) = t + tmS C x from by split <;> omega]
          exact hn.us
        · rw [List.length_append]
          show l.length + 1 ≤ t + 1
          omega
        · rw [siI_s, k9.1, nI_1, List.length_append]
          rfl
        · intro j hj
          rw [siI_n _ _ (by decide), siI_s]
          rw [List.length_append] at hj
          have hj : j < l.length + 1 := hj
          by_cases h5 : j = l.length
          · subst h5
            rw [pk_us, getD_app2, ln64, pk_mul, nI_add]
          · rw [pk_un h5, getD_app1 (by omega)]
            exact k9.2 j (by omega)
        · rw [show (if t + 1 < t + tmS C x then t + tmS C x else t + 1) = t + tmS C x from by split <;> omega]
          intro l' h
          rw [List.append_assoc]
          exact k10 _ (Rw.cross ht hx x3 h)
    · rw [if_pos (by omega)] at k6 k7 k10
      rw [if_neg hf]
      unfold j_X7_findRow_33_29
      rw [if_pos (by rfl), Option.bind_some, nI_1]
      have e1 : (if t + 1 < f then f else t + 1) = f := by split <;> omega
      refine ⟨_, rfl, rfl, s, f, l, rfl, rfl, k3, k4, k5, ?_, ?_, by omega, k9, ?_⟩
      · rw [e1]; exact k6
      · rw [e1]; exact k7
      · rw [e1]; exact k10
/-- what a plan is -/
def PlanOK (S : CS) (C : Cmp) (b lk : Nat) : Prop := IsMn C lk b (S.1 4301 0) ∧ ∀ L, L ≤ 240 → S.1 4301 0 = nI L → (∃ v, S.1 4302 0 = nI v ∧ Lst C lk b L 0 0 v) ∧ ∃ l, Rw C lk b L l 0 0 ∧ l.length ≤ 240 ∧ rwA S l
theorem m1_ne {k : Nat} (h : k < 2147483648) : (-1 : Int32) ≠ nI k := by
  intro e
  have := congrArg Int32.toInt e
  rw [nI_toInt (by omega)] at this
  have h2 : (-1 : Int32).toInt = -1 := rfl
  omega
theorem IsMn.cases {v : Int32} (h : IsMn C lk b v) : v = -1 ∨ ∃ k, k ≤ 240 ∧ v = nI k ∧ Ov C lk b k := h.imp (fun h => h.1) (fun ⟨k, h1, h2, h3, _⟩ => ⟨k, h1, h2, h3⟩)
theorem c_planNew {S : CS} (hS : RCp S C) (hC : Gp C) (hb : b < 64) (hl : lk < 64) : ∃ S', j_X7_plan_33_3_24 S (nI b) (nI lk) = some S' ∧ PF S S' ∧ PlanOK S' C b lk ∧ S'.1 4300 0 = 1 ∧ S'.1 4305 0 = nI b ∧ S'.1 4306 0 = nI lk := by
  unfold j_X7_plan_33_3_24
  rw [Option.bind_some, Option.bind_some, Option.bind_some]
  have hPF3 : PF S (siI (siI (siI S 4300 (fun _ => 1)) 4305 (fun _ => nI b)) 4306 (fun _ => nI lk)) := (((PF.rf S).i _ (by decide)).i _ (by decide)).i _ (by decide)
  have hv3 : (siI (siI (siI S 4300 (fun _ => 1)) 4305 (fun _ => nI b)) 4306 (fun _ => nI lk)).1 4300 0 = 1 ∧ (siI (siI (siI S 4300 (fun _ => 1)) 4305 (fun _ => nI b)) 4306 (fun _ => nI lk)).1 4305 0 = nI b ∧ (siI (siI (siI S 4300 (fun _ => 1)) 4305 (fun _ => nI b)) 4306 (fun _ => nI lk)).1 4306 0 = nI lk := ⟨rfl, rfl, rfl⟩
  generalize siI (siI (siI S 4300 (fun _ => 1)) 4305 (fun _ => nI b)) 4306 (fun _ => nI lk) = S3 at hPF3 hv3
  have hlp := lp_for (b := fun q => b_X7_plan_33_3_52 q.1 q.2) 21 (fun i q => q.1 = nI i ∧ PF S q.2 ∧ (∀ j, j ≠ 38 → j ≠ 39 → q.2.1 j = S3.1 j) ∧ ∀ j, j < i → q.2.1 38 (sm j) = nI (tmS C (sm j)) ∧ q.2.1 39 (sm j) = nI (hrS C (sm j))) (fun r => PF S r ∧ (∀ j, j ≠ 38 → j ≠ 39 → r.1 j = S3.1 j) ∧ ∀ j, j < 21 → r.1 38 (sm j) = nI (tmS C (sm j)) ∧ r.1 39 (sm j) = nI (hrS C (sm j))) ?_ ?_ (F := FU) (i := 0) (s := (0, S3)) ⟨rfl, hPF3, fun _ _ _ => rfl, fun j h => by omega⟩ (Nat.zero_le _) (FU_gt (by decide))
  · obtain ⟨S4, e4, p1, p2, p3⟩ := hlp
    rw [e4, Option.bind_some]
    unfold k_X7_plan_33_3_52
    obtain ⟨S5, e5, o1, o2, o3⟩ := c_findOpen (p1.q hS) hC hl
    obtain ⟨z, ez, hz⟩ := c_withAllOf hb
    have hP5 : PlS S5 C lk := ⟨o3, fun i hi => by rw [o2]; exact p3 i hi⟩
    obtain ⟨S7, e7, m1, m2, m3⟩ := c_findMinutes hC hP5 hb hz
    rw [e5, Option.bind_some, ez, Option.bind_some, e7, Option.bind_some, Option.bind_some, Option.bind_some, Option.bind_some, siI_n _ _ (by decide), siI_n _ _ (by decide)]
    have hPF7 : PF S S7 := (p1.tr o1).tr m1.1
    have hk7 : ∀ j, j ≠ 38 → j ≠ 39 → j ≠ 4301 → S7.1 j = S3.1 j := fun j h1 h2 h3 => by rw [m1.2.2 j h3, o2]; exact p2 j h1 h2
    rcases m2.cases with hm | ⟨L, hL, hm, hov⟩
    · rw [hm, if_pos (by rfl)]
      refine ⟨_, rfl, (hPF7.i _ (by decide)).i _ (by decide), ⟨?_, fun L hL h9 => ?_⟩, ?_, ?_, ?_⟩
      · rw [siI_n _ _ (by decide), siI_n _ _ (by decide)]
        exact m2
      · rw [siI_n _ _ (by decide), siI_n _ _ (by decide), hm] at h9
        exact absurd h9 (m1_ne (by omega))
      · rw [siI_n _ _ (by decide), siI_n _ _ (by decide), hk7 _ (by decide) (by decide) (by decide)]; exact hv3.1
      · rw [siI_n _ _ (by decide), siI_n _ _ (by decide), hk7 _ (by decide) (by decide) (by decide)]; exact hv3.2.1
      · rw [siI_n _ _ (by decide), siI_n _ _ (by decide), hk7 _ (by decide) (by decide) (by decide)]; exact hv3.2.2
    · rw [hm, if_neg (fun h => m1_ne (by omega) h.symm)]
      have hR := m3 L hL hm
      have hP7 := m1.pl hP5
      have hu : Us C lk b L 0 0 := by
        obtain ⟨s, h1, h2⟩ := hov
        exact h1.back hC (Pt.fin h2)
      have hP9 : PlS (siI (siI S7 4302 (fun _ => 0)) 4303 (fun _ => 0)) C lk := hP7.go rfl rfl rfl
      obtain ⟨S11, e11, u1, u2, u3, u4⟩ := c_keepUseful (S0 := siI (siI S7 4302 (fun _ => 0)) 4303 (fun _ => 0)) hC hP9 hL hm hR hz
      have hP11 : PlS S11 C lk := hP9.go u2 (by rw [u3]) (by rw [u3])
      have hm11 : S11.1 4301 0 = nI L := by rw [u3]; exact hm
      obtain ⟨S12, e12, w1, w2, v, w3, w4⟩ := c_findHires hC hL hm11 hP11 u4 hu
      have hm12 : S12.1 4301 0 = nI L := by rw [w1.2.2 _ (by decide) (by decide)]; exact hm11
      have h03 : S12.1 4303 0 = 0 := by rw [w1.2.2 _ (by decide) (by decide), u3]; rfl
      obtain ⟨S13, l, e13, r1, r2, r3, r4⟩ := c_findRow hC hL hm12 (w1.pl hP11) (w1.ku u4) w2 hu h03
      rw [e11, Option.bind_some, e12, Option.bind_some, e13, Option.bind_some]
      have hk13 : ∀ j, j ≠ 34 → j ≠ 37 → j ≠ 38 → j ≠ 39 → j ≠ 4301 → j ≠ 4302 → j ≠ 4303 → S13.1 j = S3.1 j := fun j h1 h2 h3 h4 h5 h6 h7 => by
        rw [r1.2.2 j h1 h7, w1.2.2 j h2 h6, u3, siI_n _ _ h7, siI_n _ _ h6]
        exact hk7 j h3 h4 h5
      have hm13 : S13.1 4301 0 = nI L := by rw [r1.2.2 _ (by decide) (by decide)]; exact hm12
      refine ⟨S13, rfl, (((((hPF7.i _ (by decide)).i _ (by decide)).tr u1).tr w1.1).tr r1.1), ⟨?_, fun L' hL' h9 => ?_⟩, ?_, ?_, ?_⟩
      · rw [hm13, ← hm]
        exact m2
      · rw [hm13, q_eq (by omega) (by omega)] at h9
        subst h9
        exact ⟨⟨v, by rw [r1.2.2 _ (by decide) (by decide)]; exact w3, w4⟩, l, r2, r3, r4⟩
      · rw [hk13 _ (by decide) (by decide) (by decide) (by decide) (by decide) (by decide) (by decide)]; exact hv3.1
      · rw [hk13 _ (by decide) (by decide) (by decide) (by decide) (by decide) (by decide) (by decide)]; exact hv3.2.1
      · rw [hk13 _ (by decide) (by decide) (by decide) (by decide) (by decide) (by decide) (by decide)]; exact hv3.2.2
  · rintro ⟨q1, q2⟩ ⟨h0, h⟩
    have h0 : q1 = nI 21 := h0
    subst h0
    refine ⟨q2, ?_, h⟩
    show b_X7_plan_33_3_52 (nI 21) q2 = _
    unfold b_X7_plan_33_3_52
    rw [if_pos (by decide)]
  · rintro i ⟨q1, q2⟩ hi ⟨h0, h1, h2, h3⟩
    have h0 : q1 = nI i := h0
    subst h0
    have h1 : PF S q2 := h1
    obtain ⟨g1, g2, g3⟩ := q_sm2 i hi
    refine Or.inl ?_
    show ∃ s', b_X7_plan_33_3_52 (nI i) q2 = _ ∧ _
    unfold b_X7_plan_33_3_52
    have hPF : PF S (siI q2 38 (upd (q2.1 38) (sm i) (nI (tmS C (sm i))))) := h1.i _ (by decide)
    rw [ln21, i_le (by omega) (by omega), if_neg (by omega), c_sm hi, Option.bind_some, c_minutesOf (h1.q hS) hC g2, Option.bind_some, q_wrI g2 (by decide), Option.bind_some, c_hireOf (hPF.q hS) hC g2, Option.bind_some, q_wrI g2 (by decide), Option.bind_some, Option.bind_some, nI_1]
    refine ⟨_, rfl, rfl, hPF.i _ (by decide), fun j a1 a2 => (siI_n _ _ a2).trans ((siI_n _ _ a1).trans (h2 j a1 a2)), fun j hj => ?_⟩
    rw [siI_n _ _ (by decide), siI_s, siI_s]
    by_cases h5 : j = i
    · subst h5
      exact ⟨pk_us, pk_us⟩
    · have hne : sm j ≠ sm i := by
        rcases Nat.lt_or_ge j i with h6 | h6
        · have := q_sm4 j (by omega) i hi h6; omega
        · omega
      rw [pk_un hne, pk_un hne, siI_n _ _ (by decide)]
      exact h3 j (by omega)
end
