/-! tokens -/
def ltC (c : Int32) : Prop := 97 ≤ c ∧ c ≤ 122
def fgC (c : Int32) : Prop := 48 ≤ c ∧ c ≤ 57
def blC (c : Int32) : Prop := c = 32
def Run (P : Int32 → Prop) (X : Nat → Int32) (L a e : Nat) : Prop := a ≤ e ∧ e ≤ L ∧ (∀ i, a ≤ i → i < e → P (X i)) ∧ (e < L → ¬ P (X e))
theorem Run.uniq {P : Int32 → Prop} {X : Nat → Int32} {L a e e' : Nat} (h : Run P X L a e) (g : Run P X L a e') : e = e' := by
  obtain ⟨h1, h2, h3, h4⟩ := h
  obtain ⟨g1, g2, g3, g4⟩ := g
  have e1 : ¬ e < e' := fun h9 => h4 (by omega) (g3 e h1 h9)
  have e2 : ¬ e' < e := fun h9 => g4 (by omega) (h3 e' g1 h9)
  omega
def vlX (X : Nat → Int32) (ta : Nat) : Nat → Int32
  | 0 => 0
  | k + 1 => 10 * vlX X ta k + X (ta + k) - 48
def Tok (X : Nat → Int32) (L a ta tl tk : Nat) (v : Int32) : Prop := Run blC X L a ta ∧ ((ta = L ∧ tl = 0 ∧ tk = 0) ∨ (ta < L ∧ ltC (X ta) ∧ Run ltC X L ta (ta + tl) ∧ tk = 1) ∨ (ta < L ∧ ¬ ltC (X ta) ∧ fgC (X ta) ∧ Run fgC X L ta (ta + tl) ∧ tk = (if tl ≤ 3 then 2 else 4) ∧ v = vlX X ta (if tl ≤ 3 then tl else 3)) ∨ (ta < L ∧ ¬ ltC (X ta) ∧ ¬ fgC (X ta) ∧ tl = 1 ∧ tk = (if X ta = 59 then 3 else 4)))
theorem Tok.uniq {X : Nat → Int32} {L a ta tl tk ta' tl' tk' : Nat} {v v' : Int32} (h : Tok X L a ta tl tk v) (g : Tok X L a ta' tl' tk' v') : ta = ta' ∧ tl = tl' ∧ tk = tk' ∧ (tk = 2 → v = v') := by
  obtain ⟨h1, h2⟩ := h
  obtain ⟨g1, g2⟩ := g
  obtain rfl := h1.uniq g1
  refine ⟨rfl, ?_⟩
  rcases h2 with ⟨a1, a2, a3⟩ | ⟨a1, a2, a3, a4⟩ | ⟨a1, a2, a3, a4, a5, a6⟩ | ⟨a1, a2, a3, a4, a5⟩ <;> rcases g2 with ⟨b1, b2, b3⟩ | ⟨b1, b2, b3, b4⟩ | ⟨b1, b2, b3, b4, b5, b6⟩ | ⟨b1, b2, b3, b4, b5⟩
  · exact ⟨by omega, by omega, fun h => by omega⟩
  · omega
  · omega
  · omega
  · omega
  · have := a3.uniq b3
    exact ⟨by omega, by omega, fun h => by omega⟩
  · exact absurd a2 b2
  · exact absurd a2 b2
  · omega
  · exact absurd b2 a2
  · have := a4.uniq b4
    obtain rfl : tl = tl' := by omega
    exact ⟨rfl, by rw [a5, b5], fun _ => by rw [a6, b6]⟩
  · exact absurd a3 b3
  · omega
  · exact absurd b2 a2
  · exact absurd b3 a3
  · exact ⟨by omega, by rw [a5, b5], fun h => by rw [a5] at h; split at h <;> omega⟩
theorem Tok.pos {X : Nat → Int32} {L a ta tl tk : Nat} {v : Int32} (h : Tok X L a ta tl tk v) : a ≤ ta ∧ ta + tl ≤ L ∧ tk < 5 ∧ (tk ≠ 0 → 1 ≤ tl) := by
  obtain ⟨⟨h1, h2, _, _⟩, h5⟩ := h
  rcases h5 with ⟨a1, a2, a3⟩ | ⟨a1, a2, a3, a4⟩ | ⟨a1, a2, a3, a4, a5, a6⟩ | ⟨a1, a2, a3, a4, a5⟩
  · exact ⟨h1, by omega, by omega, fun h => absurd a3 h⟩
  · refine ⟨h1, a3.2.1, by omega, fun _ => Classical.byContradiction (fun h9 => ?_)⟩
    obtain rfl : tl = 0 := by omega
    exact a3.2.2.2 (by omega) a2
  · refine ⟨h1, a4.2.1, by rw [a5]; split <;> omega, fun _ => Classical.byContradiction (fun h9 => ?_)⟩
    obtain rfl : tl = 0 := by omega
    exact a4.2.2.2 (by omega) a3
  · exact ⟨h1, by omega, by rw [a5]; split <;> omega, fun _ => by omega⟩
theorem c_isLetter (c : Int32) : f_X8_isLetter c = some (nI (oneI (ltC c))) := by
  unfold f_X8_isLetter
  by_cases h1 : c < 97
  · rw [if_pos h1, oneI_f (fun h => absurd h1 (Int32.not_lt.mpr h.1))]
    rfl
  · rw [if_neg h1]
    by_cases h2 : 122 < c
    · rw [if_pos h2, oneI_f (fun h => absurd h2 (Int32.not_lt.mpr h.2))]
      rfl
    · rw [if_neg h2, oneI_t (show ltC c from ⟨Int32.not_lt.mp h1, Int32.not_lt.mp h2⟩)]
      rfl
theorem c_isFigure (c : Int32) : f_X8_isFigure c = some (nI (oneI (fgC c))) := by
  unfold f_X8_isFigure
  by_cases h1 : c < 48
  · rw [if_pos h1, oneI_f (fun h => absurd h1 (Int32.not_lt.mpr h.1))]
    rfl
  · rw [if_neg h1]
    by_cases h2 : 57 < c
    · rw [if_pos h2, oneI_f (fun h => absurd h2 (Int32.not_lt.mpr h.2))]
      rfl
    · rw [if_neg h2, oneI_t (show fgC c from ⟨Int32.not_lt.mp h1, Int32.not_lt.mp h2⟩)]
      rfl
theorem r_isSmall (c : Int32) : f_X11_isSmall c = some (nI (oneI (ltC c))) := by
  unfold f_X11_isSmall
  rw [q_in 97 122 (by rfl) (by rfl)]
  by_cases h : (97 : Int32) ≤ c ∧ c ≤ 122
  · rw [if_pos h, Option.bind_some, q_zr (by decide), Option.bind_some, oneI_t (show ltC c from h)]
  · rw [if_neg h, Option.bind_some, q_zr (by decide), Option.bind_some, oneI_f (show ¬ ltC c from h)]
theorem r_isFigure (c : Int32) : f_X11_isFigure c = some (nI (oneI (fgC c))) := by
  unfold f_X11_isFigure
  rw [q_in 48 57 (by rfl) (by rfl)]
  by_cases h : (48 : Int32) ≤ c ∧ c ≤ 57
  · rw [if_pos h, Option.bind_some, q_zr (by decide), Option.bind_some, oneI_t (show fgC c from h)]
  · rw [if_neg h, Option.bind_some, q_zr (by decide), Option.bind_some, oneI_f (show ¬ fgC c from h)]
/-! the class' tokens -/
def a4 (S S' : CS) : Prop := S'.2 = S.2 ∧ ∀ k, k ≠ 4104 → S'.1 k = S.1 k
theorem a4.rf (S : CS) : a4 S S := ⟨rfl, fun _ _ => rfl⟩
theorem a4.si {S S1 : CS} (h : a4 S S1) (f : Nat → Int32) : a4 S (siI S1 4104 f) := ⟨h.1, fun k hk => (siI_n _ _ hk).trans (h.2 k hk)⟩
def TxC (S : CS) (X : Nat → Int32) (L : Nat) : Prop := L ≤ 200 ∧ S.1 4103 0 = nI L ∧ ∀ k, k < L → S.1 8 k = X k
theorem a4.tx {S S1 : CS} (h : a4 S S1) {X : Nat → Int32} {L : Nat} (g : TxC S X L) : TxC S1 X L := by
  unfold TxC
  rw [h.2 4103 (by decide), h.2 8 (by decide)]
  exact g
/-- a loop of the class that goes on while P -/
theorem c_run {P : Int32 → Prop} {S : CS} {X : Nat → Int32} {L a : Nat} (hx : TxC S X L) (ha : S.1 4104 0 = nI a) (hl : a ≤ L) {b : CS → Option (CS ⊕ CS)} (h1 : ∀ S1 i, TxC S1 X L → S1.1 4104 0 = nI i → L ≤ i → i ≤ 200 → b S1 = some (Sum.inr S1)) (h2 : ∀ S1 i, TxC S1 X L → S1.1 4104 0 = nI i → i < L → P (X i) → b S1 = some (Sum.inl (siI S1 4104 (fun _ => nI i + 1)))) (h3 : ∀ S1 i, TxC S1 X L → S1.1 4104 0 = nI i → i < L → ¬ P (X i) → b S1 = some (Sum.inr S1)) : ∃ S' e, lp b FU S = some S' ∧ a4 S S' ∧ S'.1 4104 0 = nI e ∧ Run P X L a e := by
  have hL := hx.1
  have hlp := lp_for (b := b) L (fun i s => a ≤ i ∧ a4 S s ∧ s.1 4104 0 = nI i ∧ ∀ j, a ≤ j → j < i → P (X j)) (fun r => ∃ e, a4 S r ∧ r.1 4104 0 = nI e ∧ Run P X L a e) ?_ ?_ (F := FU) (i := a) (s := S) ⟨Nat.le_refl _, a4.rf S, ha, fun j h1 h2 => by omega⟩ hl (FU_gt (by omega))
  · obtain ⟨S', e, en, q⟩ := hlp
    exact ⟨S', en, e, q⟩
  · rintro s ⟨k1, k2, k3, k4⟩
    exact ⟨s, h1 s L (k2.tx hx) k3 (Nat.le_refl _) hL, L, k2, k3, k1, Nat.le_refl _, k4, fun h => by omega⟩
  · rintro i s hi ⟨k1, k2, k3, k4⟩
    by_cases hp : P (X i)
    · refine Or.inl ⟨_, h2 s i (k2.tx hx) k3 hi hp, by omega, k2.si _, nI_1 i, fun j j1 j2 => ?_⟩
      rcases Nat.lt_or_ge j i with h8 | h8
      · exact k4 j j1 h8
      · obtain rfl : j = i := by omega
        exact hp
    · exact Or.inr ⟨s, h3 s i (k2.tx hx) k3 hi hp, i, k2, k3, k1, by omega, k4, fun _ => hp⟩
theorem c_blanks {S : CS} {X : Nat → Int32} {L a : Nat} (hx : TxC S X L) (ha : S.1 4104 0 = nI a) (hl : a ≤ L) : ∃ S' e, lp (fun s => b_X8_nextToken_31_0 s) FU S = some S' ∧ a4 S S' ∧ S'.1 4104 0 = nI e ∧ Run blC X L a e := by
  refine c_run hx ha hl (fun S1 i g1 g2 g3 g4 => ?_) (fun S1 i g1 g2 g3 g4 => ?_) (fun S1 i g1 g2 g3 g4 => ?_)
  · have := g1.1
    unfold b_X8_nextToken_31_0
    rw [g1.2.1, g2, i_le (by omega) (by omega), if_pos g3]
  · have := g1.1
    have g4 : X i = 32 := g4
    unfold b_X8_nextToken_31_0
    rw [g1.2.1, g2, i_le (by omega) (by omega), if_neg (by omega), q_rd (by omega) (by decide), Option.bind_some, g1.2.2 i g3, g4, if_pos (by rfl), Option.bind_some]
  · have := g1.1
    have g4 : ¬ X i = 32 := g4
    unfold b_X8_nextToken_31_0
    rw [g1.2.1, g2, i_le (by omega) (by omega), if_neg (by omega), q_rd (by omega) (by decide), Option.bind_some, g1.2.2 i g3, if_neg g4]
theorem c_letters {S : CS} {X : Nat → Int32} {L a : Nat} (hx : TxC S X L) (ha : S.1 4104 0 = nI a) (hl : a ≤ L) : ∃ S' e, lp (fun s => b_X8_nextToken_31_85 s) FU S = some S' ∧ a4 S S' ∧ S'.1 4104 0 = nI e ∧ Run ltC X L a e := by
  refine c_run hx ha hl (fun S1 i g1 g2 g3 g4 => ?_) (fun S1 i g1 g2 g3 g4 => ?_) (fun S1 i g1 g2 g3 g4 => ?_)
  · have := g1.1
    unfold b_X8_nextToken_31_85
    rw [g1.2.1, g2, i_le (by omega) (by omega), if_pos g3]
  · have := g1.1
    unfold b_X8_nextToken_31_85
    rw [g1.2.1, g2, i_le (by omega) (by omega), if_neg (by omega), q_rd (by omega) (by decide), Option.bind_some, g1.2.2 i g3, c_isLetter, Option.bind_some, oneI_t g4, if_neg (by decide), Option.bind_some]
  · have := g1.1
    unfold b_X8_nextToken_31_85
    rw [g1.2.1, g2, i_le (by omega) (by omega), if_neg (by omega), q_rd (by omega) (by decide), Option.bind_some, g1.2.2 i g3, c_isLetter, Option.bind_some, oneI_f g4, if_pos (by rfl)]
def a47 (S S' : CS) : Prop := S'.2 = S.2 ∧ ∀ k, k ≠ 4104 → k ≠ 4107 → S'.1 k = S.1 k
theorem c_number {S : CS} {X : Nat → Int32} {L ta : Nat} (hx : TxC S X L) (ha : S.1 4104 0 = nI ta) (hta : S.1 4106 0 = nI ta) (hl : ta ≤ L) : ∃ S' tl, f_X8_passNumber_31 S = some S' ∧ (S'.2 = S.2 ∧ ∀ k, k ≠ 4104 → k ≠ 4107 → k ≠ 4105 → S'.1 k = S.1 k) ∧ S'.1 4104 0 = nI (ta + tl) ∧ S'.1 4105 0 = nI (if tl ≤ 3 then 2 else 4) ∧ S'.1 4107 0 = vlX X ta (if tl ≤ 3 then tl else 3) ∧ Run fgC X L ta (ta + tl) := by
  have hL := hx.1
  unfold f_X8_passNumber_31
  rw [Option.bind_some]
  have hlp := lp_for (b := fun s => b_X8_passNumber_31_5 s) L (fun i s => ta ≤ i ∧ a47 S s ∧ s.1 4104 0 = nI i ∧ s.1 4107 0 = vlX X ta (if i - ta ≤ 3 then i - ta else 3) ∧ ∀ j, ta ≤ j → j < i → fgC (X j)) (fun r => ∃ e, ta ≤ e ∧ a47 S r ∧ r.1 4104 0 = nI e ∧ r.1 4107 0 = vlX X ta (if e - ta ≤ 3 then e - ta else 3) ∧ Run fgC X L ta e) ?_ ?_ (F := FU) (i := ta) (s := siI S 4107 (fun _ => 0)) ⟨Nat.le_refl _, ⟨rfl, fun k h1 h2 => siI_n _ _ h2⟩, ha, by rw [Nat.sub_self]; rfl, fun j h1 h2 => by omega⟩ hl (FU_gt (by omega))
  · obtain ⟨S', e, en, q1, q2, q3, q4, q5⟩ := hlp
    have q6 := q5.2.1
    rw [e, Option.bind_some]
    unfold k_X8_passNumber_31_5
    rw [q3, q2.2 4106 (by decide) (by decide), hta, q_sub q1]
    obtain ⟨tl, rfl⟩ : ∃ tl, en = ta + tl := ⟨en - ta, by omega⟩
    rw [Nat.add_sub_cancel_left] at q4 ⊢
    by_cases h3 : tl ≤ 3
    · rw [if_neg (c := 3 < nI tl) (by rw [ln3]; exact nI_nlt h3 (by decide)), Option.bind_some]
      exact ⟨_, tl, rfl, ⟨q2.1, fun k a1 a2 a3 => (siI_n _ _ a3).trans (q2.2 k a1 a2)⟩, q3, by rw [if_pos h3]; rfl, q4, q5⟩
    · rw [if_pos (c := 3 < nI tl) (by rw [ln3]; exact nI_lt (by omega) (by omega)), Option.bind_some]
      exact ⟨_, tl, rfl, ⟨q2.1, fun k a1 a2 a3 => (siI_n _ _ a3).trans (q2.2 k a1 a2)⟩, q3, by rw [if_neg h3]; rfl, q4, q5⟩
  · rintro s ⟨k1, k2, k3, k4, k5⟩
    refine ⟨s, ?_, L, k1, k2, k3, k4, k1, Nat.le_refl _, k5, fun h => by omega⟩
    show b_X8_passNumber_31_5 s = _
    unfold b_X8_passNumber_31_5
    rw [k2.2 4103 (by decide) (by decide), hx.2.1, k3, if_pos (nI_le (Nat.le_refl _) (by omega))]
  · rintro i s hi ⟨k1, k2, k3, k4, k5⟩
    show (∃ s', b_X8_passNumber_31_5 s = _ ∧ _) ∨ (∃ r, b_X8_passNumber_31_5 s = _ ∧ _)
    unfold b_X8_passNumber_31_5
    rw [k2.2 4103 (by decide) (by decide), hx.2.1, k3, i_le (by omega) (by omega), if_neg (by omega), k2.2 8 (by decide) (by decide), q_rd (by omega) (by decide), Option.bind_some, hx.2.2 i hi, c_isFigure, Option.bind_some, k2.2 4106 (by decide) (by decide), hta, q_sub k1]
    by_cases hp : fgC (X i)
    · rw [oneI_t hp, if_neg (by decide)]
      have nx : ∀ j, ta ≤ j → j < i + 1 → fgC (X j) := fun j j1 j2 => by
        rcases Nat.lt_or_ge j i with h8 | h8
        · exact k5 j j1 h8
        · obtain rfl : j = i := by omega
          exact hp
      by_cases h3 : 3 ≤ i - ta
      · rw [if_pos (c := 3 ≤ nI (i - ta)) (nI_le (a := 3) h3 (by omega)), Option.bind_some]
        refine Or.inl ⟨_, rfl, by omega, ⟨k2.1, fun k a1 a2 => (siI_n _ _ a1).trans (k2.2 k a1 a2)⟩, nI_1 i, ?_, nx⟩
        show s.1 4107 0 = _
        rw [k4, if_neg (c := i + 1 - ta ≤ 3) (by omega)]
        by_cases h4 : i - ta ≤ 3
        · rw [if_pos h4, show i - ta = 3 from by omega]
        · rw [if_neg h4]
      · rw [if_neg (c := 3 ≤ nI (i - ta)) (nI_ge (b := 3) (by omega) (by decide)), Option.bind_some, Option.bind_some, Option.bind_some]
        refine Or.inl ⟨_, rfl, by omega, ⟨k2.1, fun k a1 a2 => (siI_n _ _ a1).trans ((siI_n _ _ a2).trans (k2.2 k a1 a2))⟩, ?_, ?_, nx⟩
        · show s.1 4104 0 + 1 = _
          rw [k3, nI_1]
        · show 10 * s.1 4107 0 + X i - 48 = _
          rw [k4, if_pos (by omega), if_pos (by omega), show i + 1 - ta = (i - ta) + 1 from by omega]
          show _ = 10 * vlX X ta (i - ta) + X (ta + (i - ta)) - 48
          rw [show ta + (i - ta) = i from by omega]
    · rw [oneI_f hp, if_pos (by rfl)]
      exact Or.inr ⟨s, rfl, i, k1, k2, k3, k4, k1, by omega, k5, fun _ => hp⟩
def rcK (S S' : CS) : Prop := S'.2 = S.2 ∧ ∀ k, (k < 4104 ∨ 4108 ≤ k) → S'.1 k = S.1 k
theorem c_next {S : CS} {X : Nat → Int32} {L a : Nat} (hx : TxC S X L) (ha : S.1 4104 0 = nI a) (hl : a ≤ L) : ∃ S' ta tl tk v, f_X8_nextToken_31 S = some S' ∧ rcK S S' ∧ Tok X L a ta tl tk v ∧ S'.1 4106 0 = nI ta ∧ S'.1 4104 0 = nI (ta + tl) ∧ S'.1 4105 0 = nI tk ∧ (tk = 2 → S'.1 4107 0 = v) := by
  have hL := hx.1
  obtain ⟨S1, ta, e1, p1, p2, p3⟩ := c_blanks hx ha hl
  have h200 := p3.2.1
  unfold f_X8_nextToken_31
  rw [e1, Option.bind_some]
  unfold k_X8_nextToken_31_0
  rw [Option.bind_some, p2]
  have hx2 : TxC (siI S1 4106 (fun _ => nI ta)) X L := p1.tx hx
  have h4 : (siI S1 4106 (fun _ => nI ta)).1 4104 0 = nI ta := p2
  have h6 : (siI S1 4106 (fun _ => nI ta)).1 4106 0 = nI ta := rfl
  have hk2 : rcK S (siI S1 4106 (fun _ => nI ta)) := ⟨p1.1, fun k hk => (siI_n _ _ (by omega)).trans (p1.2 k (by omega))⟩
  generalize siI S1 4106 (fun _ => nI ta) = S2 at hx2 h4 h6 hk2
  rw [h4, hx2.2.1, i_lt (by omega) (by omega)]
  by_cases hta : ta < L
  · rw [if_pos hta, q_rd (by omega) (by decide), Option.bind_some, hx2.2.2 ta hta, c_isLetter]
    simp only [Option.bind_some]
    rw [c_isFigure]
    by_cases hlt : ltC (X ta)
    · rw [oneI_t hlt, if_neg (by decide)]
      have hx3 : TxC (siI S2 4105 (fun _ => 1)) X L := hx2
      obtain ⟨S4, e, e4, q1, q2, q3⟩ := c_letters hx3 (show (siI S2 4105 (fun _ => 1)).1 4104 0 = nI ta from h4) (by omega)
      rw [e4, Option.bind_some]
      obtain ⟨tl, rfl⟩ : ∃ tl, e = ta + tl := ⟨e - ta, by have := q3.1; omega⟩
      refine ⟨S4, ta, tl, 1, 0, rfl, ⟨q1.1.trans hk2.1, fun k hk => (q1.2 k (by omega)).trans ((siI_n _ _ (by omega)).trans (hk2.2 k hk))⟩, ⟨p3, Or.inr (Or.inl ⟨hta, hlt, q3, rfl⟩)⟩, ?_, q2, ?_, fun h => by omega⟩
      · rw [q1.2 4106 (by decide)]; exact h6
      · rw [q1.2 4105 (by decide)]; rfl
    · rw [oneI_f hlt, if_pos (by rfl)]
      simp only [Option.bind_some]
      by_cases hfg : fgC (X ta)
      · rw [oneI_t hfg, if_neg (by decide)]
        obtain ⟨S4, tl, e4, q1, q2, q3, q4, q5⟩ := c_number hx2 h4 h6 (by omega)
        rw [e4, Option.bind_some]
        refine ⟨S4, ta, tl, if tl ≤ 3 then 2 else 4, vlX X ta (if tl ≤ 3 then tl else 3), rfl, ⟨q1.1.trans hk2.1, fun k hk => (q1.2 k (by omega) (by omega) (by omega)).trans (hk2.2 k hk)⟩, ⟨p3, Or.inr (Or.inr (Or.inl ⟨hta, hlt, hfg, q5, rfl, rfl⟩))⟩, ?_, q2, q3, fun _ => q4⟩
        rw [q1.2 4106 (by decide) (by decide) (by decide)]; exact h6
      · rw [oneI_f hfg, if_pos (by rfl)]
        by_cases h59 : X ta = 59
        · rw [if_pos h59]
          refine ⟨_, ta, 1, 3, 0, rfl, ⟨hk2.1, fun k hk => (siI_n _ _ (by omega)).trans ((siI_n _ _ (by omega)).trans (hk2.2 k hk))⟩, ⟨p3, Or.inr (Or.inr (Or.inr ⟨hta, hlt, hfg, rfl, by rw [if_pos h59]⟩))⟩, h6, ?_, rfl, fun h => by omega⟩
          show S2.1 4104 0 + 1 = _
          rw [h4, nI_1]
        · rw [if_neg h59]
          refine ⟨_, ta, 1, 4, 0, rfl, ⟨hk2.1, fun k hk => (siI_n _ _ (by omega)).trans ((siI_n _ _ (by omega)).trans (hk2.2 k hk))⟩, ⟨p3, Or.inr (Or.inr (Or.inr ⟨hta, hlt, hfg, rfl, by rw [if_neg h59]⟩))⟩, h6, ?_, rfl, fun h => by omega⟩
          show S2.1 4104 0 + 1 = _
          rw [h4, nI_1]
  · rw [if_neg hta, Option.bind_some]
    exact ⟨_, ta, 0, 0, 0, rfl, ⟨hk2.1, fun k hk => (siI_n _ _ (by omega)).trans (hk2.2 k hk)⟩, ⟨p3, Or.inl ⟨by omega, rfl, rfl⟩⟩, h6, h4, rfl, fun h => by omega⟩
/-! the reference's tokens -/
def TxR (M : MS) (X : Nat → Int32) (L : Nat) : Prop := L ≤ 200 ∧ M 0 73 = nI L ∧ ∀ k, k < L → M 0 (74 + k) = X k
def rrK (M M' : MS) : Prop := ∀ j, (j < 5 ∨ 9 ≤ j) → M' j = M j
theorem rrK.tx {M M' : MS} (h : rrK M M') {X : Nat → Int32} {L : Nat} (g : TxR M X L) : TxR M' X L := by
  unfold TxR
  rw [h 0 (by decide)]
  exact g
theorem rrK.up {M M' : MS} (h : rrK M M') {k : Nat} (f : Nat → Int32) (hk : 5 ≤ k ∧ k < 9) : rrK M (va_up M' k f) := fun j hj => (up_n _ _ (by omega)).trans (h j hj)
theorem t_len {M : MS} {X : Nat → Int32} {L : Nat} (h : TxR M X L) : f_X11_textLong M = some (nI L) := by
  unfold f_X11_textLong
  rw [ln73, q_rd (by decide) (by decide), Option.bind_some, h.2.1]
theorem t_byte {M : MS} {X : Nat → Int32} {L k : Nat} (h : TxR M X L) (hk : k < L) : f_X11_byteAt M (nI k) = some (X k) := by
  have := h.1
  unfold f_X11_byteAt
  rw [ln74, nI_add, q_rd (by omega) (by decide), Option.bind_some, h.2.2 k hk]
theorem r_blanks {M : MS} {X : Nat → Int32} {L a : Nat} (hx : TxR M X L) (ha : M 5 0 = nI a) (hl : a ≤ L) : ∃ M' e, lp (fun s => b_X11_look_5 s) FU M = some M' ∧ rrK M M' ∧ M' 5 0 = nI e ∧ Run blC X L a e := by
  have hL := hx.1
  have hlp := lp_for (b := fun s => b_X11_look_5 s) L (fun i s => a ≤ i ∧ rrK M s ∧ s 5 0 = nI i ∧ ∀ j, a ≤ j → j < i → blC (X j)) (fun r => ∃ e, rrK M r ∧ r 5 0 = nI e ∧ Run blC X L a e) ?_ ?_ (F := FU) (i := a) (s := M) ⟨Nat.le_refl _, fun _ _ => rfl, ha, fun j h1 h2 => by omega⟩ hl (FU_gt (by omega))
  · obtain ⟨M', e, en, q⟩ := hlp
    exact ⟨M', en, e, q⟩
  · rintro s ⟨k1, k2, k3, k4⟩
    refine ⟨s, ?_, L, k2, k3, k1, Nat.le_refl _, k4, fun h => by omega⟩
    show b_X11_look_5 s = _
    unfold b_X11_look_5
    rw [t_len (k2.tx hx), Option.bind_some, k3, if_pos (nI_le (Nat.le_refl _) (by omega))]
  · rintro i s hi ⟨k1, k2, k3, k4⟩
    show (∃ s', b_X11_look_5 s = _ ∧ _) ∨ (∃ r, b_X11_look_5 s = _ ∧ _)
    unfold b_X11_look_5
    rw [t_len (k2.tx hx), Option.bind_some, k3, i_le (by omega) (by omega), if_neg (by omega), t_byte (k2.tx hx) hi, Option.bind_some]
    by_cases hp : X i = 32
    · rw [if_pos hp, Option.bind_some]
      refine Or.inl ⟨_, rfl, by omega, k2.up _ (by decide), nI_1 i, fun j j1 j2 => ?_⟩
      rcases Nat.lt_or_ge j i with h8 | h8
      · exact k4 j j1 h8
      · obtain rfl : j = i := by omega
        exact hp
    · rw [if_neg hp]
      exact Or.inr ⟨s, rfl, i, k2, k3, k1, by omega, k4, fun _ => hp⟩
/-- how far a word or a number goes -/
theorem r_long {M : MS} {X : Nat → Int32} {L ta tk : Nat} {P : Int32 → Prop} (hx : TxR M X L) (h5 : M 5 0 = nI ta) (h6 : M 6 0 = nI 1) (h7 : M 7 0 = nI tk) (htk : (tk = 1 ∧ P = ltC) ∨ (tk = 2 ∧ P = fgC)) (hta : ta < L) (h0 : P (X ta)) : ∃ M' tl, lp (fun s => b_X11_look_134 s.1 s.2) FU (1, M) = some M' ∧ (∀ j, j ≠ 6 → M' j = M j) ∧ M' 6 0 = nI tl ∧ 1 ≤ tl ∧ Run P X L ta (ta + tl) := by
  have hL := hx.1
  have hlp := lp_w (b := fun s => b_X11_look_134 s.1 s.2) (fun n s => ∃ t y, n = (L - (ta + t)) + y ∧ 1 ≤ t ∧ ta + t ≤ L ∧ s.1 = nI y ∧ (∀ j, j ≠ 6 → s.2 j = M j) ∧ s.2 6 0 = nI t ∧ (∀ i, ta ≤ i → i < ta + t → P (X i)) ∧ (y = 1 ∨ (y = 0 ∧ ¬ (ta + t < L ∧ P (X (ta + t)))))) (fun r => ∃ tl, (∀ j, j ≠ 6 → r j = M j) ∧ r 6 0 = nI tl ∧ 1 ≤ tl ∧ Run P X L ta (ta + tl)) ?_ FU ((L - (ta + 1)) + 1) (1, M) ⟨1, 1, rfl, Nat.le_refl _, by omega, rfl, fun _ _ => rfl, h6, fun i i1 i2 => by rw [show i = ta from by omega]; exact h0, Or.inl rfl⟩ (FU_gt (by omega))
  · obtain ⟨M', e, tl, q⟩ := hlp
    exact ⟨M', tl, e, q⟩
  · rintro n ⟨s1, s2⟩ ⟨t, y, k0, k1, k2, k3, k4, k5, k6, k7⟩
    have k3 : s1 = nI y := k3
    subst k3
    have k8 : ∀ j, j ≠ 6 → s2 j = M j := k4
    have k9 : s2 6 0 = nI t := k5
    have hx2 : TxR s2 X L := by unfold TxR; rw [k8 0 (by decide)]; exact hx
    show (∃ r, b_X11_look_134 (nI y) s2 = _ ∧ _) ∨ (∃ s' m, m < n ∧ b_X11_look_134 (nI y) s2 = _ ∧ _)
    unfold b_X11_look_134
    rcases k7 with rfl | ⟨rfl, k7⟩
    · rw [if_neg (c := nI 1 = 0) (by decide), t_len hx2, Option.bind_some, k8 5 (by decide), h5, k9, nI_add, i_le (by omega) (by omega)]
      by_cases hend : L ≤ ta + t
      · rw [if_pos hend]
        exact Or.inl ⟨s2, rfl, t, k8, k9, k1, by omega, k2, k6, fun h => by omega⟩
      · rw [if_neg hend, t_byte hx2 (by omega), Option.bind_some, k8 7 (by decide), h7, r_isSmall, Option.bind_some, r_isFigure, Option.bind_some]
        have key : ∀ w, w = oneI (P (X (ta + t))) → (∃ r, j_X11_look_190 s2 (nI w) = some (Sum.inr r) ∧ ∃ tl, (∀ j, j ≠ 6 → r j = M j) ∧ r 6 0 = nI tl ∧ 1 ≤ tl ∧ Run P X L ta (ta + tl)) ∨ (∃ s' m, m < n ∧ j_X11_look_190 s2 (nI w) = some (Sum.inl s') ∧ ∃ t y, m = (L - (ta + t)) + y ∧ 1 ≤ t ∧ ta + t ≤ L ∧ s'.1 = nI y ∧ (∀ j, j ≠ 6 → s'.2 j = M j) ∧ s'.2 6 0 = nI t ∧ (∀ i, ta ≤ i → i < ta + t → P (X i)) ∧ (y = 1 ∨ (y = 0 ∧ ¬ (ta + t < L ∧ P (X (ta + t)))))) := by
          intro w hw
          unfold j_X11_look_190
          by_cases hp : P (X (ta + t))
          · rw [oneI_t hp] at hw
            subst hw
            rw [if_neg (c := nI 1 = 0) (by decide), Option.bind_some, k9]
            refine Or.inr ⟨_, (L - (ta + (t + 1))) + 1, by omega, rfl, t + 1, 1, rfl, by omega, by omega, rfl, fun j hj => (up_n _ _ hj).trans (k8 j hj), nI_1 t, fun i i1 i2 => ?_, Or.inl rfl⟩
            rcases Nat.lt_or_ge i (ta + t) with h8 | h8
            · exact k6 i i1 h8
            · obtain rfl : i = ta + t := by omega
              exact hp
          · rw [oneI_f hp] at hw
            subst hw
            rw [if_pos (c := nI 0 = 0) rfl, Option.bind_some, k9]
            exact Or.inr ⟨_, L - (ta + t), by omega, rfl, t, 0, rfl, k1, k2, rfl, fun j hj => (up_n _ _ hj).trans (k8 j hj), Int32.add_zero _, k6, Or.inr ⟨rfl, fun h => hp h.2⟩⟩
        rcases htk with ⟨rfl, rfl⟩ | ⟨rfl, rfl⟩
        · rw [if_pos (c := nI 1 = 1) rfl]
          exact key _ rfl
        · rw [if_neg (c := nI 2 = 1) (by decide)]
          exact key _ rfl
    · rw [if_pos (c := nI 0 = 0) rfl]
      exact Or.inl ⟨s2, rfl, t, k8, k9, k1, by omega, k2, k6, fun h9 h8 => k7 ⟨h9, h8⟩⟩
theorem r_val {M : MS} {X : Nat → Int32} {L ta tl : Nat} (hx : TxR M X L) (h5 : M 5 0 = nI ta) (h6 : M 6 0 = nI tl) (h7 : M 7 0 = nI 2) (h8 : M 8 0 = 0) (hl : ta + tl ≤ L) : ∃ M', lp (fun s => b_X11_look_215 s.1 s.2) FU (0, M) = some M' ∧ (∀ j, j ≠ 8 → M' j = M j) ∧ M' 8 0 = vlX X ta (if tl ≤ 3 then tl else 3) := by
  have hL := hx.1
  have hlp := lp_for (b := fun s => b_X11_look_215 s.1 s.2) (if tl ≤ 3 then tl else 3) (fun k s => s.1 = nI k ∧ (∀ j, j ≠ 8 → s.2 j = M j) ∧ s.2 8 0 = vlX X ta k) (fun r => (∀ j, j ≠ 8 → r j = M j) ∧ r 8 0 = vlX X ta (if tl ≤ 3 then tl else 3)) ?_ ?_ (F := FU) (i := 0) (s := (0, M)) ⟨rfl, fun _ _ => rfl, h8⟩ (Nat.zero_le _) (FU_gt (by split <;> omega))
  · obtain ⟨M', e, q⟩ := hlp
    exact ⟨M', e, q⟩
  · rintro ⟨s1, s2⟩ ⟨k0, k1, k2⟩
    have k0 : s1 = nI (if tl ≤ 3 then tl else 3) := k0
    have k3 : ∀ j, j ≠ 8 → s2 j = M j := k1
    subst k0
    refine ⟨s2, ?_, k1, k2⟩
    show b_X11_look_215 (nI (if tl ≤ 3 then tl else 3)) s2 = _
    unfold b_X11_look_215
    rw [k3 6 (by decide), h6]
    by_cases h3 : tl ≤ 3
    · rw [if_pos h3, if_pos (nI_le (Nat.le_refl _) (by omega))]
    · rw [if_neg h3, i_le (by omega) (by omega), if_neg (by omega), if_pos (c := (3 : Int32) ≤ nI 3) (by decide)]
  · rintro k ⟨s1, s2⟩ hk ⟨k0, k1, k2⟩
    have k0 : s1 = nI k := k0
    have k3 : ∀ j, j ≠ 8 → s2 j = M j := k1
    have k4 : s2 8 0 = vlX X ta k := k2
    subst k0
    have hk2 : k < tl ∧ k < 3 := by split at hk <;> omega
    have hx2 : TxR s2 X L := by unfold TxR; rw [k3 0 (by decide)]; exact hx
    refine Or.inl ⟨(nI (k + 1), va_up s2 8 (fun _ => 10 * vlX X ta k + X (ta + k) - 48)), ?_, rfl, fun j hj => (up_n _ _ hj).trans (k3 j hj), rfl⟩
    show b_X11_look_215 (nI k) s2 = _
    unfold b_X11_look_215
    rw [k3 6 (by decide), h6, i_le (by omega) (by omega), if_neg (by omega), if_neg (c := (3 : Int32) ≤ nI k) (nI_ge (b := 3) (by omega) (by decide)), k3 7 (by decide), h7, if_pos (c := nI 2 = 2) rfl, k3 5 (by decide), h5, nI_add, t_byte hx2 (by omega), Option.bind_some, Option.bind_some, Option.bind_some, k4, nI_1]
