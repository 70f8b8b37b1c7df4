/-! how the class' state and the reference's belong together -/
theorem lp_sim {σ ρ σ' ρ' : Type} {b : σ → Option (σ ⊕ ρ)} {b' : σ' → Option (σ' ⊕ ρ')} (I : Nat → σ → σ' → Prop) (Q : ρ → ρ' → Prop) (hs : ∀ n s s', I n s s' → (∃ r r', b s = some (Sum.inr r) ∧ b' s' = some (Sum.inr r') ∧ Q r r') ∨ (∃ t t' m, m < n ∧ b s = some (Sum.inl t) ∧ b' s' = some (Sum.inl t') ∧ I m t t')) : ∀ F F' n s s', I n s s' → n < F → n < F' → ∃ r r', lp b F s = some r ∧ lp b' F' s' = some r' ∧ Q r r' := by
  intro F
  induction F with
  | zero => intro F' n s s' _ h; omega
  | succ F ih =>
    intro F' n s s' hI hn hn'
    obtain ⟨G, rfl⟩ : ∃ G, F' = G + 1 := ⟨F' - 1, by omega⟩
    rcases hs n s s' hI with ⟨r, r', h1, h2, h3⟩ | ⟨t, t', m, h0, h1, h2, h3⟩
    · exact ⟨r, r', lp_e h1, lp_e h2, h3⟩
    · obtain ⟨r, r', g1, g2, g3⟩ := ih G m t t' h3 (by omega) (by omega)
      exact ⟨r, r', (lp_s h1).trans g1, (lp_s h2).trans g2, g3⟩
def RIm0 (S : CS) (C : Cmp) : Prop := RCx (S.2.2 1) (S.1 12) (S.1 13) (S.1 14) (S.1 15) (S.1 16) (S.1 2006 0) (S.1 2007 0) (S.1 2008 0) (S.1 2009 0) C
def RIm1 (S : CS) (C : Cmp) : Prop := RCx (S.2.2 2) (S.1 19) (S.1 20) (S.1 21) (S.1 22) (S.1 23) (S.1 2706 0) (S.1 2707 0) (S.1 2708 0) (S.1 2709 0) C
def Im0 (S : CS) (M : MS) : Prop := (S.1 2 0 = 0 ∧ M 2 0 = 0) ∨ (S.1 2 0 = 1 ∧ M 2 0 = 1 ∧ ∃ C, Good C ∧ RIm0 S C ∧ RMx (fun k => M 1 (277 * 0 + k)) C)
def Im1 (S : CS) (M : MS) : Prop := (S.1 2 1 = 0 ∧ M 2 1 = 0) ∨ (S.1 2 1 = 1 ∧ M 2 1 = 1 ∧ ∃ C, Good C ∧ RIm1 S C ∧ RMx (fun k => M 1 (277 * 1 + k)) C)
def StK (S : CS) (M : MS) : Prop := S.1 1006 0 = M 3 0 ∧ S.1 1007 0 = M 3 1 ∧ S.1 1008 0 = M 3 2
def cl (C : Cmp) : Cmp := (C.1, C.2.1, C.2.2.1, (0, fun _ => 0, fun _ => 0), (0, fun _ => 0), C.2.2.2.2.2)
def PcK (S : CS) (C : Cmp) : Prop := S.1 4300 0 = 0 ∨ (S.1 4300 0 = 1 ∧ ∃ b lk, b < 64 ∧ lk < 64 ∧ S.1 4305 0 = nI b ∧ S.1 4306 0 = nI lk ∧ PlanOK S (cp C) b lk)
def LcK (S : CS) (C : Cmp) : Prop := S.1 5000 0 = 0 ∨ (S.1 5000 0 = 1 ∧ BsK (cl C) ((caN C + 1) ^ caLn C) (S.1 5001 0) (S.1 41))
def RelC (S : CS) (M : MS) (C : Cmp) : Prop := Good C ∧ RC S C ∧ RM M C ∧ (Im0 S M ∧ Im1 S M) ∧ StK S M ∧ PcK S C ∧ LcK S C
def Rel (S : CS) (M : MS) : Prop := ∃ C, RelC S M C
section
variable {S S' : CS} {M M' : MS} {C : Cmp}
theorem RelC.m (h : RelC S M C) (hk : ∀ j, j < 4 → M' j = M j) : RelC S M' C := by
  have e0 := hk 0 (by decide)
  have e1 := hk 1 (by decide)
  have e2 := hk 2 (by decide)
  have e3 := hk 3 (by decide)
  obtain ⟨h1, h2, h3, ⟨h4, h5⟩, h6, h7⟩ := h
  refine ⟨h1, h2, ?_, ⟨?_, ?_⟩, ?_, h7⟩
  · unfold RM; rw [e0]; exact h3
  · unfold Im0; rw [e1, e2]; exact h4
  · unfold Im1; rw [e1, e2]; exact h5
  · unfold StK; rw [e3]; exact h6
/-- the class' state but for planner and loader -/
def SK (S S' : CS) : Prop := S'.2.2 = S.2.2 ∧ ∀ k, (k < 33 ∨ (46 ≤ k ∧ k < 4300) ∨ 5009 ≤ k) → S'.1 k = S.1 k
theorem RelC.s (h : RelC S M C) (f : SK S S') (hp : PcK S' C) (hl : LcK S' C) : RelC S' M C := by
  obtain ⟨h1, h2, h3, ⟨h4, h5⟩, h6, _, _⟩ := h
  obtain ⟨f1, f2⟩ := f
  refine ⟨h1, ?_, h3, ⟨?_, ?_⟩, ?_, hp, hl⟩
  · unfold RC
    rw [f1, f2 5 (by decide), f2 6 (by decide), f2 7 (by decide), f2 8 (by decide), f2 9 (by decide), f2 1306 (by decide), f2 1307 (by decide), f2 1308 (by decide), f2 1309 (by decide)]
    exact h2
  · unfold Im0 RIm0
    rw [f1, f2 2 (by decide), f2 12 (by decide), f2 13 (by decide), f2 14 (by decide), f2 15 (by decide), f2 16 (by decide), f2 2006 (by decide), f2 2007 (by decide), f2 2008 (by decide), f2 2009 (by decide)]
    exact h4
  · unfold Im1 RIm1
    rw [f1, f2 2 (by decide), f2 19 (by decide), f2 20 (by decide), f2 21 (by decide), f2 22 (by decide), f2 23 (by decide), f2 2706 (by decide), f2 2707 (by decide), f2 2708 (by decide), f2 2709 (by decide)]
    exact h5
  · unfold StK
    rw [f2 1006 (by decide), f2 1007 (by decide), f2 1008 (by decide)]
    exact h6
theorem PcK.of (h : PcK S C) (h2 : ∀ k, (k = 34 ∨ (4300 ≤ k ∧ k < 4307)) → S'.1 k = S.1 k) : PcK S' C := by
  unfold PcK PlanOK rwA
  rw [h2 34 (by decide), h2 4300 (by decide), h2 4301 (by decide), h2 4302 (by decide), h2 4303 (by decide), h2 4305 (by decide), h2 4306 (by decide)]
  exact h
theorem LcK.of (h : LcK S C) (h2 : ∀ k, (k = 41 ∨ k = 5000 ∨ k = 5001) → S'.1 k = S.1 k) : LcK S' C := by
  unfold LcK
  rw [h2 41 (by decide), h2 5000 (by decide), h2 5001 (by decide)]
  exact h
theorem RelC.pf (h : RelC S M C) (f : PF S S') (hp : PcK S' C) : RelC S' M C :=
  h.s ⟨f.1, fun k hk => f.2 k (by omega)⟩ hp (h.2.2.2.2.2.2.of (fun k hk => f.2 k (by omega)))
theorem RelC.lf (h : RelC S M C) (f : LF S S') (hl : LcK S' C) : RelC S' M C :=
  h.s ⟨by rw [f.1], fun k hk => f.2 k (by omega)⟩ (h.2.2.2.2.2.1.of (fun k hk => f.2 k (by omega))) hl
/-! refusals -/
theorem r_bad (M : MS) (v : Int32) : f_X11_bad M v = some (v, va_up M 3 (upd (M 3) 0 (M 3 0 + 1))) := by
  unfold f_X11_bad
  rw [show rdI 3 (M 3) 0 = some (M 3 0) from q_rd (k := 0) (by decide) (by decide), Option.bind_some, show wrM M 3 3 0 (M 3 0 + 1) = _ from q_wrM (i := 0) (by decide) (by decide), Option.bind_some]
theorem r_no (M : MS) (v : Int32) : f_X11_no M v = some (v, va_up M 3 (upd (M 3) 1 (M 3 1 + 1))) := by
  unfold f_X11_no
  rw [show rdI 3 (M 3) 1 = some (M 3 1) from q_rd (k := 1) (by decide) (by decide), Option.bind_some, show wrM M 3 3 1 (M 3 1 + 1) = _ from q_wrM (i := 1) (by decide) (by decide), Option.bind_some]
theorem r_full (M : MS) : f_X11_full M = some (-4, va_up M 3 (upd (M 3) 2 (M 3 2 + 1))) := by
  unfold f_X11_full
  rw [show rdI 3 (M 3) 2 = some (M 3 2) from q_rd (k := 2) (by decide) (by decide), Option.bind_some, show wrM M 3 3 2 (M 3 2 + 1) = _ from q_wrM (i := 2) (by decide) (by decide), Option.bind_some]
theorem Rel.bad (h : Rel S M) : Rel (siI S 1006 (fun _ => S.1 1006 0 + 1)) (va_up M 3 (upd (M 3) 0 (M 3 0 + 1))) := by
  obtain ⟨C, h1, h2, h3, h4, ⟨h5, h6, h7⟩, h8, h9⟩ := h
  exact ⟨C, h1, h2, h3, h4, ⟨congrArg (fun z => z + 1) h5, h6, h7⟩, h8, h9⟩
theorem Rel.no (h : Rel S M) : Rel (siI S 1007 (fun _ => S.1 1007 0 + 1)) (va_up M 3 (upd (M 3) 1 (M 3 1 + 1))) := by
  obtain ⟨C, h1, h2, h3, h4, ⟨h5, h6, h7⟩, h8, h9⟩ := h
  exact ⟨C, h1, h2, h3, h4, ⟨h5, congrArg (fun z => z + 1) h6, h7⟩, h8, h9⟩
theorem Rel.full (h : Rel S M) : Rel (siI S 1008 (fun _ => S.1 1008 0 + 1)) (va_up M 3 (upd (M 3) 2 (M 3 2 + 1))) := by
  obtain ⟨C, h1, h2, h3, h4, ⟨h5, h6, h7⟩, h8, h9⟩ := h
  exact ⟨C, h1, h2, h3, h4, ⟨h5, h6, congrArg (fun z => z + 1) h7⟩, h8, h9⟩
theorem ag_bad (h : Rel S M) (v : Int32) : ∃ r S' M', bi2 (f_X10_bad_0 S v) (fun r1 S2 => some (r1, S2)) = some (r, S') ∧ bi2 (f_X11_bad M v) (fun r1 M2 => some (r1, M2)) = some (r, M') ∧ Rel S' M' :=
  ⟨v, _, _, rfl, by rw [r_bad]; rfl, h.bad⟩
theorem ag_full (h : Rel S M) : ∃ r S' M', bi2 (f_X10_full_0 S) (fun r1 S2 => some (r1, S2)) = some (r, S') ∧ bi2 (f_X11_full M) (fun r1 M2 => some (r1, M2)) = some (r, M') ∧ Rel S' M' :=
  ⟨-4, _, _, rfl, by rw [r_full]; rfl, h.full⟩
/-! numbers in bounds -/
def okR (x : Int32) (a b : Nat) : Prop := ∃ j : Nat, a ≤ j ∧ j ≤ b ∧ x = nI j
theorem tri (x : Int32) : x < 0 ∨ ∃ j : Nat, j < 2147483648 ∧ x = nI j := by
  by_cases h : x < 0
  · exact Or.inl h
  · exact Or.inr (nI_of h)
theorem okR_n {x : Int32} (h : x < 0) {a b : Nat} (hb : b < 2147483648) : ¬ okR x a b := by
  rintro ⟨j, _, h2, rfl⟩
  exact nI_pos (by omega) h
theorem okR_j {j a b : Nat} (hj : j < 2147483648) (hb : b < 2147483648) : okR (nI j) a b ↔ a ≤ j ∧ j ≤ b := by
  constructor
  · rintro ⟨i, h1, h2, h3⟩
    have := (nI_eq (by omega) (by omega)).mp h3
    omega
  · exact fun h => ⟨j, h.1, h.2, rfl⟩
theorem r_in {x : Int32} {lo hi : Int64} {a b : Nat} (hl : lo = (nI a).toInt64) (hh : hi = (nI b).toInt64) (ha : a < 2147483648) (hb : b < 2147483648) : f_X11_in x.toInt64 lo hi = some (nI (oneI (okR x a b))) := by
  rw [q_in (nI a) (nI b) hl hh]
  rcases q_cs x a b ha hb with h | ⟨j, h1, h2, rfl⟩
  · rw [if_neg h, oneI_f]
    rintro ⟨j, h1, h2, rfl⟩
    exact h ⟨nI_le h1 (by omega), nI_le h2 (by omega)⟩
  · rw [if_pos ⟨nI_le h1 (by omega), nI_le h2 (by omega)⟩, oneI_t (show okR (nI j) a b from ⟨j, h1, h2, rfl⟩)]
theorem r_isPorter (hM : RMp M C) (hC : Gp C) (x : Int32) : f_X11_isPorter M x = some (nI (oneI (∃ j, j < caN C ∧ x = nI j))) := by
  have hn := hC.n
  unfold f_X11_isPorter
  rw [r_porters hM, Option.bind_some]
  cases hc : caN C with
  | zero =>
    have e : f_X11_in x.toInt64 0 (Int32.toInt64 (nI 0 - 1)) = some (nI 0) := by
      rw [q_in (nI 0) (nI 0 - 1) (by rfl) (by rfl), if_neg]
      intro h
      rcases tri x with h1 | ⟨j, h1, rfl⟩
      · have h2 := h.1
        rw [Int32.le_iff_toInt_le] at h2
        rw [Int32.lt_iff_toInt_lt] at h1
        have e1 : (nI 0).toInt = 0 := rfl
        have e2 : (0 : Int32).toInt = 0 := rfl
        omega
      · exact nI_nm1 h1 h.2
    rw [e, Option.bind_some, q_zr (by decide), Option.bind_some, oneI_f (fun ⟨j, h, _⟩ => by omega)]
  | succ n =>
    rw [nI_pred, r_in (a := 0) (b := n) (by rfl) (by rfl) (by decide) (by omega), Option.bind_some, q_zr (oneI_lt _), Option.bind_some]
    exact congrArg (fun z => some (nI z)) (oneI_c ⟨fun ⟨j, _, h2, h3⟩ => ⟨j, by omega, h3⟩, fun ⟨j, h2, h3⟩ => ⟨j, Nat.zero_le _, by omega, h3⟩⟩)
theorem r_isBand (hM : RMp M C) (hC : Gp C) (x : Int32) : f_X11_isBand M x = some (nI (oneI (okR x 0 (2 ^ caN C - 1)))) := by
  have hpw := pw_le hC.n
  unfold f_X11_isBand
  rw [r_all hM hC, Option.bind_some, r_in (a := 0) (b := 2 ^ caN C - 1) (by rfl) (by rfl) (by decide) (by omega), Option.bind_some, q_zr (oneI_lt _), Option.bind_some]
theorem c_hasP (hS : RCp S C) (hC : Gp C) (x : Int32) : f_X1_hasPorter_3 S x = some (nI (oneI (∃ j, j < caN C ∧ x = nI j))) := by
  have hn := hC.n
  unfold f_X1_hasPorter_3
  rw [hS.n]
  rcases tri x with h | ⟨j, hj, rfl⟩
  · rw [if_pos h, oneI_f]
    · rfl
    · rintro ⟨j, h1, rfl⟩
      exact nI_pos (by omega) h
  · rw [if_neg (nI_pos (by omega)), i_le (by omega) (by omega)]
    by_cases h : caN C ≤ j
    · rw [if_pos h, oneI_f]
      · rfl
      · rintro ⟨i, h1, h2⟩
        have := (nI_eq (by omega) (by omega)).mp h2
        omega
    · rw [if_neg h, oneI_t (show ∃ i, i < caN C ∧ nI j = nI i from ⟨j, by omega, rfl⟩)]
      rfl
theorem c_hasS (hS : RCp S C) (hC : Gp C) (x : Int32) : f_X1_hasSet_3 S x = some (nI (oneI (okR x 0 (2 ^ caN C - 1)))) := by
  have hpw := pw_le hC.n
  have hp1 := Nat.one_le_two_pow (n := caN C)
  rcases tri x with h | ⟨j, hj, rfl⟩
  · unfold f_X1_hasSet_3
    rw [if_pos h, oneI_f (okR_n h (by omega))]
    rfl
  · rw [c_hasSet hS hC hj]
    by_cases h : j < 2 ^ caN C
    · rw [if_pos h, oneI_t ((okR_j hj (by omega)).mpr ⟨by omega, by omega⟩)]
    · rw [if_neg h, oneI_f (fun h9 => by have := ((okR_j hj (by omega)).mp h9).2; omega)]
theorem c_isMin (x : Int32) : f_X10_isMinute x = some (nI (oneI (okR x 0 239))) := by
  unfold f_X10_isMinute
  rcases tri x with h | ⟨j, hj, rfl⟩
  · rw [if_pos h, oneI_f (okR_n h (by decide))]
    rfl
  · rw [if_neg (nI_pos (by omega)), ln240, i_le (by omega) (by omega)]
    by_cases h : 240 ≤ j
    · rw [if_pos h, oneI_f (fun h9 => by have := ((okR_j hj (by decide)).mp h9).2; omega)]
      rfl
    · rw [if_neg h, oneI_t ((okR_j hj (by decide)).mpr ⟨by omega, by omega⟩)]
      rfl
end
