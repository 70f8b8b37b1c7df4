/-! the class' loader -/
def bdP (a : Nat) : Nat := [0, 5, 9, 12, 14, 15, 15].getD a 0
theorem q_bdP : ∀ a, a < 6 → bdP (a + 1) = bdP a + (5 - a) ∧ bdP a + (5 - a) ≤ 15 := by decide +kernel
theorem q_bdP6 : ∀ a, a < 7 → bdP a ≤ 15 := by decide +kernel
noncomputable def cL (C : Cmp) (x A B : Nat → Nat) : Nat → Nat
  | 0 => 0
  | i + 1 => cL C x A B i + oneI (caU C 0 ≤ dfW C (A i) (B i) 0 (x (A i)) (x (B i)))
theorem cL_c {C : Cmp} {x A B A' B' : Nat → Nat} : ∀ {i}, (∀ j, j < i → A j = A' j ∧ B j = B' j) → cL C x A B i = cL C x A' B' i := by
  intro i
  induction i with
  | zero => intro _; rfl
  | succ i ih =>
    intro h
    show cL C x A B i + oneI (caU C 0 ≤ dfW C (A i) (B i) 0 (x (A i)) (x (B i))) = cL C x A' B' i + oneI (caU C 0 ≤ dfW C (A' i) (B' i) 0 (x (A' i)) (x (B' i)))
    rw [ih (fun j hj => h j (by omega)), (h i (by omega)).1, (h i (by omega)).2]
theorem cL_le (C : Cmp) (x A B : Nat → Nat) : ∀ i, cL C x A B i ≤ i := by
  intro i
  induction i with
  | zero => exact Nat.le_refl _
  | succ i ih =>
    have := oneI_lt (caU C 0 ≤ dfW C (A i) (B i) 0 (x (A i)) (x (B i)))
    show cL C x A B i + oneI (caU C 0 ≤ dfW C (A i) (B i) 0 (x (A i)) (x (B i))) ≤ i + 1
    omega
def lsI (S : CS) (C : Cmp) (m al : Nat) (A B : Nat → Nat) : Prop := S.1 5007 0 = nI m ∧ S.1 5008 0 = nI al ∧ ∀ i, i < m → S.1 44 i = nI (A i) ∧ S.1 45 i = nI (B i) ∧ A i < caN C ∧ B i < caN C
def fpK (S0 S : CS) : Prop := S.2 = S0.2 ∧ ∀ k, k ≠ 44 → k ≠ 45 → k ≠ 5007 → k ≠ 5008 → S.1 k = S0.1 k
def fpI (S0 : CS) (C : Cmp) (a b : Nat) (S : CS) : Prop := fpK S0 S ∧ ∃ m al A B, lsI S C m al A B ∧ m + al ≤ bdP a + (b - (a + 1)) ∧ ∀ x, prO C x a + prI C x a b = al + cL C x A B m
theorem fpK.q {S0 S : CS} {C : Cmp} (h : fpK S0 S) (g : RCp S0 C) : RCp S C := by
  unfold RCp
  rw [h.1, h.2 5 (by decide) (by decide) (by decide) (by decide), h.2 1306 (by decide) (by decide) (by decide) (by decide)]
  exact g
section
variable {C : Cmp}
theorem c_findPairs {S : CS} (hS : RCp S C) (hC : Gp C) : ∃ S' m al A B, f_X5_findPairs_40_3 S = some S' ∧ fpK S S' ∧ m ≤ 15 ∧ al ≤ 15 ∧ lsI S' C m al A B ∧ ∀ x, prC C x = al + cL C x A B m := by
  have hn := hC.n
  unfold f_X5_findPairs_40_3
  rw [Option.bind_some, Option.bind_some]
  have hI0 : fpI S C 0 1 (siI (siI S 5007 (fun _ => 0)) 5008 (fun _ => 0)) := ⟨⟨rfl, fun k _ _ h3 h4 => (siI_n _ _ h4).trans (siI_n _ _ h3)⟩, 0, 0, fun _ => 0, fun _ => 0, ⟨rfl, rfl, fun i h => by omega⟩, Nat.zero_le _, fun x => by rw [prI_0 C x 0 1 (Nat.le_refl _)]; rfl⟩
  generalize siI (siI S 5007 (fun _ => 0)) 5008 (fun _ => 0) = S1 at hI0 ⊢
  have hlp := lp_for (b := fun s => b_X5_findPairs_40_3_12 s.1 s.2) (caN C) (fun a s => s.1 = nI a ∧ fpI S C a (a + 1) s.2) (fun r => fpI S C (caN C) (caN C + 1) r) ?_ ?_ (F := FU) (i := 0) (s := (0, S1)) ⟨rfl, hI0⟩ (Nat.zero_le _) (FU_gt (by omega))
  · obtain ⟨S', e, h⟩ := hlp
    obtain ⟨h1, m, al, A, B, h2, h3, h4⟩ := h
    have hb := q_bdP6 (caN C) (by omega)
    refine ⟨S', m, al, A, B, by rw [e]; rfl, h1, by omega, by omega, h2, fun x => ?_⟩
    rw [← h4 x, prI_0 C x _ _ (Nat.le_refl _)]
    rfl
  · rintro ⟨s1, s2⟩ ⟨h0, h⟩
    have h0 : s1 = nI (caN C) := h0
    subst h0
    have h : fpI S C (caN C) (caN C + 1) s2 := h
    refine ⟨s2, ?_, h⟩
    show b_X5_findPairs_40_3_12 (nI (caN C)) s2 = _
    unfold b_X5_findPairs_40_3_12
    rw [(h.1.q hS).n, if_pos (nI_le (Nat.le_refl _) (by omega))]
  · rintro a ⟨s1, s2⟩ ha ⟨h0, h⟩
    have h0 : s1 = nI a := h0
    subst h0
    have h : fpI S C a (a + 1) s2 := h
    refine Or.inl ?_
    show ∃ s', b_X5_findPairs_40_3_12 (nI a) s2 = _ ∧ _
    unfold b_X5_findPairs_40_3_12
    rw [(h.1.q hS).n, i_le (by omega) (by omega), if_neg (by omega), Option.bind_some, nI_1]
    have hlp := lp_for (b := fun s => b_X5_findPairs_40_3_24 (nI a) s.1 s.2) (caN C) (fun b s => a < b ∧ s.1 = nI b ∧ fpI S C a b s.2) (fun r => fpI S C a (caN C) r) ?_ ?_ (F := FU) (i := a + 1) (s := (nI (a + 1), s2)) ⟨by omega, rfl, h⟩ (by omega) (FU_gt (by omega))
    · obtain ⟨S3, e3, g⟩ := hlp
      rw [e3, Option.bind_some]
      unfold k_X5_findPairs_40_3_24
      rw [Option.bind_some, nI_1]
      refine ⟨_, rfl, rfl, ?_⟩
      obtain ⟨g1, m, al, A, B, g2, g3, g4⟩ := g
      have hb := q_bdP a (by omega)
      refine ⟨g1, m, al, A, B, g2, by omega, fun x => ?_⟩
      rw [← g4 x, prI_0 C x (a + 1) (a + 1 + 1) (Nat.le_refl _)]
      rfl
    · rintro ⟨y1, y2⟩ ⟨k1, k0, k2⟩
      have k0 : y1 = nI (caN C) := k0
      subst k0
      have k2 : fpI S C a (caN C) y2 := k2
      refine ⟨y2, ?_, k2⟩
      show b_X5_findPairs_40_3_24 (nI a) (nI (caN C)) y2 = _
      unfold b_X5_findPairs_40_3_24
      rw [(k2.1.q hS).n, if_pos (nI_le (Nat.le_refl _) (by omega))]
    · rintro b ⟨y1, y2⟩ hb ⟨k1, k0, k2⟩
      have k0 : y1 = nI b := k0
      subst k0
      have k2 : fpI S C a b y2 := k2
      have hS2 := k2.1.q hS
      obtain ⟨g1, m, al, A, B, g2, g3, g4⟩ := k2
      have hbd := q_bdP a (by omega)
      have hm15 : m < 21 := by omega
      have hstep : bdP a + (b - (a + 1)) + 1 = bdP a + (b + 1 - (a + 1)) := by omega
      have hst1 : m + (al + 1) ≤ bdP a + (b + 1 - (a + 1)) := by rw [← hstep]; exact Nat.succ_le_succ g3
      have hst2 : m + 1 + al ≤ bdP a + (b + 1 - (a + 1)) := by omega
      have hal : al < 30 := by omega
      have hset := q_prl a (by omega) b (by omega)
      have hnv := c_hasNeverSo hS2 hC (s := 2 ^ a ||| 2 ^ b) (nt := 0) hset (by decide)
      have hnv : f_X1_hasNeverSo_3 y2 (nI (2 ^ a ||| 2 ^ b)) 0 = some (nI (oneI (anv C (2 ^ a ||| 2 ^ b) 0))) := hnv
      have hgd : (∃ p, p < caN C ∧ bN (2 ^ a ||| 2 ^ b) p = 1 ∧ caK C p = 5) ↔ caK C a = 5 ∨ caK C b = 5 := by
        constructor
        · rintro ⟨p, p1, p2, p3⟩
          rcases (q_prb a (by omega) b (by omega) p (by omega)).mp p2 with rfl | rfl
          · exact Or.inl p3
          · exact Or.inr p3
        · rintro (h | h)
          · exact ⟨a, ha, (q_prb a (by omega) b (by omega) a (by omega)).mpr (Or.inl rfl), h⟩
          · exact ⟨b, hb, (q_prb a (by omega) b (by omega) b (by omega)).mpr (Or.inr rfl), h⟩
      refine Or.inl ?_
      show ∃ s', b_X5_findPairs_40_3_24 (nI a) (nI b) y2 = _ ∧ _
      unfold b_X5_findPairs_40_3_24
      rw [hS2.n, i_le (by omega) (by omega), if_neg (by omega), Option.bind_some, q_pr (by omega) (by omega), hnv, Option.bind_some]
      by_cases h2 : anv C (2 ^ a ||| 2 ^ b) 0
      · rw [oneI_t h2, if_neg (by decide), Option.bind_some, nI_1]
        refine ⟨_, rfl, by omega, rfl, g1, m, al, A, B, g2, by omega, fun x => ?_⟩
        rw [prI_s C x k1, oneI_f (c := gdP C x a b) (fun h => h.1 h2), Nat.add_zero]
        exact g4 x
      · rw [oneI_f h2, if_pos (by decide), c_hasGuide hS2 hC hset, Option.bind_some, oneI_c hgd]
        by_cases h3 : caK C a = 5 ∨ caK C b = 5
        · rw [oneI_t h3, if_neg (by decide), Option.bind_some, Option.bind_some, nI_1, g2.2.1, nI_1]
          refine ⟨_, rfl, by omega, rfl, ⟨g1.1, fun k a1 a2 a3 a4 => (siI_n _ _ a4).trans (g1.2 k a1 a2 a3 a4)⟩, m, al + 1, A, B, ⟨g2.1, rfl, g2.2.2⟩, hst1, fun x => ?_⟩
          have hu : gdP C x a b := ⟨h2, h3.elim Or.inl (fun h => Or.inr (Or.inl h))⟩
          rw [prI_s C x k1, oneI_t hu, ← Nat.add_assoc, g4 x]
          omega
        · rw [oneI_f h3, if_pos (by decide), g2.1, q_wrI hm15 (by decide), Option.bind_some]
          have e1 : (siI y2 44 (upd (y2.1 44) m (nI a))).1 5007 0 = nI m := g2.1
          rw [e1, q_wrI hm15 (by decide), Option.bind_some, Option.bind_some, Option.bind_some, nI_1]
          have e2 : (siI (siI y2 44 (upd (y2.1 44) m (nI a))) 45 (upd ((siI y2 44 (upd (y2.1 44) m (nI a))).1 45) m (nI b))).1 5007 0 = nI m := g2.1
          rw [e2, nI_1]
          refine ⟨_, rfl, by omega, rfl, ⟨g1.1, fun k a1 a2 a3 a4 => (siI_n _ _ a3).trans ((siI_n _ _ a2).trans ((siI_n _ _ a1).trans (g1.2 k a1 a2 a3 a4)))⟩, m + 1, al, fun i => if i = m then a else A i, fun i => if i = m then b else B i, ⟨rfl, g2.2.1, fun i hi => ?_⟩, hst2, fun x => ?_⟩
          · show upd (y2.1 44) m (nI a) i = nI (if i = m then a else A i) ∧ upd (y2.1 45) m (nI b) i = nI (if i = m then b else B i) ∧ (if i = m then a else A i) < caN C ∧ (if i = m then b else B i) < caN C
            by_cases h9 : i = m
            · rw [if_pos h9, if_pos h9, h9, pk_us, pk_us]
              exact ⟨rfl, rfl, ha, hb⟩
            · rw [if_neg h9, if_neg h9, pk_un h9, pk_un h9]
              exact g2.2.2 i (by omega)
          · have e3 : cL C x (fun i => if i = m then a else A i) (fun i => if i = m then b else B i) (m + 1) = cL C x A B m + oneI (gdP C x a b) := by
              show cL C x (fun i => if i = m then a else A i) (fun i => if i = m then b else B i) m + oneI (caU C 0 ≤ dfW C (if m = m then a else A m) (if m = m then b else B m) 0 (x (if m = m then a else A m)) (x (if m = m then b else B m))) = _
              rw [if_pos (by rfl), if_pos (by rfl), cL_c (A' := A) (B' := B) (fun j hj => ⟨if_neg (by omega), if_neg (by omega)⟩)]
              refine congrArg (fun z => cL C x A B m + z) (oneI_c ⟨fun h => ⟨h2, Or.inr (Or.inr h)⟩, fun h => ?_⟩)
              rcases h.2 with h9 | h9 | h9
              · exact absurd (Or.inl h9) h3
              · exact absurd (Or.inr h9) h3
              · exact h9
            rw [prI_s C x k1, e3, ← Nat.add_assoc, g4 x, Nat.add_assoc]
theorem q_dif3 {a b g : Nat} (ha : a < 1000) (hb : b < 1000) (hg : g < 1000) : ((if (0 : Int32) ≤ nI a - nI b then nI a - nI b else 0 - (nI a - nI b)) < nI g) = ((if b ≤ a then a - b else b - a) < g) := by
  by_cases h : b ≤ a
  · rw [pk_sub h, if_pos (nI_pos' (by omega)), q_lt (by omega) (by omega), if_pos h]
  · have e : nI a - nI b = -nI (b - a) := by rw [← pk_sub (by omega : a ≤ b), Int32.neg_sub]
    rw [if_neg h, e, if_neg (by
      rw [Int32.le_iff_toInt_le, ← e, pk_sub_toInt (by omega) (by omega)]
      have : (0 : Int32).toInt = 0 := rfl
      omega), Int32.zero_sub, Int32.neg_neg, q_lt (by omega) (by omega)]
theorem c_keep {S : CS} (hC : Gp C) {m al : Nat} {A B : Nat → Nat} (hm : m ≤ 15) (hal : al ≤ 15) (hI : lsI S C m al A B) {x : Nat → Nat} (hx : ∀ p, p < caN C → S.1 43 p = nI (wtA C p 0 + x p) ∧ x p < 200) : f_X5_keepIfBetter_40 S (nI (caU C 0)) = some (if nI (al + cL C x A B m) ≤ S.1 5001 0 then S else siI (siI S 5001 (fun _ => nI (al + cL C x A B m))) 41 (va_cpy (S.1 42) (S.1 41) 0 0 5)) := by
  have hn := hC.n
  have hu := hC.u
  unfold f_X5_keepIfBetter_40
  rw [Option.bind_some, hI.2.1]
  have h := lp_seq (b := fun s => b_X5_keepIfBetter_40_7 S (nI (caU C 0)) s.1 s.2) m (fun i => (nI (al + cL C x A B i), nI i)) (nI (al + cL C x A B m)) ?_ ?_ (F := FU) (FU_gt (by omega))
  · rw [show (nI al, (0 : Int32)) = (nI (al + cL C x A B 0), nI 0) from rfl, h, Option.bind_some]
    unfold k_X5_keepIfBetter_40_7
    by_cases h9 : nI (al + cL C x A B m) ≤ S.1 5001 0
    · rw [if_pos h9, if_pos h9]
    · rw [if_neg h9, if_neg h9, Option.bind_some, Option.bind_some]
      rfl
  · intro i hi
    obtain ⟨h1, h2, h3, h4⟩ := hI.2.2 i hi
    obtain ⟨xa, xa2⟩ := hx (A i) h3
    obtain ⟨xb, xb2⟩ := hx (B i) h4
    have wa := wtA_lt hC (t := 0) h3
    have wb := wtA_lt hC (t := 0) h4
    show b_X5_keepIfBetter_40_7 S (nI (caU C 0)) (nI (al + cL C x A B i)) (nI i) = some (Sum.inl (nI (al + (cL C x A B i + oneI (caU C 0 ≤ dfW C (A i) (B i) 0 (x (A i)) (x (B i))))), nI (i + 1)))
    unfold b_X5_keepIfBetter_40_7
    rw [hI.1, i_le (by omega) (by omega), if_neg (by omega), q_rd (by omega) (by decide), Option.bind_some, h1, q_rd (by omega) (by decide), Option.bind_some, xa, q_rd (by omega) (by decide), Option.bind_some, h2, q_rd (by omega) (by decide), Option.bind_some, xb, i_cl (q_dif3 (by omega) (by omega) (by omega))]
    unfold dfW
    by_cases h9 : (if wtA C (B i) 0 + x (B i) ≤ wtA C (A i) 0 + x (A i) then wtA C (A i) 0 + x (A i) - (wtA C (B i) 0 + x (B i)) else wtA C (B i) 0 + x (B i) - (wtA C (A i) 0 + x (A i))) < caU C 0
    · rw [if_pos h9, oneI_f (by omega), Option.bind_some, nI_1, Nat.add_zero (cL C x A B i)]
    · rw [if_neg h9, oneI_t (by omega), Option.bind_some, Option.bind_some, nI_1, nI_1, Nat.add_assoc]
  · show b_X5_keepIfBetter_40_7 S (nI (caU C 0)) (nI (al + cL C x A B m)) (nI m) = _
    unfold b_X5_keepIfBetter_40_7
    rw [hI.1, if_pos (nI_le (Nat.le_refl _) (by omega))]
def LdP (S : CS) (C : Cmp) (m al : Nat) (A B : Nat → Nat) : Prop := RCp S C ∧ S.1 1309 0 = nI (caLn C) ∧ (∀ k, k < caLn C → S.1 9 k = nI (caLd C k)) ∧ lsI S C m al A B
def ldK (S S' : CS) : Prop := S'.2 = S.2 ∧ ∀ k, k ≠ 41 → k ≠ 42 → k ≠ 43 → k ≠ 5001 → S'.1 k = S.1 k
theorem ldK.rf (S : CS) : ldK S S := ⟨rfl, fun _ _ _ _ _ => rfl⟩
theorem ldK.tr {S S1 S2 : CS} (h : ldK S S1) (g : ldK S1 S2) : ldK S S2 := ⟨g.1.trans h.1, fun k a b c d => (g.2 k a b c d).trans (h.2 k a b c d)⟩
theorem ldK.si {S S1 : CS} (h : ldK S S1) {k : Nat} (f : Nat → Int32) (hk : k = 41 ∨ k = 42 ∨ k = 43 ∨ k = 5001) : ldK S (siI S1 k f) := ⟨h.1, fun j a b c d => (siI_n _ _ (by omega)).trans (h.2 j a b c d)⟩
theorem ldK.ld {S S1 : CS} {m al : Nat} {A B : Nat → Nat} (h : ldK S S1) (g : LdP S C m al A B) : LdP S1 C m al A B := by
  have e : ∀ k, k ≠ 41 → k ≠ 42 → k ≠ 43 → k ≠ 5001 → S1.1 k = S.1 k := h.2
  obtain ⟨g1, g2, g3, g4⟩ := g
  refine ⟨?_, ?_, ?_, ?_⟩
  · unfold RCp
    rw [h.1, e 5 (by decide) (by decide) (by decide) (by decide), e 1306 (by decide) (by decide) (by decide) (by decide)]
    exact g1
  · rw [e 1309 (by decide) (by decide) (by decide) (by decide)]; exact g2
  · rw [e 9 (by decide) (by decide) (by decide) (by decide)]; exact g3
  · unfold lsI
    rw [e 5007 (by decide) (by decide) (by decide) (by decide), e 5008 (by decide) (by decide) (by decide) (by decide), e 44 (by decide) (by decide) (by decide) (by decide), e 45 (by decide) (by decide) (by decide) (by decide)]
    exact g4
def glI (S : CS) (C : Cmp) (L base cs : Nat) : Prop := L ≤ caLn C ∧ (∀ p, p < caN C → S.1 43 p = nI (wtA C p 0 + crU C (dgB (caN C + 1) L base) p L)) ∧ (∀ j, j < L → S.1 42 j = nI (dgB (caN C + 1) L base j) - 1) ∧ cs < 64 ∧ (∀ p, p < 6 → (bN cs p = 1 ↔ ∃ j, j < L ∧ dgB (caN C + 1) L base j = p + 1)) ∧ fzB (caN C + 1) L base
theorem q_orb : ∀ cs, cs < 64 → ∀ p, p < 6 → cs ||| 2 ^ p < 64 ∧ ∀ p', p' < 6 → (bN (cs ||| 2 ^ p) p' = 1 ↔ bN cs p' = 1 ∨ p' = p) := by decide +kernel
theorem glI.child {S S1 : CS} {L base cs : Nat} (h : glI S C L base cs) (hn : caN C ≤ 6) (hL : L < caLn C) {d cs' : Nat} (hd : d < caN C + 1) (hcs : (d = 0 ∧ cs' = cs) ∨ ∃ p, d = p + 1 ∧ bN cs p = 0 ∧ cs' = cs ||| 2 ^ p) (h43 : ∀ p, p < caN C → S1.1 43 p = nI (wtA C p 0 + crU C (dgB (caN C + 1) L base) p L + (if d = p + 1 then caLd C L else 0))) (h42 : ∀ j, j < L → S1.1 42 j = S.1 42 j) (h42L : S1.1 42 L = nI d - 1) : glI S1 C (L + 1) (base * (caN C + 1) + d) cs' := by
  obtain ⟨g1, g2, g3, g4, g5, g6⟩ := h
  have old : ∀ j, j < L → dgB (caN C + 1) (L + 1) (base * (caN C + 1) + d) j = dgB (caN C + 1) L base j := fun j hj => dgB_old hd hj
  have top : dgB (caN C + 1) (L + 1) (base * (caN C + 1) + d) L = d := dgB_top hd
  refine ⟨by omega, fun p hp => ?_, fun j hj => ?_, ?_, fun p hp => ?_, fun j j' a1 a2 a3 => ?_⟩
  · rw [h43 p hp]
    show _ = nI (wtA C p 0 + (crU C (dgB (caN C + 1) (L + 1) (base * (caN C + 1) + d)) p L + (if dgB (caN C + 1) (L + 1) (base * (caN C + 1) + d) L = p + 1 then caLd C L else 0)))
    rw [top, crU_c (g := dgB (caN C + 1) L base) old, Nat.add_assoc]
  · rcases Nat.lt_or_ge j L with h8 | h8
    · rw [h42 j h8, old j h8]; exact g3 j h8
    · obtain rfl : j = L := by omega
      rw [h42L, top]
  · rcases hcs with ⟨_, rfl⟩ | ⟨p, h1, _, rfl⟩
    · exact g4
    · exact (q_orb cs g4 p (by omega)).1
  · rcases hcs with ⟨h0, rfl⟩ | ⟨p2, h1, h2, rfl⟩
    · rw [g5 p hp]
      constructor
      · rintro ⟨j, j1, j2⟩
        exact ⟨j, by omega, (old j j1).trans j2⟩
      · rintro ⟨j, j1, j2⟩
        rcases Nat.lt_or_ge j L with h8 | h8
        · exact ⟨j, h8, (old j h8).symm.trans j2⟩
        · obtain rfl : j = L := by omega
          rw [top] at j2
          omega
    · rw [(q_orb cs g4 p2 (by omega)).2 p hp, g5 p hp]
      constructor
      · rintro (⟨j, j1, j2⟩ | rfl)
        · exact ⟨j, by omega, (old j j1).trans j2⟩
        · exact ⟨L, by omega, top.trans h1⟩
      · rintro ⟨j, j1, j2⟩
        rcases Nat.lt_or_ge j L with h8 | h8
        · exact Or.inl ⟨j, h8, (old j h8).symm.trans j2⟩
        · obtain rfl : j = L := by omega
          rw [top] at j2
          exact Or.inr (by omega)
  · have a4 : j < L := by omega
    rw [old j a4] at a3 ⊢
    rcases Nat.lt_or_ge j' L with h8 | h8
    · rw [old j' h8]
      exact g6 j j' a1 h8 a3
    · obtain rfl : j' = L := by omega
      rw [top]
      rcases hcs with ⟨h0, _⟩ | ⟨p2, h1, h2, _⟩
      · rw [h0]; exact a3
      · intro h9
        have := (g5 p2 (by omega)).mpr ⟨j, a4, by rw [h9, h1]⟩
        omega
theorem c_giveLoad (hC : Gp C) (hL : GdL C) {m al : Nat} {A B : Nat → Nat} (hm : m ≤ 15) (hal : al ≤ 15) (hpr : ∀ x, prC C x = al + cL C x A B m) : ∀ d S L base cs, caLn C < L + d → LdP S C m al A B → glI S C L base cs → BsK C (base * (caN C + 1) ^ (caLn C - L)) (S.1 5001 0) (S.1 41) → ∃ S', f_X5_giveLoad_40_3 d S (nI L) (nI cs) = some S' ∧ ldK S S' ∧ (∀ p, p < caN C → S'.1 43 p = S.1 43 p) ∧ (∀ j, j < L → S'.1 42 j = S.1 42 j) ∧ BsK C ((base + 1) * (caN C + 1) ^ (caLn C - L)) (S'.1 5001 0) (S'.1 41) := by
  have hn := hC.n
  have hu := hC.u
  have hl5 := hL.1
  intro d
  induction d with
  | zero => intro S L base cs h _ hg; have := hg.1; omega
  | succ d ih =>
    intro S L base cs hd hP hg hb
    have hg0 := hg
    obtain ⟨g1, g2, g3, g4, g5, g6⟩ := hg
    show ∃ S', f_X5_giveLoadB_40_3 (f_X5_giveLoad_40_3 d) S (nI L) (nI cs) = some S' ∧ _
    unfold f_X5_giveLoadB_40_3
    rw [hP.2.2.2.1, hP.2.2.2.2.1, nI_add]
    have hmul : base * (caN C + 1) ^ (caLn C - L) ≤ (base + 1) * (caN C + 1) ^ (caLn C - L) := Nat.mul_le_mul_right _ (by omega)
    by_cases ht : S.1 5001 0 = nI (m + al)
    · rw [if_pos ht]
      refine ⟨S, rfl, ldK.rf S, fun _ _ => rfl, fun _ _ => rfl, hb.top hC hmul ht (by omega) (fun c => ?_)⟩
      have := cL_le C (xOf C c) A B m
      unfold prK
      rw [hpr]
      omega
    · rw [if_neg ht, hP.2.1, i_le (by omega) (by omega)]
      by_cases hLL : caLn C ≤ L
      · obtain rfl : L = caLn C := by omega
        have hx : ∀ p, p < caN C → S.1 43 p = nI (wtA C p 0 + xOf C base p) ∧ xOf C base p < 200 := fun p hp => ⟨g2 p hp, by have := xOf_le hL base p; omega⟩
        rw [if_pos hLL, show rdI 4 (S.1 5) 0 = some (nI (caU C 0)) from c_u hP.1 (i := 0) (by decide), Option.bind_some, c_keep hC hm hal hP.2.2.2 hx, Option.bind_some, ← hpr]
        rw [Nat.sub_self, Nat.pow_zero, Nat.mul_one] at hb ⊢
        by_cases h9 : nI (prC C (xOf C base)) ≤ S.1 5001 0
        · rw [if_pos h9]
          exact ⟨S, rfl, ldK.rf S, fun _ _ => rfl, fun _ _ => rfl, hb.keep hC h9⟩
        · rw [if_neg h9]
          refine ⟨_, rfl, ((ldK.rf S).si _ (by decide)).si _ (by decide), fun _ _ => rfl, fun _ _ => rfl, ?_⟩
          exact hb.new hC g6 h9 (fun j hj => (cpy_at (by omega)).trans (g3 j hj))
      · rw [if_neg hLL, ln5, i_lt (by omega) (by omega), if_pos (by omega)]
        have hE : caLn C - (L + 1) = caLn C - L - 1 := by omega
        have hpow : (caN C + 1) ^ (caLn C - L) = (caN C + 1) * (caN C + 1) ^ (caLn C - L - 1) := by
          obtain ⟨k, hk⟩ : ∃ k, caLn C - L = k + 1 := ⟨caLn C - L - 1, by omega⟩
          rw [hk, Nat.add_sub_cancel, Nat.pow_succ, Nat.mul_comm]
        have toN : ∀ S5 : CS, ldK S S5 → (∀ p, p < caN C → S5.1 43 p = S.1 43 p) → (∀ j, j < L → S5.1 42 j = S.1 42 j) → BsK C ((base * (caN C + 1) + 0) * (caN C + 1) ^ (caLn C - L - 1)) (S5.1 5001 0) (S5.1 41) → ∃ S6, f_X5_giveLoadTo_40_3 (f_X5_giveLoad_40_3 d) S5 (nI L) (nI cs) (-1) = some S6 ∧ ldK S S6 ∧ (∀ p, p < caN C → S6.1 43 p = S.1 43 p) ∧ (∀ j, j < L → S6.1 42 j = S.1 42 j) ∧ BsK C ((base * (caN C + 1) + 0 + 1) * (caN C + 1) ^ (caLn C - L - 1)) (S6.1 5001 0) (S6.1 41) := by
          intro S5 k1 k2 k3 k4
          unfold f_X5_giveLoadTo_40_3
          rw [q_wrI (by omega) (by decide), Option.bind_some, if_pos (by rfl), nI_1]
          have kk : ldK S (siI S5 42 (upd (S5.1 42) L (-1))) := k1.si _ (by decide)
          have ch : glI (siI S5 42 (upd (S5.1 42) L (-1))) C (L + 1) (base * (caN C + 1) + 0) cs := hg0.child hn (by omega) (by omega) (Or.inl ⟨rfl, rfl⟩) (fun p hp => by
            show S5.1 43 p = _
            rw [k2 p hp, g2 p hp, if_neg (by omega)]
            rfl) (fun j hj => by
            show upd (S5.1 42) L (-1) j = _
            rw [pk_un (by omega)]
            exact k3 j hj) (by
            show upd (S5.1 42) L (-1) L = _
            rw [pk_us]
            rfl)
          obtain ⟨S6, e6, w1, w2, w3, w4⟩ := ih (siI S5 42 (upd (S5.1 42) L (-1))) (L + 1) (base * (caN C + 1) + 0) cs (by omega) (kk.ld hP) ch (by rw [hE]; exact k4)
          rw [e6, Option.bind_some]
          refine ⟨S6, rfl, kk.tr w1, fun p hp => (w2 p hp).trans (k2 p hp), fun j hj => ?_, by rw [hE] at w4; exact w4⟩
          rw [w3 j (by omega)]
          show upd (S5.1 42) L (-1) j = _
          rw [pk_un (by omega)]
          exact k3 j hj
        have toP : ∀ (p : Nat) (S5 : CS), p < caN C → bN cs p = 0 → ldK S S5 → (∀ p, p < caN C → S5.1 43 p = S.1 43 p) → (∀ j, j < L → S5.1 42 j = S.1 42 j) → BsK C ((base * (caN C + 1) + (p + 1)) * (caN C + 1) ^ (caLn C - L - 1)) (S5.1 5001 0) (S5.1 41) → ∃ S6, f_X5_giveLoadTo_40_3 (f_X5_giveLoad_40_3 d) S5 (nI L) (nI cs) (nI p) = some S6 ∧ ldK S S6 ∧ (∀ p, p < caN C → S6.1 43 p = S.1 43 p) ∧ (∀ j, j < L → S6.1 42 j = S.1 42 j) ∧ BsK C ((base * (caN C + 1) + (p + 1) + 1) * (caN C + 1) ^ (caLn C - L - 1)) (S6.1 5001 0) (S6.1 41) := by
          intro p S5 hp hbp k1 k2 k3 k4
          have hld := hP.2.2.1 L (by omega)
          have e9 : S5.1 9 = S.1 9 := k1.2 9 (by decide) (by decide) (by decide) (by decide)
          unfold f_X5_giveLoadTo_40_3
          rw [q_wrI (by omega) (by decide), Option.bind_some, if_neg (fun h9 => m1_ne (by omega) h9.symm), q_rd (by omega) (by decide), Option.bind_some, q_rd (by omega) (by decide), Option.bind_some, q_wrI (by omega) (by decide), Option.bind_some, nI_1]
          have v43 : (siI S5 42 (upd (S5.1 42) L (nI p))).1 43 p = nI (wtA C p 0 + crU C (dgB (caN C + 1) L base) p L) := (k2 p hp).trans (g2 p hp)
          have v9 : (siI S5 42 (upd (S5.1 42) L (nI p))).1 9 L = nI (caLd C L) := by
            show S5.1 9 L = _
            rw [e9]
            exact hld
          rw [v43, v9, ln1, ln31, q_shl (by omega), q_or, nI_add]
          obtain ⟨S4, eS4⟩ : ∃ S4, S4 = siI (siI S5 42 (upd (S5.1 42) L (nI p))) 43 (upd ((siI S5 42 (upd (S5.1 42) L (nI p))).1 43) p (nI (wtA C p 0 + crU C (dgB (caN C + 1) L base) p L + caLd C L))) := ⟨_, rfl⟩
          rw [← eS4]
          have kk : ldK S S4 := by rw [eS4]; exact (k1.si _ (by decide)).si _ (by decide)
          have h43 : ∀ p', p' < caN C → S4.1 43 p' = nI (wtA C p' 0 + crU C (dgB (caN C + 1) L base) p' L + (if p + 1 = p' + 1 then caLd C L else 0)) := by
            intro p' hp'
            rw [eS4]
            show upd (S5.1 43) p (nI (wtA C p 0 + crU C (dgB (caN C + 1) L base) p L + caLd C L)) p' = _
            by_cases h9 : p' = p
            · subst h9
              rw [pk_us, if_pos (by rfl)]
            · rw [pk_un h9, k2 p' hp', g2 p' hp', if_neg (by omega)]
              rfl
          have h42 : ∀ j, j < L → S4.1 42 j = S.1 42 j := by
            intro j hj
            rw [eS4]
            show upd (S5.1 42) L (nI p) j = _
            rw [pk_un (by omega)]
            exact k3 j hj
          have h42L : S4.1 42 L = nI (p + 1) - 1 := by
            rw [eS4, nI_pred]
            show upd (S5.1 42) L (nI p) L = _
            exact pk_us
          have h5001 : S4.1 5001 0 = S5.1 5001 0 := by rw [eS4]; rfl
          have h41 : S4.1 41 = S5.1 41 := by rw [eS4]; rfl
          have ch : glI S4 C (L + 1) (base * (caN C + 1) + (p + 1)) (cs ||| 2 ^ p) := hg0.child hn (by omega) (by omega) (Or.inr ⟨p, rfl, hbp, rfl⟩) h43 h42 h42L
          obtain ⟨S6, e6, w1, w2, w3, w4⟩ := ih S4 (L + 1) (base * (caN C + 1) + (p + 1)) (cs ||| 2 ^ p) (by omega) (kk.ld hP) ch (by rw [hE, h5001, h41]; exact k4)
          have w9 : S6.1 9 L = nI (caLd C L) := by rw [w1.2 9 (by decide) (by decide) (by decide) (by decide), kk.2 9 (by decide) (by decide) (by decide) (by decide)]; exact hld
          rw [e6, Option.bind_some, q_rd (by omega) (by decide), Option.bind_some, q_rd (by omega) (by decide), Option.bind_some, q_wrI (by omega) (by decide), Option.bind_some, w9, w2 p hp, h43 p hp, if_pos (by rfl), q_sub (by omega), Nat.add_sub_cancel]
          refine ⟨_, rfl, (kk.tr w1).si _ (by decide), fun p' hp' => ?_, fun j hj => ?_, by rw [hE] at w4; exact w4⟩
          · show upd (S6.1 43) p (nI (wtA C p 0 + crU C (dgB (caN C + 1) L base) p L)) p' = _
            by_cases h9 : p' = p
            · subst h9
              rw [pk_us]
              exact (g2 p' hp').symm
            · rw [pk_un h9, w2 p' hp', h43 p' hp', if_neg (by omega), Nat.add_zero]
              exact (g2 p' hp').symm
          · show S6.1 42 j = _
            rw [w3 j (by omega)]
            exact h42 j hj
        have hlp := lp_for (b := fun s => b_X5_giveLoadB_40_3_44 (f_X5_giveLoad_40_3 d) (nI L) (nI cs) s.1 s.2) (caN C + 1) (fun i s => s.1 = nI i - 1 ∧ ldK S s.2 ∧ (∀ p, p < caN C → s.2.1 43 p = S.1 43 p) ∧ (∀ j, j < L → s.2.1 42 j = S.1 42 j) ∧ BsK C ((base * (caN C + 1) + i) * (caN C + 1) ^ (caLn C - L - 1)) (s.2.1 5001 0) (s.2.1 41)) (fun r => ldK S r ∧ (∀ p, p < caN C → r.1 43 p = S.1 43 p) ∧ (∀ j, j < L → r.1 42 j = S.1 42 j) ∧ BsK C ((base + 1) * (caN C + 1) ^ (caLn C - L)) (r.1 5001 0) (r.1 41)) ?_ ?_ (F := FU) (i := 0) (s := ((-1), S)) ⟨by show (-1 : Int32) = nI 0 - 1; decide, ldK.rf S, fun _ _ => rfl, fun _ _ => rfl, by rw [Nat.add_zero, Nat.mul_assoc, ← hpow]; exact hb⟩ (Nat.zero_le _) (FU_gt (by omega))
        · obtain ⟨S', e, r⟩ := hlp
          exact ⟨S', by rw [e]; rfl, r⟩
        · rintro ⟨s1, s2⟩ ⟨h0, k1, k2, k3, k4⟩
          have h0 : s1 = nI (caN C + 1) - 1 := h0
          rw [nI_pred] at h0
          subst h0
          have k1 : ldK S s2 := k1
          refine ⟨s2, ?_, k1, k2, k3, ?_⟩
          · show b_X5_giveLoadB_40_3_44 (f_X5_giveLoad_40_3 d) (nI L) (nI cs) (nI (caN C)) s2 = _
            unfold b_X5_giveLoadB_40_3_44
            rw [(k1.ld hP).1.n, if_pos (nI_le (Nat.le_refl _) (by omega))]
          · rw [hpow, ← Nat.mul_assoc, Nat.add_mul, Nat.one_mul]
            exact k4
        · rintro i ⟨s1, s2⟩ hi ⟨h0, k1, k2, k3, k4⟩
          have h0 : s1 = nI i - 1 := h0
          subst h0
          have k1 : ldK S s2 := k1
          have k2 : ∀ p, p < caN C → s2.1 43 p = S.1 43 p := k2
          have k3 : ∀ j, j < L → s2.1 42 j = S.1 42 j := k3
          have k4 : BsK C ((base * (caN C + 1) + i) * (caN C + 1) ^ (caLn C - L - 1)) (s2.1 5001 0) (s2.1 41) := k4
          refine Or.inl ?_
          show ∃ s', b_X5_giveLoadB_40_3_44 (f_X5_giveLoad_40_3 d) (nI L) (nI cs) (nI i - 1) s2 = _ ∧ _
          unfold b_X5_giveLoadB_40_3_44
          rw [(k1.ld hP).1.n]
          cases i with
          | zero =>
            obtain ⟨S6, e6, w⟩ := toN s2 k1 k2 k3 k4
            rw [show nI 0 - 1 = (-1 : Int32) from by decide, if_neg (nI_nm1 (by omega)), if_pos (by rfl), e6, Option.bind_some, Option.bind_some]
            exact ⟨_, rfl, by show (-1 : Int32) + 1 = nI (0 + 1) - 1; decide, w⟩
          | succ p =>
            have hbl := bN_lt cs p
            rw [nI_pred, i_le (by omega) (by omega), if_neg (by omega), if_neg (fun h9 => m1_ne (by omega) h9.symm), c_hasPorterIn (by omega) (by omega), Option.bind_some, show (0 : Int32) = nI 0 from rfl, i_eq (by omega) (by omega)]
            by_cases hbp : bN cs p = 0
            · obtain ⟨S6, e6, w⟩ := toP p s2 (by omega) hbp k1 k2 k3 k4
              rw [if_pos hbp, e6, Option.bind_some, Option.bind_some, nI_1]
              exact ⟨_, rfl, (nI_pred (p + 1)).symm, w⟩
            · rw [if_neg hbp, Option.bind_some, nI_1]
              refine ⟨_, rfl, (nI_pred (p + 1)).symm, k1, k2, k3, k4.no (Nat.mul_le_mul_right _ (by omega)) (fun c c1 c2 hf => ?_)⟩
              obtain ⟨j, j1, j2⟩ := (g5 p (by omega)).mp (by omega)
              have hc : c / (caN C + 1) ^ (caLn C - (L + 1)) = base * (caN C + 1) + (p + 1) := by
                rw [hE]
                exact Nat.div_eq_of_lt_le c1 c2
              have d1 := dgB_pre (B := caN C + 1) (L := caLn C) (L' := L + 1) (j := j) (by omega) hc (by omega)
              have d2 := dgB_pre (B := caN C + 1) (L := caLn C) (L' := L + 1) (j := L) (by omega) hc (by omega)
              rw [dgB_old (by omega) j1, j2] at d1
              rw [dgB_top (by omega)] at d2
              exact hf j L j1 (by omega) (by rw [d1]; omega) (by rw [d1, d2])
def LF (S S' : CS) : Prop := S'.2 = S.2 ∧ ∀ k, (k < 41 ∨ (46 ≤ k ∧ k < 5000) ∨ 5009 ≤ k) → S'.1 k = S.1 k
theorem c_share {S : CS} (hS : RCp S C) (hC : Gp C) (hL : GdL C) (hn9 : S.1 1309 0 = nI (caLn C)) (hd9 : ∀ k, k < caLn C → S.1 9 k = nI (caLd C k)) (h0 : S.1 5000 0 = 0) : ∃ S', f_X5_share_40_3 S = some S' ∧ LF S S' ∧ S'.1 5000 0 = 1 ∧ BsK C ((caN C + 1) ^ caLn C) (S'.1 5001 0) (S'.1 41) := by
  have hn := hC.n
  unfold f_X5_share_40_3
  rw [h0, if_pos (by rfl), Option.bind_some]
  have hlp := lp_for (b := fun s => b_X5_share_40_3_15 s.1 s.2) (caN C) (fun i s => s.1 = nI i ∧ s.2.2 = S.2 ∧ (∀ k, k ≠ 43 → k ≠ 5000 → s.2.1 k = S.1 k) ∧ s.2.1 5000 0 = 1 ∧ ∀ p, p < i → s.2.1 43 p = nI (wtA C p 0)) (fun r => r.2 = S.2 ∧ (∀ k, k ≠ 43 → k ≠ 5000 → r.1 k = S.1 k) ∧ r.1 5000 0 = 1 ∧ ∀ p, p < caN C → r.1 43 p = nI (wtA C p 0)) ?_ ?_ (F := FU) (i := 0) (s := (0, siI S 5000 (fun _ => 1))) ⟨rfl, rfl, fun k _ h2 => siI_n _ _ h2, rfl, fun p h => by omega⟩ (Nat.zero_le _) (FU_gt (by omega))
  · obtain ⟨S1, e1, p1, p2, p3⟩ := hlp
    obtain ⟨p3, p4⟩ := p3
    have hS1 : RCp S1 C := by
      unfold RCp
      rw [p1, p2 5 (by decide) (by decide), p2 1306 (by decide) (by decide)]
      exact hS
    obtain ⟨S3, m, al, A, B, e3, q1, q2, q3, q4, q5⟩ := c_findPairs hS1 hC
    rw [e1, Option.bind_some]
    unfold k_X5_share_40_3_15
    rw [e3, Option.bind_some, Option.bind_some]
    have hP : LdP (siI S3 5001 (fun _ => -1)) C m al A B := by
      refine ⟨q1.q hS1, ?_, fun k hk => ?_, q4⟩
      · show S3.1 1309 0 = _
        rw [q1.2 1309 (by decide) (by decide) (by decide) (by decide), p2 1309 (by decide) (by decide)]
        exact hn9
      · show S3.1 9 k = _
        rw [q1.2 9 (by decide) (by decide) (by decide) (by decide), p2 9 (by decide) (by decide)]
        exact hd9 k hk
    have h43 : S3.1 43 = S1.1 43 := q1.2 43 (by decide) (by decide) (by decide) (by decide)
    have hg : glI (siI S3 5001 (fun _ => -1)) C 0 0 0 := by
      refine ⟨Nat.zero_le _, fun p hp => ?_, fun j h => by omega, by decide, fun p hp => ⟨fun h => ?_, fun ⟨j, h, _⟩ => by omega⟩, fun j j' _ h => by omega⟩
      · show S3.1 43 p = _
        rw [h43]
        exact p4 p hp
      · have : bN 0 p = 0 := by unfold bN; rw [Nat.zero_div]
        omega
    obtain ⟨S5, e5, w1, _, _, w4⟩ := c_giveLoad hC hL q2 q3 q5 7 (siI S3 5001 (fun _ => -1)) 0 0 0 (by have := hL.1; omega) hP hg (Or.inl ⟨rfl, fun c h => by rw [Nat.zero_mul] at h; omega⟩)
    have e5 : f_X5_giveLoad_40_3 7 (siI S3 5001 (fun _ => -1)) 0 0 = some S5 := e5
    rw [e5, Option.bind_some]
    refine ⟨S5, rfl, ⟨w1.1.trans (q1.1.trans p1), fun k hk => ?_⟩, ?_, ?_⟩
    · rw [w1.2 k (by omega) (by omega) (by omega) (by omega), siI_n _ _ (by omega), q1.2 k (by omega) (by omega) (by omega) (by omega)]
      exact p2 k (by omega) (by omega)
    · rw [w1.2 5000 (by decide) (by decide) (by decide) (by decide), siI_n _ _ (by decide), q1.2 5000 (by decide) (by decide) (by decide) (by decide)]
      exact p3
    · rw [Nat.zero_add, Nat.one_mul, Nat.sub_zero] at w4
      exact w4
  · rintro ⟨s1, s2⟩ ⟨k0, k1, k2, k3⟩
    have k0 : s1 = nI (caN C) := k0
    subst k0
    have k2 : ∀ k, k ≠ 43 → k ≠ 5000 → s2.1 k = S.1 k := k2
    refine ⟨s2, ?_, k1, k2, k3⟩
    show b_X5_share_40_3_15 (nI (caN C)) s2 = _
    unfold b_X5_share_40_3_15
    rw [k2 1306 (by decide) (by decide), hS.n, if_pos (nI_le (Nat.le_refl _) (by omega))]
  · rintro i ⟨s1, s2⟩ hi ⟨k0, k1, k2, k3, k4⟩
    have k0 : s1 = nI i := k0
    subst k0
    have k1 : s2.2 = S.2 := k1
    have k2 : ∀ k, k ≠ 43 → k ≠ 5000 → s2.1 k = S.1 k := k2
    have hS2 : RCp s2 C := by
      unfold RCp
      rw [k1, k2 5 (by decide) (by decide), k2 1306 (by decide) (by decide)]
      exact hS
    have hw := c_weightOf hS2 hC hi (t := 0) (by decide)
    have hw : f_X1_weightOf_3 s2 (nI i) 0 = some (nI (wtA C i 0)) := hw
    refine Or.inl ⟨(nI (i + 1), siI s2 43 (upd (s2.1 43) i (nI (wtA C i 0)))), ?_, rfl, k1, fun k a1 a2 => (siI_n _ _ a1).trans (k2 k a1 a2), k3, fun p hp => ?_⟩
    · show b_X5_share_40_3_15 (nI i) s2 = _
      unfold b_X5_share_40_3_15
      rw [hS2.n, i_le (by omega) (by omega), if_neg (by omega), hw, Option.bind_some, q_wrI (by omega) (by decide), Option.bind_some, Option.bind_some, nI_1]
    · show (siI s2 43 (upd (s2.1 43) i (nI (wtA C i 0)))).1 43 p = _
      rw [siI_s]
      by_cases h9 : p = i
      · subst h9; exact pk_us
      · rw [pk_un h9]; exact k4 p (by omega)
end
