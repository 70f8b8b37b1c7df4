/-! calls: falls, ropes -/
theorem q_on2 : ∀ b, b < 6 → ∀ a, a < b → ∀ th, th < 64 → (((2 ^ a ||| 2 ^ b) &&& th = 0 ∨ (2 ^ a ||| 2 ^ b) &&& th = (2 ^ a ||| 2 ^ b)) ↔ bN th a = bN th b) := by decide +kernel
theorem why5 {C : Cmp} {a b t : Nat} (hb : b < 6) (ha : a < b) : whyS C (2 ^ a ||| 2 ^ b) t 0 = 5 ↔ ¬ anv C (2 ^ a ||| 2 ^ b) 0 ∧ ¬ unl C a b t 0 0 := by
  obtain ⟨h1, h2, h3⟩ := q_prf b hb a ha
  unfold whyS
  rw [h1, h2, h3, if_neg (c := (0 : Nat) = 1) (by decide), if_pos (by rfl)]
  by_cases k1 : anv C (2 ^ a ||| 2 ^ b) 0
  · rw [cif_t k1]
    exact ⟨fun h => (by cases h), fun h => absurd k1 h.1⟩
  · rw [cif_f k1]
    by_cases k2 : unl C a b t 0 0
    · rw [cif_f (fun h => h.2 k2)]
      refine ⟨fun h => ?_, fun h => absurd k2 h.2⟩
      split at h <;> cases h
    · rw [cif_t ⟨rfl, k2⟩]
      exact ⟨fun _ => ⟨k1, k2⟩, fun _ => rfl⟩
theorem p_fell : ag_fell Rel := by
  intro S M h p0 p1 p2
  have h0 := h
  obtain ⟨C, hR⟩ := h
  have hG := hR.1.p
  have hC := hR.2.1.q
  have hM := hR.2.2.1.q
  have hn6 := hG.n
  have hpw := pw_le hG.n
  have hp1 := Nat.one_le_two_pow (n := caN C)
  unfold f_X10_fell_0 f_X11_fell
  rw [c_hasS hC hG, Option.bind_some, r_all hM hG, Option.bind_some, r_in (a := 0) (b := 2 ^ caN C - 1) (by rfl) (by rfl) (by decide) (by omega), Option.bind_some]
  by_cases k0 : okR p0 0 (2 ^ caN C - 1)
  · rw [oneI_t k0, if_neg (c := nI 1 = 0) (by decide), if_neg (c := nI 1 = 0) (by decide), c_isMin, Option.bind_some, r_in (a := 0) (b := 239) (by rfl) (by rfl) (by decide) (by decide), Option.bind_some]
    by_cases k1 : okR p1 0 239
    · rw [oneI_t k1, if_neg (c := nI 1 = 0) (by decide), if_neg (c := nI 1 = 0) (by decide)]
      obtain ⟨th, _, th2, rfl⟩ := k0
      obtain ⟨t, _, t2, rfl⟩ := k1
      by_cases k2 : (-1 : Int32) ≤ p2
      · obtain ⟨M8, e8, n1, n2⟩ := r_carryNothing M
        have hM8 := n1.q (by decide) hM
        rw [if_pos k2, if_pos k2, e8, Option.bind_some]
        have hlp := lp_sim (b := fun s => b_X10_fell_0_36 S (nI th) (nI t) p2 s.1 s.2) (b' := fun s => b_X11_fell_48 (nI th) (nI t) p2 M8 s.1 s.2) (fun n s s' => ∃ x a, n = caN C - a ∧ a ≤ caN C ∧ s = (x, nI a) ∧ s' = (x, nI a)) (fun r r' => ∃ v, r = (v, S) ∧ r' = (v, M8)) ?_ FU FU (caN C) (0, 0) (0, 0) ⟨0, 0, rfl, Nat.zero_le _, rfl, rfl⟩ (FU_gt (by omega)) (FU_gt (by omega))
        · obtain ⟨r, r', e1, e2, v, rfl, rfl⟩ := hlp
          rw [e1, e2]
          exact ⟨v, S, M8, rfl, rfl, C, hR.m (fun j hj => n1 j (by omega))⟩
        · rintro n s s' ⟨x, a, hn, ha, rfl, rfl⟩
          show (∃ r r', b_X10_fell_0_36 S (nI th) (nI t) p2 x (nI a) = _ ∧ b_X11_fell_48 (nI th) (nI t) p2 M8 x (nI a) = _ ∧ _) ∨ (∃ t1 t2 m, m < n ∧ b_X10_fell_0_36 S (nI th) (nI t) p2 x (nI a) = _ ∧ b_X11_fell_48 (nI th) (nI t) p2 M8 x (nI a) = _ ∧ _)
          unfold b_X10_fell_0_36 b_X11_fell_48
          rw [hC.n, r_porters hM8]
          simp only [Option.bind_some]
          rw [i_le (by omega) (by omega), i_le (by omega) (by omega)]
          by_cases hna : caN C ≤ a
          · rw [if_pos hna, if_pos hna]
            by_cases hp2 : p2 = -1
            · rw [if_pos hp2, if_pos hp2]
              exact Or.inl ⟨_, _, rfl, rfl, x, rfl, rfl⟩
            · rw [if_neg hp2, if_neg hp2]
              exact Or.inl ⟨_, _, rfl, rfl, -5, rfl, rfl⟩
          · rw [if_neg hna, if_neg hna, nI_1]
            have hli := lp_sim (b := fun s => b_X10_fell_0_54 S (nI th) (nI t) p2 (nI a) s.1 s.2) (b' := fun s => b_X11_fell_63 (nI th) (nI t) p2 M8 (nI a) s.1 s.2) (fun n s s' => ∃ x b, n = caN C - b ∧ a < b ∧ b ≤ caN C ∧ s = (x, nI b) ∧ s' = (x, nI b)) (fun r r' => (∃ x, r = Sum.inl (x, nI (a + 1)) ∧ r' = Sum.inl (x, nI (a + 1))) ∨ ∃ v, r = Sum.inr (v, S) ∧ r' = Sum.inr (v, M8)) ?_ FU FU (caN C - (a + 1)) (x, nI (a + 1)) (x, nI (a + 1)) ⟨x, a + 1, rfl, by omega, by omega, rfl, rfl⟩ (FU_gt (by omega)) (FU_gt (by omega))
            · obtain ⟨r, r', e1, e2, hh⟩ := hli
              rcases hh with ⟨y, rfl, rfl⟩ | ⟨v, rfl, rfl⟩
              · exact Or.inr ⟨_, _, caN C - (a + 1), by omega, e1, e2, y, a + 1, rfl, by omega, rfl, rfl⟩
              · exact Or.inl ⟨_, _, e1, e2, v, rfl, rfl⟩
            · rintro n s s' ⟨x, b, hn, hab, hb, rfl, rfl⟩
              show (∃ r r', b_X10_fell_0_54 S (nI th) (nI t) p2 (nI a) x (nI b) = _ ∧ b_X11_fell_63 (nI th) (nI t) p2 M8 (nI a) x (nI b) = _ ∧ _) ∨ (∃ t1 t2 m, m < n ∧ b_X10_fell_0_54 S (nI th) (nI t) p2 (nI a) x (nI b) = _ ∧ b_X11_fell_63 (nI th) (nI t) p2 M8 (nI a) x (nI b) = _ ∧ _)
              unfold b_X10_fell_0_54 b_X11_fell_63
              rw [hC.n, r_porters hM8]
              simp only [Option.bind_some]
              rw [i_le (by omega) (by omega), i_le (by omega) (by omega)]
              by_cases hnb : caN C ≤ b
              · rw [if_pos hnb, if_pos hnb, nI_1]
                exact Or.inl ⟨_, _, rfl, rfl, Or.inl ⟨x, rfl, rfl⟩⟩
              · have hset := q_prn (caN C) hn6 a (by omega) b (by omega)
                have hwl := whyS_lt (C := C) (s := 2 ^ a ||| 2 ^ b) (t := t) (nt := 0)
                have hw := c_whyNot hC hG hset (t := t) (nt := 0) (by omega) (by decide)
                have hw : f_X1_whyNot_3 S (nI (2 ^ a ||| 2 ^ b)) (nI t) 0 = some (nI (whyS C (2 ^ a ||| 2 ^ b) t 0)) := hw
                have hnv := r_anyNever hM8 hG (s := 2 ^ a ||| 2 ^ b) (nt := 0) (by omega) (by decide)
                have hnv : f_X11_anyNever M8 (nI (2 ^ a ||| 2 ^ b)) 0 = some (nI (oneI (anv C (2 ^ a ||| 2 ^ b) 0))) := hnv
                have hun := r_areUnlike hM8 hG (a := a) (b := b) (by omega) (by omega) (t := t) (by omega) (n2 a (by omega)) (n2 b (by omega)) (by decide) (by decide)
                have hba := bN_lt th a
                have hbb := bN_lt th b
                have hb1 : (nI th >>> (nI a &&& 31)) &&& 1 = nI (bN th a) := q_bit (by omega) (by omega)
                have hb2 : (nI th >>> (nI b &&& 31)) &&& 1 = nI (bN th b) := q_bit (by omega) (by omega)
                have hon : oneS (2 ^ a ||| 2 ^ b) th ↔ bN th a = bN th b := q_on2 b (by omega) a hab th (by omega)
                have h5 := why5 (C := C) (t := t) (show b < 6 by omega) hab
                rw [if_neg hnb, if_neg hnb, q_pr (by omega) (by omega), c_isOnOneSide (by omega) (by omega), Option.bind_some, hb1, hb2, i_eq (by omega) (by omega), oneI_c hon, hw]
                unfold j_X11_fell_92
                rw [q_pr (by omega) (by omega), hnv, hun]
                simp only [Option.bind_some, nI_1]
                have go : ∀ y, (∃ r r', (some (Sum.inl (y, nI (b + 1))) : Option ((Int32 × Int32) ⊕ ((Int32 × Int32) ⊕ (Int32 × CS)))) = some (Sum.inr r) ∧ (some (Sum.inl (y, nI (b + 1))) : Option ((Int32 × Int32) ⊕ ((Int32 × Int32) ⊕ (Int32 × MS)))) = some (Sum.inr r') ∧ ((∃ x, r = Sum.inl (x, nI (a + 1)) ∧ r' = Sum.inl (x, nI (a + 1))) ∨ ∃ v, r = Sum.inr (v, S) ∧ r' = Sum.inr (v, M8))) ∨ (∃ t1 t2 m, m < n ∧ (some (Sum.inl (y, nI (b + 1))) : Option ((Int32 × Int32) ⊕ ((Int32 × Int32) ⊕ (Int32 × CS)))) = some (Sum.inl t1) ∧ (some (Sum.inl (y, nI (b + 1))) : Option ((Int32 × Int32) ⊕ ((Int32 × Int32) ⊕ (Int32 × MS)))) = some (Sum.inl t2) ∧ ∃ x b, m = caN C - b ∧ a < b ∧ b ≤ caN C ∧ t1 = (x, nI b) ∧ t2 = (x, nI b)) := fun y => Or.inr ⟨_, _, caN C - (b + 1), by omega, rfl, rfl, y, b + 1, rfl, by omega, by omega, rfl, rfl⟩
                by_cases ho : bN th a = bN th b
                · rw [oneI_t ho, if_pos ho, if_neg (c := nI 1 = 0) (by decide), if_neg (c := (1 : Int32) = 0) (by decide)]
                  by_cases ka : anv C (2 ^ a ||| 2 ^ b) 0
                  · rw [oneI_t ka, if_neg (c := nI 1 = 0) (by decide), if_neg (c := nI (whyS C (2 ^ a ||| 2 ^ b) t 0) = 5) (fun h9 => (h5.mp ((nI_eq (b := 5) (by omega) (by decide)).mp h9)).1 ka)]
                    exact go x
                  · rw [oneI_f ka, if_pos (c := nI 0 = 0) rfl]
                    by_cases ku : unl C a b t 0 0
                    · rw [oneI_t ku, if_neg (c := nI 1 = 0) (by decide), if_neg (c := nI (whyS C (2 ^ a ||| 2 ^ b) t 0) = 5) (fun h9 => (h5.mp ((nI_eq (b := 5) (by omega) (by decide)).mp h9)).2 ku)]
                      exact go x
                    · rw [oneI_f ku, if_pos (c := nI 0 = 0) rfl, if_pos (c := nI (whyS C (2 ^ a ||| 2 ^ b) t 0) = 5) (by rw [h5.mpr ⟨ka, ku⟩]; rfl)]
                      by_cases hx : x = p2
                      · rw [if_pos hx, if_pos hx]
                        exact Or.inl ⟨_, _, rfl, rfl, Or.inr ⟨_, rfl, rfl⟩⟩
                      · rw [if_neg hx, if_neg hx]
                        exact go (x + 1)
                · rw [oneI_f ho, if_neg ho, if_pos (c := nI 0 = 0) rfl, if_pos (c := True) trivial]
                  exact go x
      · rw [if_neg k2, if_neg k2]
        exact ag_bad h0 _
    · rw [oneI_f k1, if_pos (c := nI 0 = 0) rfl, if_pos (c := nI 0 = 0) rfl]
      exact ag_bad h0 _
  · rw [oneI_f k0, if_pos (c := nI 0 = 0) rfl, if_pos (c := nI 0 = 0) rfl]
    exact ag_bad h0 _
/-! ropes -/
def wgS (C : Cmp) (g : Nat) : Nat → Nat
  | 0 => 0
  | i + 1 => wgS C g i + (if bN (caGs C g) i = 1 then wtA C i (caGm C g) else 0)
theorem wgS_le {C : Cmp} (hC : Gp C) (g : Nat) : ∀ i, i ≤ caN C → wgS C g i ≤ 80 * i := by
  intro i
  induction i with
  | zero => intro _; exact Nat.le_refl _
  | succ i ih =>
    intro h
    have h1 := ih (by omega)
    have h2 := wtA_lt hC (p := i) (t := caGm C g) (by omega)
    show wgS C g i + (if bN (caGs C g) i = 1 then wtA C i (caGm C g) else 0) ≤ 80 * (i + 1)
    split <;> omega
theorem c_weightOfGo {S : CS} {C : Cmp} (hS : RC S C) (hC : Good C) {g : Nat} (hg : g < caG C) : f_X1_weightOfGo_3 S (nI g) = some (nI (wgS C g (caN C))) := by
  have hn := hC.p.n
  have hgg := hC.g
  obtain ⟨g1, g2⟩ := hC.gs hg
  have hpw := pw_le hn
  unfold f_X1_weightOfGo_3
  have h := lp_seq (b := fun q => b_X1_weightOfGo_3_4 S (nI g) q.1 q.2) (caN C) (fun i => (nI (wgS C g i), nI i)) (nI (wgS C g (caN C))) ?_ ?_ (F := FU) (FU_gt (by omega))
  · rw [show ((0 : Int32), (0 : Int32)) = (nI (wgS C g 0), nI 0) from rfl, h]
    rfl
  · intro i hi
    have hb := bN_lt (caGs C g) i
    show b_X1_weightOfGo_3_4 S (nI g) (nI (wgS C g i)) (nI i) = some (Sum.inl (nI (wgS C g i + (if bN (caGs C g) i = 1 then wtA C i (caGm C g) else 0)), nI (i + 1)))
    unfold b_X1_weightOfGo_3_4
    rw [hS.q.n, i_le (by omega) (by omega), if_neg (by omega), q_rd (by omega) (by decide), Option.bind_some, (hS.gs hg).2, c_hasPorterIn (by omega) (by omega), Option.bind_some, q_rd (by omega) (by decide), Option.bind_some, (hS.gs hg).1]
    simp only [Option.bind_some]
    rw [c_weightOf hS.q hC.p hi (by omega)]
    simp only [Option.bind_some, nI_1, nI_add]
    by_cases h9 : bN (caGs C g) i = 1
    · rw [if_pos h9, if_neg (c := nI (bN (caGs C g) i) = 0) (nI_ne0 (by omega) (by omega))]
    · rw [if_neg h9, if_pos (c := nI (bN (caGs C g) i) = 0) (by rw [show bN (caGs C g) i = 0 from by omega]; rfl), Nat.add_zero (wgS C g i)]
  · show b_X1_weightOfGo_3_4 S (nI g) (nI (wgS C g (caN C))) (nI (caN C)) = _
    unfold b_X1_weightOfGo_3_4
    rw [hS.q.n, if_pos (nI_le (Nat.le_refl _) (by omega))]
theorem r_weightOfGo {M : MS} {C : Cmp} (hM : RM M C) (hC : Good C) {g acc : Nat} (hg : g < caG C) : lp (fun s => b_X11_ropes_48 M (nI g) s.1 s.2) FU (nI acc, 0) = some (nI (acc + wgS C g (caN C))) := by
  have hn := hC.p.n
  have hgg := hC.g
  obtain ⟨g1, g2⟩ := hC.gs hg
  have hpw := pw_le hn
  refine lp_seq (b := fun q => b_X11_ropes_48 M (nI g) q.1 q.2) (caN C) (fun i => (nI (acc + wgS C g i), nI i)) (nI (acc + wgS C g (caN C))) ?_ ?_ (F := FU) (FU_gt (by omega))
  · intro i hi
    have hb := bN_lt (caGs C g) i
    have hbit : (nI (caGs C g) >>> (nI i &&& 31)) &&& 1 = nI (bN (caGs C g) i) := q_bit (by omega) (by omega)
    have e1 : (28 + 2 * nI g : Int32) = nI (28 + 2 * g) := by rw [ln28, ln2, pk_mul, nI_add]
    have e2 : (28 + 2 * nI g + 1 : Int32) = nI (28 + 2 * g + 1) := by rw [e1, nI_1]
    show b_X11_ropes_48 M (nI g) (nI (acc + wgS C g i)) (nI i) = some (Sum.inl (nI (acc + (wgS C g i + (if bN (caGs C g) i = 1 then wtA C i (caGm C g) else 0))), nI (i + 1)))
    unfold b_X11_ropes_48
    rw [r_porters hM.q, Option.bind_some, i_le (by omega) (by omega), if_neg (by omega), e2, q_rd (by omega) (by decide), Option.bind_some, (hM.gs hg).2, hbit, e1, q_rd (by omega) (by decide), Option.bind_some, (hM.gs hg).1, r_weightOf hM.q hC.p hi (by omega)]
    simp only [Option.bind_some, nI_1, nI_add]
    by_cases h9 : bN (caGs C g) i = 1
    · rw [if_pos h9, if_pos (c := nI (bN (caGs C g) i) = 1) (by rw [h9]; rfl), Nat.add_assoc]
    · rw [if_neg h9, if_neg (c := nI (bN (caGs C g) i) = 1) (by rw [show bN (caGs C g) i = 0 from by omega]; decide), Nat.add_zero (wgS C g i), Int32.add_zero]
  · show b_X11_ropes_48 M (nI g) (nI (acc + wgS C g (caN C))) (nI (caN C)) = _
    unfold b_X11_ropes_48
    rw [r_porters hM.q, Option.bind_some, if_pos (nI_le (Nat.le_refl _) (by omega))]
theorem p_ropes : ag_ropes Rel := by
  intro S M h p0
  have h0 := h
  obtain ⟨C, hR⟩ := h
  have hG := hR.1
  have hC := hR.2.1
  have hM := hR.2.2.1
  have hgg := hG.g
  have hn6 := hG.p.n
  unfold f_X10_ropes_0 f_X11_ropes
  rw [r_in (a := 1) (b := 30000) (by rfl) (by rfl) (by decide) (by decide), Option.bind_some]
  rcases tri p0 with hp | ⟨lim, hlim, rfl⟩
  · rw [if_pos (c := p0 < 1) (by
      rw [Int32.lt_iff_toInt_lt] at hp ⊢
      have e1 : (0 : Int32).toInt = 0 := rfl
      have e2 : (1 : Int32).toInt = 1 := rfl
      omega), oneI_f (okR_n (a := 1) hp (by decide)), if_pos (c := nI 0 = 0) rfl]
    exact ag_bad h0 _
  · by_cases hn1 : lim < 1
    · rw [if_pos (c := nI lim < 1) (by rw [ln1]; exact nI_lt hn1 (by decide)), oneI_f (c := okR (nI lim) 1 30000) (fun h9 => by have := ((okR_j hlim (by decide)).mp h9).1; omega), if_pos (c := nI 0 = 0) rfl]
      exact ag_bad h0 _
    · rw [if_neg (c := nI lim < 1) (by rw [ln1]; exact nI_nlt (by omega) (by omega))]
      by_cases hn2 : lim ≤ 30000
      · rw [if_pos (c := nI lim ≤ 30000) (nI_le (b := 30000) hn2 (by decide)), oneI_t ((okR_j hlim (by decide)).mpr ⟨by omega, by omega⟩), if_neg (c := nI 1 = 0) (by decide)]
        have hlp := lp_sim (b := fun s => b_X10_ropes_0_23 S (nI lim) s.1 s.2) (b' := fun s => b_X11_ropes_23 M (nI lim) s.1 s.2) (fun n s s' => ∃ acc y, n = 99 - y ∧ y ≤ 99 ∧ acc ≤ 30000 ∧ s = (nI acc, nI y) ∧ s' = (nI acc, nI y)) (fun r r' => ∃ v, r = (v, S) ∧ r' = (v, M)) ?_ FU FU 99 (0, 0) (0, 0) ⟨0, 0, rfl, by decide, by decide, rfl, rfl⟩ (FU_gt (by decide)) (FU_gt (by decide))
        · obtain ⟨r, r', e1, e2, v, rfl, rfl⟩ := hlp
          rw [e1, e2]
          exact ⟨v, S, M, rfl, rfl, C, hR⟩
        · rintro n s s' ⟨acc, y, hn, hy, hacc, rfl, rfl⟩
          show (∃ r r', b_X10_ropes_0_23 S (nI lim) (nI acc) (nI y) = _ ∧ b_X11_ropes_23 M (nI lim) (nI acc) (nI y) = _ ∧ _) ∨ (∃ t1 t2 m, m < n ∧ b_X10_ropes_0_23 S (nI lim) (nI acc) (nI y) = _ ∧ b_X11_ropes_23 M (nI lim) (nI acc) (nI y) = _ ∧ _)
          unfold b_X10_ropes_0_23 b_X11_ropes_23
          rw [ln99, i_le (by omega) (by omega), i_le (by omega) (by omega)]
          by_cases hy9 : 99 ≤ y
          · rw [if_pos hy9, if_pos hy9]
            exact Or.inl ⟨_, _, rfl, rfl, -1, rfl, rfl⟩
          · rw [if_neg hy9, if_neg hy9]
            have hli := lp_sim (b := fun s => b_X10_ropes_0_32 S (nI lim) (nI y) s.1 s.2) (b' := fun s => b_X11_ropes_32 M (nI lim) (nI y) s.1 s.2) (fun n s s' => ∃ acc g, n = caG C - g ∧ g ≤ caG C ∧ acc ≤ 30000 ∧ s = (nI acc, nI g) ∧ s' = (nI acc, nI g)) (fun r r' => (∃ acc, acc ≤ 30000 ∧ r = Sum.inl (nI acc, nI (y + 1)) ∧ r' = Sum.inl (nI acc, nI (y + 1))) ∨ ∃ v, r = Sum.inr (v, S) ∧ r' = Sum.inr (v, M)) ?_ FU FU (caG C) (nI acc, 0) (nI acc, 0) ⟨acc, 0, rfl, Nat.zero_le _, hacc, rfl, rfl⟩ (FU_gt (by omega)) (FU_gt (by omega))
            · obtain ⟨r, r', e1, e2, hh⟩ := hli
              rcases hh with ⟨acc2, ha2, rfl, rfl⟩ | ⟨v, rfl, rfl⟩
              · exact Or.inr ⟨_, _, 99 - (y + 1), by omega, e1, e2, acc2, y + 1, rfl, by omega, ha2, rfl, rfl⟩
              · exact Or.inl ⟨_, _, e1, e2, v, rfl, rfl⟩
            · rintro n s s' ⟨acc, g, hn, hg, hacc, rfl, rfl⟩
              show (∃ r r', b_X10_ropes_0_32 S (nI lim) (nI y) (nI acc) (nI g) = _ ∧ b_X11_ropes_32 M (nI lim) (nI y) (nI acc) (nI g) = _ ∧ _) ∨ (∃ t1 t2 m, m < n ∧ b_X10_ropes_0_32 S (nI lim) (nI y) (nI acc) (nI g) = _ ∧ b_X11_ropes_32 M (nI lim) (nI y) (nI acc) (nI g) = _ ∧ _)
              unfold b_X10_ropes_0_32 b_X11_ropes_32
              rw [hC.g, ln275, q_rd (by decide) (by decide), hM.g]
              simp only [Option.bind_some]
              rw [i_le (by omega) (by omega), i_le (by omega) (by omega)]
              by_cases hgg2 : caG C ≤ g
              · rw [if_pos hgg2, if_pos hgg2, nI_1]
                exact Or.inl ⟨_, _, rfl, rfl, Or.inl ⟨acc, hacc, rfl, rfl⟩⟩
              · have hwl := wgS_le hG.p g (caN C) (Nat.le_refl _)
                rw [if_neg hgg2, if_neg hgg2, c_weightOfGo hC hG (by omega), r_weightOfGo hM hG (by omega)]
                unfold k_X11_ropes_48
                simp only [Option.bind_some, nI_add]
                rw [i_le (by omega) (by omega), i_le (by omega) (by omega)]
                by_cases hle : acc + wgS C g (caN C) ≤ lim
                · rw [if_pos hle, if_pos hle, nI_1]
                  exact Or.inr ⟨_, _, caG C - (g + 1), by omega, rfl, rfl, acc + wgS C g (caN C), g + 1, rfl, by omega, by omega, rfl, rfl⟩
                · rw [if_neg hle, if_neg hle]
                  exact Or.inl ⟨_, _, rfl, rfl, Or.inr ⟨_, rfl, rfl⟩⟩
      · rw [if_neg (c := nI lim ≤ 30000) (nI_ge (b := lim) (a := 30000) (by omega) (by omega)), oneI_f (c := okR (nI lim) 1 30000) (fun h9 => hn2 ((okR_j hlim (by decide)).mp h9).2), if_pos (c := nI 0 = 0) rfl]
        exact ag_bad h0 _
