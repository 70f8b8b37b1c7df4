/-! calls: what is told of porters, texts, loads, numbers -/
theorem p_of : ag_of Rel := by
  intro S M h p0 p1 p2
  have h0 := h
  obtain ⟨C, hG, hC, hM, hI, hSt, hP, hL⟩ := h
  have hn := hG.p.n
  unfold f_X10_of_0 f_X11_of
  rw [c_hasP hC.q hG.p, Option.bind_some, r_isPorter hM.q hG.p, Option.bind_some]
  by_cases k0 : ∃ j, j < caN C ∧ p0 = nI j
  · rw [oneI_t k0, if_neg (c := nI 1 = 0) (by decide), if_neg (c := nI 1 = 0) (by decide), c_isMin, Option.bind_some, r_in (a := 0) (b := 239) (by rfl) (by rfl) (by decide) (by decide), Option.bind_some]
    by_cases k1 : okR p1 0 239
    · rw [oneI_t k1, if_neg (c := nI 1 = 0) (by decide), if_neg (c := nI 1 = 0) (by decide), r_in (a := 0) (b := 1) (by rfl) (by rfl) (by decide) (by decide), Option.bind_some]
      obtain ⟨p, p1, rfl⟩ := k0
      obtain ⟨t, t1, t2, rfl⟩ := k1
      rcases tri p2 with hp | ⟨w, hw, rfl⟩
      · rw [if_pos hp, oneI_f (okR_n hp (by decide)), if_pos (c := nI 0 = 0) rfl]
        exact ag_bad h0 _
      · rw [if_neg (nI_pos (by omega)), ln1, i_le (by omega) (by omega), ln0, i_eq (by omega) (by omega)]
        by_cases hw1 : w ≤ 1
        · rw [if_pos hw1, oneI_t ((okR_j hw (by decide)).mpr ⟨by omega, by omega⟩), if_neg (c := nI 1 = nI 0) (by decide), c_weightOf hC.q hG.p p1 (by omega), Option.bind_some, c_p hC.q hG.p p1, Option.bind_some, c_minutes hG.p p1, Option.bind_some, r_weightOf hM.q hG.p p1 (by omega), Option.bind_some, r_timeOf hM.q hG.p p1, Option.bind_some, i_eq (by omega) (by omega)]
          by_cases hw0 : w = 0
          · rw [if_pos hw0, if_pos hw0]
            exact ⟨_, _, _, rfl, rfl, h0⟩
          · rw [if_neg hw0, if_neg hw0]
            exact ⟨_, _, _, rfl, rfl, h0⟩
        · rw [if_neg hw1, oneI_f (fun h9 => hw1 ((okR_j hw (by decide)).mp h9).2), if_pos (c := nI 0 = nI 0) rfl]
          exact ag_bad h0 _
    · rw [oneI_f k1, if_pos (c := nI 0 = 0) rfl, if_pos (c := nI 0 = 0) rfl]
      exact ag_bad h0 _
  · rw [oneI_f k0, if_pos (c := nI 0 = 0) rfl, if_pos (c := nI 0 = 0) rfl]
    exact ag_bad h0 _
theorem p_why : ag_why Rel := by
  intro S M h p0 p1
  have h0 := h
  obtain ⟨C, hR⟩ := h
  have hR0 := hR
  obtain ⟨hG, hC, hM, hI, hSt, hP, hL⟩ := hR
  have hpw := pw_le hG.p.n
  have hp1 := Nat.one_le_two_pow (n := caN C)
  unfold f_X10_why_0 f_X11_why
  rw [r_all hM.q hG.p, Option.bind_some, r_in (a := 1) (b := 2 ^ caN C - 1) (by rfl) (by rfl) (by decide) (by omega), Option.bind_some, c_hasS hC.q hG.p, Option.bind_some, c_isMin, Option.bind_some, r_in (a := 0) (b := 239) (by rfl) (by rfl) (by decide) (by decide), Option.bind_some]
  rcases tri p0 with hp | ⟨x, hx, rfl⟩
  · rw [if_pos (c := p0 < 1) (by
      rw [Int32.lt_iff_toInt_lt] at hp ⊢
      have e1 : (0 : Int32).toInt = 0 := rfl
      have e2 : (1 : Int32).toInt = 1 := rfl
      omega), oneI_f (okR_n (a := 1) hp (by omega)), if_pos (c := nI 0 = 0) rfl]
    exact ag_bad h0 _
  · rw [ln1, i_lt (by omega) (by omega)]
    by_cases hx1 : x < 1
    · rw [if_pos hx1, oneI_f (c := okR (nI x) 1 (2 ^ caN C - 1)) (fun h9 => by have := ((okR_j hx (by omega)).mp h9).1; omega), if_pos (c := nI 0 = 0) rfl]
      exact ag_bad h0 _
    · rw [if_neg hx1, oneI_c (show okR (nI x) 0 (2 ^ caN C - 1) ↔ okR (nI x) 1 (2 ^ caN C - 1) from by rw [okR_j hx (by omega), okR_j hx (by omega)]; omega)]
      by_cases k0 : okR (nI x) 1 (2 ^ caN C - 1)
      · rw [oneI_t k0, if_neg (c := nI 1 = 0) (by decide), if_neg (c := nI 1 = 0) (by decide)]
        have hxl : x < 2 ^ caN C := by have := ((okR_j hx (by omega)).mp k0).2; omega
        by_cases k1 : okR p1 0 239
        · rw [oneI_t k1, if_neg (c := nI 1 = 0) (by decide), if_neg (c := nI 1 = 0) (by decide)]
          obtain ⟨t, t1, t2, rfl⟩ := k1
          obtain ⟨M1, e1, q1, q2⟩ := r_carryNothing M
          rw [c_isNight hC.q hG.p (by omega), Option.bind_some, c_whyNot hC.q hG.p hxl (by omega) (ntA_lt _ _), Option.bind_some, e1, Option.bind_some, r_whyNot (q1.q (by decide) hM.q) hG.p q2 hxl (by omega), Option.bind_some]
          exact ⟨_, _, _, rfl, rfl, C, hR0.m (fun j hj => q1 j (by omega))⟩
        · rw [oneI_f k1, if_pos (c := nI 0 = 0) rfl, if_pos (c := nI 0 = 0) rfl]
          exact ag_bad h0 _
      · rw [oneI_f k0, if_pos (c := nI 0 = 0) rfl, if_pos (c := nI 0 = 0) rfl]
        exact ag_bad h0 _
/-! texts -/
def cTxt (C : Cmp) (x : Int32) : Cmp := (C.1, C.2.1, C.2.2.1, C.2.2.2.1, (caL C + 1, fun k => if k = caL C then x else caX C k), C.2.2.2.2.2)
def cLen0 (C : Cmp) : Cmp := (C.1, C.2.1, C.2.2.1, C.2.2.2.1, (0, C.2.2.2.2.1.2), C.2.2.2.2.2)
theorem r_textLong {M : MS} {C : Cmp} (hM : RM M C) : f_X11_textLong M = some (nI (caL C)) := by
  unfold f_X11_textLong
  rw [ln73, q_rd (by decide) (by decide), Option.bind_some, hM.l]
theorem q_byte (v : Int64) (k : UInt64) : Int64.toInt32 ((Int64.toUInt64 v >>> k).toInt64) &&& 255 = Int64.toInt32 ((Int64.toUInt64 v >>> k).toInt64 &&& 255) := by
  generalize (Int64.toUInt64 v >>> k).toInt64 = x
  apply Int32.toBitVec_inj.mp
  rw [Int32.toBitVec_and, Int64.toBitVec_toInt32, Int64.toBitVec_toInt32, Int64.toBitVec_and, BitVec.signExtend_and]
  rfl
theorem addByte_rel {S : CS} {M : MS} {C : Cmp} (h : RelC S M C) (hl : caL C < 200) (x : Int32) : f_X1_addByte_3 S x = some (siI (siI S 8 (upd (S.1 8) (caL C) x)) 1308 (fun _ => nI (caL C) + 1)) ∧ RelC (siI (siI S 8 (upd (S.1 8) (caL C) x)) 1308 (fun _ => nI (caL C) + 1)) (va_up M 0 (upd (upd (M 0) (74 + caL C) x) 73 (nI (caL C) + 1))) (cTxt C x) := by
  obtain ⟨hG, hC, hM, hI, hSt, hP, hL⟩ := h
  constructor
  · unfold f_X1_addByte_3
    rw [hC.l, ln200, i_le (by omega) (by omega), if_neg (by omega), q_wrI hl (by decide), Option.bind_some, Option.bind_some]
    have e : (siI S 8 (upd (S.1 8) (caL C) x)).1 1308 0 = nI (caL C) := hC.l
    rw [e]
  · have hm1 : RMx (upd (M 0) (74 + caL C) x) C := by
      have := hG.ln
      have := hG.p.n
      have := hG.g
      exact RMx.un hM _ (by omega) (by omega) (by omega) (by omega) (by omega)
    refine ⟨⟨hG.1, hG.2.1, hG.2.2.1, (show caL C + 1 ≤ 200 by omega), hG.2.2.2.2⟩, ⟨hC.1, hC.2.1, hC.2.2.1, nI_1 _, fun k hk => ?_, hC.2.2.2.2.2⟩, ?_, hI, hSt, hP, hL⟩
    · have hk : k < caL C + 1 := hk
      show upd (S.1 8) (caL C) x k = (if k = caL C then x else caX C k)
      by_cases h9 : k = caL C
      · rw [if_pos h9, h9, pk_us]
      · rw [if_neg h9, pk_un h9]; exact hC.x (by omega)
    · show RMx (upd (upd (M 0) (74 + caL C) x) 73 (nI (caL C) + 1)) (cTxt C x)
      have hv : upd (M 0) (74 + caL C) x (74 + caL C) = x := pk_us
      generalize upd (M 0) (74 + caL C) x = m1 at hm1 hv
      obtain ⟨⟨g1, g2, g3⟩, g4, g5, g6, g7, g8, g9⟩ := hm1
      have hn := hG.p.n
      have hgg := hG.g
      have hgn := hG.ln
      refine ⟨⟨?_, fun p hp => ?_, fun i hi => ?_⟩, ?_, fun g hg => ?_, ?_, fun j hj => ?_, ?_, fun j hj => ?_⟩
      · rw [pk_un (by omega)]; exact g1
      · have hp : p < caN C := hp
        rw [pk_un (by omega), pk_un (by omega), pk_un (by omega), pk_un (by omega)]; exact g2 p hp
      · rw [pk_un (by omega)]; exact g3 i hi
      · rw [pk_un (by omega)]; exact g4
      · have hg : g < caG C := hg
        rw [pk_un (by omega), pk_un (by omega)]; exact g5 g hg
      · rw [pk_us, nI_1]; rfl
      · have hj : j < caL C + 1 := hj
        rw [pk_un (by omega)]
        show m1 (74 + j) = (if j = caL C then x else caX C j)
        by_cases h9 : j = caL C
        · rw [if_pos h9, h9]; exact hv
        · rw [if_neg h9]; exact g7 j (by omega)
      · rw [pk_un (by omega)]; exact g8
      · have hj : j < caLn C := hj
        rw [pk_un (by omega)]; exact g9 j hj
theorem p_type : ag_type Rel := by
  intro S M h p0 p1
  have h0 := h
  obtain ⟨C, hR⟩ := h
  have hR0 := hR
  obtain ⟨hG, hC, hM, hI, hSt, hP, hL⟩ := hR
  have hll := hG.l
  unfold f_X10_type_0 f_X11_type
  rw [r_in (a := 1) (b := 8) (by rfl) (by rfl) (by decide) (by decide)]
  simp only [Option.bind_some]
  rcases tri p1 with hp | ⟨n, hn, rfl⟩
  · rw [if_pos (c := p1 < 1) (by
      rw [Int32.lt_iff_toInt_lt] at hp ⊢
      have e1 : (0 : Int32).toInt = 0 := rfl
      have e2 : (1 : Int32).toInt = 1 := rfl
      omega), oneI_f (okR_n (a := 1) hp (by decide)), if_pos (c := nI 0 = 0) rfl]
    exact ag_bad h0 _
  · rw [ln8, i_le (a := n) (b := 8) (by omega) (by omega)]
    by_cases hn1 : n < 1
    · rw [if_pos (c := nI n < 1) (by rw [ln1]; exact nI_lt hn1 (by decide)), oneI_f (c := okR (nI n) 1 8) (fun h9 => by have := ((okR_j hn (by decide)).mp h9).1; omega), if_pos (c := nI 0 = 0) rfl]
      exact ag_bad h0 _
    · rw [if_neg (c := nI n < 1) (by rw [ln1]; exact nI_nlt (by omega) (by omega))]
      by_cases hn8 : n ≤ 8
      · rw [if_pos hn8, oneI_t ((okR_j hn (by decide)).mpr ⟨by omega, by omega⟩), if_neg (c := nI 1 = 0) (by decide), r_textLong hM, Option.bind_some, hC.l, nI_add, ln200, i_le (a := caL C + n) (b := 200) (by omega) (by omega), i_le (a := caL C + n) (b := 200) (by omega) (by omega)]
        by_cases h2 : caL C + n ≤ 200
        · rw [if_pos h2, if_pos h2]
          have hlp := lp_sim (b := fun s => b_X10_type_0_43 p0 s.1 s.2) (b' := fun s => b_X11_type_41 p0 s.1 s.2) (fun i s s' => s.1 = nI i - 1 ∧ s'.1 = nI i - 1 ∧ ∃ C', RelC s.2 s'.2 C' ∧ caL C' + i ≤ 200) (fun r r' => Rel r r') ?_ FU FU n (nI n - 1, S) (nI n - 1, M) ⟨rfl, rfl, C, hR0, h2⟩ (FU_gt (by omega)) (FU_gt (by omega))
          · obtain ⟨S', M', e1, e2, hr⟩ := hlp
            rw [e1, Option.bind_some, e2, Option.bind_some]
            obtain ⟨C', hr'⟩ := hr
            refine ⟨nI (caL C'), S', M', ?_, ?_, C', hr'⟩
            · unfold k_X10_type_0_43
              rw [hr'.2.1.l]
            · unfold k_X11_type_41
              rw [r_textLong hr'.2.2.1, Option.bind_some]
          · rintro i ⟨s1, s2⟩ ⟨t1, t2⟩ ⟨e1, e2, C', hr, hc⟩
            have e1 : s1 = nI i - 1 := e1
            have e2 : t1 = nI i - 1 := e2
            have hr2 : RelC s2 t2 C' := hr
            clear hr
            subst e1 e2
            cases i with
            | zero =>
              refine Or.inl ⟨s2, t2, ?_, ?_, C', hr2⟩
              · show b_X10_type_0_43 p0 (nI 0 - 1) s2 = _
                unfold b_X10_type_0_43
                rw [if_pos (by decide)]
              · show b_X11_type_41 p0 (nI 0 - 1) t2 = _
                unfold b_X11_type_41
                rw [if_pos (by decide)]
            | succ i =>
              have hl' : caL C' < 200 := by omega
              rw [nI_pred]
              obtain ⟨bx, ebx⟩ : ∃ bx, bx = Int64.toInt32 ((Int64.toUInt64 p0 >>> ((Int32.toInt64 (8 * nI i)).toUInt64 &&& Int64.toUInt64 63)).toInt64) &&& 255 := ⟨_, rfl⟩
              obtain ⟨a1, a2⟩ := addByte_rel hr2 hl' bx
              refine Or.inr ⟨(nI i - 1, siI (siI s2 8 (upd (s2.1 8) (caL C') bx)) 1308 (fun _ => nI (caL C') + 1)), (nI i - 1, va_up t2 0 (upd (upd (t2 0) (74 + caL C') bx) 73 (nI (caL C') + 1))), i, by omega, ?_, ?_, rfl, rfl, cTxt C' bx, a2, ?_⟩
              · show b_X10_type_0_43 p0 (nI i) s2 = _
                unfold b_X10_type_0_43
                rw [← ebx, if_neg (nI_pos (by omega)), a1, Option.bind_some, Option.bind_some, Int32.sub_eq_add_neg]
              · show b_X11_type_41 p0 (nI i) t2 = _
                unfold b_X11_type_41
                rw [← q_byte, ← ebx, if_neg (nI_pos (by omega)), r_textLong hr2.2.2.1, Option.bind_some, ln74, nI_add, q_wrM (by omega) (by decide), Option.bind_some, ln73, q_rd (by decide) (by decide), Option.bind_some, up_s, pk_un (by omega), hr2.2.2.1.l, q_wrM (by decide) (by decide), Option.bind_some, Option.bind_some, Int32.sub_eq_add_neg]
                have e9 : ∀ x y : Int32, va_up (va_up t2 0 (upd (t2 0) (74 + caL C') x)) 0 (upd (va_up t2 0 (upd (t2 0) (74 + caL C') x) 0) 73 y) = va_up t2 0 (upd (upd (t2 0) (74 + caL C') x) 73 y) := by
                  intro x y
                  funext j
                  unfold va_up
                  by_cases hj : j = 0
                  · rw [if_pos hj, if_pos hj]; rfl
                  · rw [if_neg hj, if_neg hj, if_neg hj]
                rw [e9]
              · show caL C' + 1 + i ≤ 200
                omega
        · rw [if_neg h2, if_neg h2]
          exact ag_full h0
      · rw [if_neg hn8, oneI_f (c := okR (nI n) 1 8) (fun h9 => hn8 ((okR_j hn (by decide)).mp h9).2), if_pos (c := nI 0 = 0) rfl]
        exact ag_bad h0 _
theorem p_clear : ag_clear Rel := by
  intro S M h
  obtain ⟨C, hG, hC, hM, hI, hSt, hP, hL⟩ := h
  unfold f_X10_clear_0 f_X11_clear
  rw [Option.bind_some, Option.bind_some, r_textLong hM, Option.bind_some, hC.l, ln73, q_wrM (by decide) (by decide), Option.bind_some]
  refine ⟨_, _, _, rfl, rfl, cLen0 C, ⟨hG.1, hG.2.1, hG.2.2.1, Nat.zero_le _, hG.2.2.2.2⟩, ⟨hC.1, hC.2.1, hC.2.2.1, rfl, fun k hk => absurd hk (Nat.not_lt_zero k), hC.2.2.2.2.2⟩, ?_, hI, hSt, hP, hL⟩
  obtain ⟨⟨g1, g2, g3⟩, g4, g5, g6, g7, g8, g9⟩ := hM
  have hn := hG.p.n
  have hgg := hG.g
  have hgn := hG.ln
  refine ⟨⟨?_, fun p hp => ?_, fun i hi => ?_⟩, ?_, fun g hg => ?_, ?_, fun j hj => absurd hj (Nat.not_lt_zero j), ?_, fun j hj => ?_⟩
  · show upd (M 0) 73 0 274 = _
    rw [pk_un (by omega)]; exact g1
  · have hp : p < caN C := hp
    show upd (M 0) 73 0 (4 * p) = _ ∧ upd (M 0) 73 0 (4 * p + 1) = _ ∧ upd (M 0) 73 0 (4 * p + 2) = _ ∧ upd (M 0) 73 0 (4 * p + 3) = _
    rw [pk_un (by omega), pk_un (by omega), pk_un (by omega), pk_un (by omega)]; exact g2 p hp
  · show upd (M 0) 73 0 (24 + i) = _
    rw [pk_un (by omega)]; exact g3 i hi
  · show upd (M 0) 73 0 275 = _
    rw [pk_un (by omega)]; exact g4
  · have hg : g < caG C := hg
    show upd (M 0) 73 0 (28 + 2 * g) = _ ∧ upd (M 0) 73 0 (28 + 2 * g + 1) = _
    rw [pk_un (by omega), pk_un (by omega)]; exact g5 g hg
  · show upd (M 0) 73 0 73 = _
    rw [pk_us]; rfl
  · show upd (M 0) 73 0 276 = _
    rw [pk_un (by omega)]; exact g8
  · have hj : j < caLn C := hj
    show upd (M 0) 73 0 (68 + j) = _
    rw [pk_un (by omega)]; exact g9 j hj
