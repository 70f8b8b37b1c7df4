/-! calls, one by one: porters and days -/
theorem q_ssI3 : ∀ i, i < 4 → ssI 3 i = nI (mostU i) := by decide +kernel
theorem q_mostU : ∀ i, i < 4 → mostU i ≤ 240 := by decide +kernel
theorem r_mostOf {i : Nat} (hi : i < 4) : f_X11_mostOf (nI i) = some (nI (mostU i)) := by
  unfold f_X11_mostOf mostU
  rw [ln1, i_eq (by omega) (by omega), ln3, i_eq (by omega) (by omega)]
  repeat' split
  all_goals rfl
theorem RMx.un {m : Nat → Int32} {C : Cmp} (h : RMx m C) {k : Nat} (x : Int32) (h1 : 4 * caN C ≤ k) (h2 : k < 24 ∨ 28 + 2 * caG C ≤ k) (h3 : k < 68 ∨ 68 + caLn C ≤ k) (h4 : k < 73 ∨ 74 + caL C ≤ k) (h5 : k < 274) : RMx (upd m k x) C := by
  obtain ⟨⟨g1, g2, g3⟩, g4, g5, g6, g7, g8, g9⟩ := h
  refine ⟨⟨?_, fun p hp => ?_, fun i hi => ?_⟩, ?_, fun g hg => ?_, ?_, fun j hj => ?_, ?_, fun j hj => ?_⟩
  · rw [pk_un (by omega)]; exact g1
  · rw [pk_un (by omega), pk_un (by omega), pk_un (by omega), pk_un (by omega)]; exact g2 p hp
  · rw [pk_un (by omega)]; exact g3 i hi
  · rw [pk_un (by omega)]; exact g4
  · rw [pk_un (by omega), pk_un (by omega)]; exact g5 g hg
  · rw [pk_un (by omega)]; exact g6
  · rw [pk_un (by omega)]; exact g7 j hj
  · rw [pk_un (by omega)]; exact g8
  · rw [pk_un (by omega)]; exact g9 j hj
def cNum (C : Cmp) (w v : Nat) : Cmp := (C.1, C.2.1, (fun i => if i = w then v else C.2.2.1 i), C.2.2.2)
theorem p_put : ag_put Rel := by
  intro S M h p0 p1
  have h0 := h
  obtain ⟨C, hG, hC, hM, hI, hSt, hP, hL⟩ := h
  unfold f_X10_put_0 f_X11_put
  rcases tri p0 with hp | ⟨w, hw, rfl⟩
  · rw [if_pos hp, r_in (a := 0) (b := 3) (by rfl) (by rfl) (by decide) (by decide), Option.bind_some, oneI_f (okR_n hp (by decide)), if_pos (by rfl)]
    exact ag_bad h0 _
  · rw [if_neg (nI_pos (by omega)), r_in (a := 0) (b := 3) (by rfl) (by rfl) (by decide) (by decide), Option.bind_some, ln4, i_le (by omega) (by omega)]
    by_cases hw4 : w < 4
    · have hmu := q_mostU w hw4
      rw [if_neg (c := 4 ≤ w) (by omega), oneI_t ((okR_j hw (by decide)).mpr ⟨by omega, by omega⟩), if_neg (c := nI 1 = 0) (by decide), r_mostOf hw4, Option.bind_some, q_rd hw4 (by decide), Option.bind_some, q_ssI3 w hw4, r_in (a := 0) (b := mostU w) (by rfl) (by rfl) (by decide) (by omega), Option.bind_some]
      rcases tri p1 with hp | ⟨v, hv, rfl⟩
      · rw [if_pos hp, oneI_f (okR_n hp (by omega)), if_pos (by rfl)]
        exact ag_bad h0 _
      · rw [if_neg (nI_pos (by omega)), i_le (by omega) (by omega)]
        by_cases hvm : v ≤ mostU w
        · rw [if_pos hvm, oneI_t ((okR_j hv (by omega)).mpr ⟨by omega, hvm⟩), if_neg (c := nI 1 = 0) (by decide), c_u hC.q hw4, Option.bind_some, r_number hM.q hw4, Option.bind_some, show f_X10_changed_0 S = some (siI (siI S 4300 (fun _ => 0)) 5000 (fun _ => 0)) from rfl, Option.bind_some, q_wrI hw4 (by decide), Option.bind_some, ln24, nI_add, q_wrM (by omega) (by decide), Option.bind_some]
          refine ⟨_, _, _, rfl, rfl, cNum C w v, ⟨⟨hG.1.1, hG.1.2.1, fun i hi => ?_⟩, hG.2⟩, ⟨⟨hC.1.1, hC.1.2.1, fun i hi => ?_⟩, hC.2⟩, ?_, hI, hSt, Or.inl rfl, Or.inl rfl⟩
          · show (if i = w then v else C.2.2.1 i) ≤ mostU i
            by_cases h9 : i = w
            · rw [if_pos h9, h9]; exact hvm
            · rw [if_neg h9]; exact hG.1.2.2 i hi
          · show upd (S.1 5) w (nI v) i = nI (if i = w then v else C.2.2.1 i)
            by_cases h9 : i = w
            · rw [if_pos h9, h9, pk_us]
            · rw [if_neg h9, pk_un h9]; exact hC.1.2.2 i hi
          · obtain ⟨⟨g1, g2, g3⟩, g4, g5, g6, g7, g8, g9⟩ := hM
            have hn := hG.1.1
            have hg := hG.g
            have hl := hG.ln
            refine ⟨⟨?_, fun p hp => ?_, fun i hi => ?_⟩, ?_, fun g hg => ?_, ?_, fun j hj => ?_, ?_, fun j hj => ?_⟩
            · show upd (M 0) (24 + w) (nI v) 274 = _
              rw [pk_un (by omega)]; exact g1
            · have hp : p < caN C := hp
              show upd (M 0) (24 + w) (nI v) (4 * p) = _ ∧ upd (M 0) (24 + w) (nI v) (4 * p + 1) = _ ∧ upd (M 0) (24 + w) (nI v) (4 * p + 2) = _ ∧ upd (M 0) (24 + w) (nI v) (4 * p + 3) = _
              rw [pk_un (by omega), pk_un (by omega), pk_un (by omega), pk_un (by omega)]; exact g2 p hp
            · show upd (M 0) (24 + w) (nI v) (24 + i) = nI (if i = w then v else C.2.2.1 i)
              by_cases h9 : i = w
              · rw [if_pos h9, h9, pk_us]
              · rw [if_neg h9, pk_un (by omega)]; exact g3 i hi
            · show upd (M 0) (24 + w) (nI v) 275 = _
              rw [pk_un (by omega)]; exact g4
            · show upd (M 0) (24 + w) (nI v) (28 + 2 * g) = _ ∧ upd (M 0) (24 + w) (nI v) (28 + 2 * g + 1) = _
              rw [pk_un (by omega), pk_un (by omega)]; exact g5 g hg
            · show upd (M 0) (24 + w) (nI v) 73 = _
              rw [pk_un (by omega)]; exact g6
            · show upd (M 0) (24 + w) (nI v) (74 + j) = _
              rw [pk_un (by omega)]; exact g7 j hj
            · show upd (M 0) (24 + w) (nI v) 276 = _
              rw [pk_un (by omega)]; exact g8
            · show upd (M 0) (24 + w) (nI v) (68 + j) = _
              rw [pk_un (by omega)]; exact g9 j hj
        · rw [if_neg hvm, oneI_f (fun h9 => hvm ((okR_j hv (by omega)).mp h9).2), if_pos (by rfl)]
          exact ag_bad h0 _
    · rw [if_pos (c := 4 ≤ w) (by omega), oneI_f (fun h9 => by have := ((okR_j hw (by decide)).mp h9).2; omega), if_pos (by rfl)]
      exact ag_bad h0 _
/-! porter -/
theorem c_fits {x : Int32} {k lo hi : Nat} (hk : k < 4) (h4 : ssI 4 k = nI lo) (h5 : ssI 5 k = nI hi) (hl : lo < 2147483648) (hh : hi < 2147483648) : f_X10_fitsPorter (nI k) x = some (nI (oneI (okR x lo hi))) := by
  unfold f_X10_fitsPorter
  rw [q_rd hk (by decide), Option.bind_some, h4, q_rd hk (by decide), Option.bind_some, h5]
  rcases tri x with h | ⟨j, hj, rfl⟩
  · rw [oneI_f (okR_n h hh), if_pos]
    · rfl
    · rw [Int32.lt_iff_toInt_lt] at h ⊢
      rw [nI_toInt (by omega)]
      have e2 : (0 : Int32).toInt = 0 := rfl
      omega
  · rw [i_lt (by omega) (by omega), i_lt (by omega) (by omega)]
    by_cases h1 : j < lo
    · rw [if_pos h1, oneI_f (fun h9 => by have := ((okR_j hj hh).mp h9).1; omega)]
      rfl
    · rw [if_neg h1]
      by_cases h2 : hi < j
      · rw [if_pos h2, oneI_f (fun h9 => by have := ((okR_j hj hh).mp h9).2; omega)]
        rfl
      · rw [if_neg h2, oneI_t ((okR_j hj hh).mpr ⟨by omega, by omega⟩)]
        rfl
def cPor (C : Cmp) (d : Nat × Nat × Nat × Nat) : Cmp := (C.1 + 1, (fun p => if p = C.1 then d else C.2.1 p), C.2.2)
theorem p_porter : ag_porter Rel := by
  intro S M h p0 p1 p2 p3
  have h0 := h
  obtain ⟨C, hG, hC, hM, hI, hSt, hP, hL⟩ := h
  have hn := hG.p.n
  unfold f_X10_porter_0 f_X11_porter f_X11_isTold
  have e0 := c_fits (x := p0) (k := 0) (lo := 1) (hi := 60) (by decide) (by decide) (by decide) (by decide) (by decide)
  have e1 := c_fits (x := p1) (k := 1) (lo := 1) (hi := 30) (by decide) (by decide) (by decide) (by decide) (by decide)
  have e2 := c_fits (x := p2) (k := 2) (lo := 0) (hi := 99) (by decide) (by decide) (by decide) (by decide) (by decide)
  have e3 := c_fits (x := p3) (k := 3) (lo := 0) (hi := 5) (by decide) (by decide) (by decide) (by decide) (by decide)
  have e0 : f_X10_fitsPorter 0 p0 = some (nI (oneI (okR p0 1 60))) := e0
  have e1 : f_X10_fitsPorter 1 p1 = some (nI (oneI (okR p1 1 30))) := e1
  have e2 : f_X10_fitsPorter 2 p2 = some (nI (oneI (okR p2 0 99))) := e2
  have e3 : f_X10_fitsPorter 3 p3 = some (nI (oneI (okR p3 0 5))) := e3
  have r0 : f_X11_in (Int32.toInt64 p0) 1 60 = some (nI (oneI (okR p0 1 60))) := r_in (by rfl) (by rfl) (by decide) (by decide)
  have r1 : f_X11_in (Int32.toInt64 p1) 1 30 = some (nI (oneI (okR p1 1 30))) := r_in (by rfl) (by rfl) (by decide) (by decide)
  have r2 : f_X11_in (Int32.toInt64 p2) 0 99 = some (nI (oneI (okR p2 0 99))) := r_in (by rfl) (by rfl) (by decide) (by decide)
  have r3 : f_X11_in (Int32.toInt64 p3) 0 5 = some (nI (oneI (okR p3 0 5))) := r_in (by rfl) (by rfl) (by decide) (by decide)
  rw [e0, e1, e2, e3, r0, r1, r2, r3]
  simp only [Option.bind_some]
  by_cases k0 : okR p0 1 60
  · rw [oneI_t k0, if_neg (c := nI 1 = 0) (by decide), if_neg (c := nI 1 = 0) (by decide)]
    by_cases k1 : okR p1 1 30
    · rw [oneI_t k1, if_neg (c := nI 1 = 0) (by decide), if_neg (c := nI 1 = 0) (by decide)]
      by_cases k2 : okR p2 0 99
      · rw [oneI_t k2, if_neg (c := nI 1 = 0) (by decide), if_neg (c := nI 1 = 0) (by decide)]
        by_cases k3 : okR p3 0 5
        · rw [oneI_t k3, if_neg (c := nI 1 = 0) (by decide), if_neg (c := nI 1 = 0) (by decide)]
          obtain ⟨a, a1, a2, rfl⟩ := k0
          obtain ⟨b, b1, b2, rfl⟩ := k1
          obtain ⟨c, c1, c2, rfl⟩ := k2
          obtain ⟨d, d1, d2, rfl⟩ := k3
          rw [Option.bind_some, if_neg (c := (1 : Int32) = 0) (by decide), r_porters hM.q, Option.bind_some, hC.q.n, ln6, i_lt (by omega) (by omega), i_eq (by omega) (by omega)]
          by_cases h6 : caN C < 6
          · rw [if_pos h6, if_neg (c := caN C = 6) (by omega), show f_X10_changed_0 S = some (siI (siI S 4300 (fun _ => 0)) 5000 (fun _ => 0)) from rfl, Option.bind_some]
            unfold f_X1_addPorter_3_d
            have hc2 : (siI (siI S 4300 (fun _ => 0)) 5000 (fun _ => 0)).1 1306 0 = nI (caN C) := hC.q.n
            rw [hc2, ln6, i_le (by omega) (by omega), if_neg (c := 6 ≤ caN C) (by omega), q_wrP h6, Option.bind_some, Option.bind_some, Option.bind_some]
            rw [ln0, ln4, pk_mul, nI_add, Nat.zero_add, q_wrM (by omega) (by decide), Option.bind_some, ln1, nI_add, q_wrM (by omega) (by decide), Option.bind_some, ln2, nI_add, q_wrM (by omega) (by decide), Option.bind_some, ln3, nI_add, q_wrM (by omega) (by decide), Option.bind_some, ln274, q_rd (by omega) (by decide), Option.bind_some]
            obtain ⟨m1, em1⟩ : ∃ m1, m1 = upd (upd (upd (upd (M 0) (4 * caN C) (nI a)) (4 * caN C + 1) (nI b)) (4 * caN C + 2) (nI c)) (4 * caN C + 3) (nI d) := ⟨_, rfl⟩
            have hm1 : RMx m1 C := by
              rw [em1]
              exact (((RMx.un hM _ (by omega) (by omega) (by omega) (by omega) (by omega)).un _ (by omega) (by omega) (by omega) (by omega) (by omega)).un _ (by omega) (by omega) (by omega) (by omega) (by omega)).un _ (by omega) (by omega) (by omega) (by omega) (by omega)
            have hv : m1 (4 * caN C) = nI a ∧ m1 (4 * caN C + 1) = nI b ∧ m1 (4 * caN C + 2) = nI c ∧ m1 (4 * caN C + 3) = nI d := by
              rw [em1]
              refine ⟨?_, ?_, ?_, ?_⟩
              · rw [pk_un (by omega), pk_un (by omega), pk_un (by omega), pk_us]
              · rw [pk_un (by omega), pk_un (by omega), pk_us]
              · rw [pk_un (by omega), pk_us]
              · rw [pk_us]
            have hM8 : va_up (va_up (va_up (va_up M 0 (upd (M 0) (4 * caN C) (nI a))) 0 (upd (va_up M 0 (upd (M 0) (4 * caN C) (nI a)) 0) (4 * caN C + 1) (nI b))) 0 (upd (va_up (va_up M 0 (upd (M 0) (4 * caN C) (nI a))) 0 (upd (va_up M 0 (upd (M 0) (4 * caN C) (nI a)) 0) (4 * caN C + 1) (nI b)) 0) (4 * caN C + 2) (nI c))) 0 (upd (va_up (va_up (va_up M 0 (upd (M 0) (4 * caN C) (nI a))) 0 (upd (va_up M 0 (upd (M 0) (4 * caN C) (nI a)) 0) (4 * caN C + 1) (nI b))) 0 (upd (va_up (va_up M 0 (upd (M 0) (4 * caN C) (nI a))) 0 (upd (va_up M 0 (upd (M 0) (4 * caN C) (nI a)) 0) (4 * caN C + 1) (nI b)) 0) (4 * caN C + 2) (nI c)) 0) (4 * caN C + 3) (nI d)) = va_up M 0 m1 := by
              rw [em1]
              funext j
              unfold va_up
              by_cases hj : j = 0
              · rw [if_pos hj, if_pos hj]; rfl
              · rw [if_neg hj, if_neg hj, if_neg hj, if_neg hj, if_neg hj]
            rw [hM8, q_wrM (by omega) (by decide), Option.bind_some]
            have hs1 : (siI (siP (siI (siI S 4300 (fun _ => 0)) 5000 (fun _ => 0)) 0 (va_up ((siI (siI S 4300 (fun _ => 0)) 5000 (fun _ => 0)).2.2 0) (caN C) (nI a, nI b, nI c, nI d))) 1306 (fun _ => (siP (siI (siI S 4300 (fun _ => 0)) 5000 (fun _ => 0)) 0 (va_up ((siI (siI S 4300 (fun _ => 0)) 5000 (fun _ => 0)).2.2 0) (caN C) (nI a, nI b, nI c, nI d))).1 1306 0 + 1)).1 1306 0 - 1 = nI (caN C) := by
              show S.1 1306 0 + 1 - 1 = nI (caN C)
              rw [hC.q.n, nI_1, nI_pred]
            refine ⟨nI (caN C), _, _, congrArg some (Prod.ext hs1 rfl), rfl, cPor C (a, b, c, d), ⟨⟨?_, fun p hp => ?_, hG.1.2.2⟩, hG.g, fun g hg => ?_, hG.2.2.2⟩, ⟨⟨?_, fun p hp => ?_, hC.1.2.2⟩, hC.2⟩, ?_, hI, hSt, Or.inl rfl, Or.inl rfl⟩
            · show caN C + 1 ≤ 6
              omega
            · show GoodP (if p = caN C then (a, b, c, d) else C.2.1 p)
              have hp : p < caN C + 1 := hp
              by_cases h9 : p = caN C
              · rw [if_pos h9]; exact ⟨⟨a1, a2⟩, ⟨b1, b2⟩, c2, d2⟩
              · rw [if_neg h9]; exact hG.1.2.1 p (by omega)
            · refine ⟨(hG.gs hg).1, ?_⟩
              show caGs C g < 2 ^ (caN C + 1)
              have := (hG.gs hg).2
              rw [Nat.pow_succ]
              omega
            · show S.1 1306 0 + 1 = nI (caN C + 1)
              rw [hC.q.n, nI_1]
            · have hp : p < caN C + 1 := hp
              show va_up (S.2.2 0) (caN C) (nI a, nI b, nI c, nI d) p = (nI (if p = caN C then (a, b, c, d) else C.2.1 p).1, nI (if p = caN C then (a, b, c, d) else C.2.1 p).2.1, nI (if p = caN C then (a, b, c, d) else C.2.1 p).2.2.1, nI (if p = caN C then (a, b, c, d) else C.2.1 p).2.2.2)
              by_cases h9 : p = caN C
              · rw [if_pos h9, h9, up_s]
              · rw [if_neg h9, up_n _ _ h9]; exact hC.1.2.1 p (by omega)
            · show RMx (upd m1 274 (m1 274 + 1)) (cPor C (a, b, c, d))
              obtain ⟨⟨g1, g2, g3⟩, g4, g5, g6, g7, g8, g9⟩ := hm1
              have hgg := hG.g
              have hgl := hG.l
              have hgn := hG.ln
              refine ⟨⟨?_, fun p hp => ?_, fun i hi => ?_⟩, ?_, fun g hg => ?_, ?_, fun j hj => ?_, ?_, fun j hj => ?_⟩
              · rw [pk_us, g1, nI_1]; rfl
              · have hp : p < caN C + 1 := hp
                rw [pk_un (by omega), pk_un (by omega), pk_un (by omega), pk_un (by omega)]
                show m1 (4 * p) = nI (if p = caN C then (a, b, c, d) else C.2.1 p).1 ∧ m1 (4 * p + 1) = nI (if p = caN C then (a, b, c, d) else C.2.1 p).2.1 ∧ m1 (4 * p + 2) = nI (if p = caN C then (a, b, c, d) else C.2.1 p).2.2.1 ∧ m1 (4 * p + 3) = nI (if p = caN C then (a, b, c, d) else C.2.1 p).2.2.2
                by_cases h9 : p = caN C
                · rw [if_pos h9, h9]; exact hv
                · rw [if_neg h9]; exact g2 p (by omega)
              · rw [pk_un (by omega)]; exact g3 i hi
              · rw [pk_un (by omega)]; exact g4
              · have hg : g < caG C := hg
                rw [pk_un (by omega), pk_un (by omega)]; exact g5 g hg
              · rw [pk_un (by omega)]; exact g6
              · have hj : j < caL C := hj
                rw [pk_un (by omega)]; exact g7 j hj
              · rw [pk_un (by omega)]; exact g8
              · have hj : j < caLn C := hj
                rw [pk_un (by omega)]; exact g9 j hj
          · rw [if_neg h6, if_pos (c := caN C = 6) (by omega)]
            exact ag_full h0
        · rw [oneI_f k3, if_pos (c := nI 0 = 0) rfl, if_pos (c := nI 0 = 0) rfl, Option.bind_some, if_pos (c := (0 : Int32) = 0) rfl]
          exact ag_bad h0 _
      · rw [oneI_f k2, if_pos (c := nI 0 = 0) rfl, if_pos (c := nI 0 = 0) rfl, Option.bind_some, if_pos (c := (0 : Int32) = 0) rfl]
        exact ag_bad h0 _
    · rw [oneI_f k1, if_pos (c := nI 0 = 0) rfl, if_pos (c := nI 0 = 0) rfl, Option.bind_some, if_pos (c := (0 : Int32) = 0) rfl]
      exact ag_bad h0 _
  · rw [oneI_f k0, if_pos (c := nI 0 = 0) rfl, if_pos (c := nI 0 = 0) rfl, Option.bind_some, if_pos (c := (0 : Int32) = 0) rfl]
    exact ag_bad h0 _
