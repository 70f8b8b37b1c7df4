/-! calls: loads told, numbers of all, the day judged, bands -/
def cLod (C : Cmp) (w : Nat) : Cmp := (C.1, C.2.1, C.2.2.1, C.2.2.2.1, C.2.2.2.2.1, (caLn C + 1, fun k => if k = caLn C then w else caLd C k))
def cLod0 (C : Cmp) : Cmp := (C.1, C.2.1, C.2.2.1, C.2.2.2.1, C.2.2.2.2.1, (0, C.2.2.2.2.2.2))
theorem p_load : ag_load Rel := by
  intro S M h p0
  have h0 := h
  obtain ⟨C, hG, hC, hM, hI, hSt, hP, hL⟩ := h
  have hn5 := hG.ln
  unfold f_X10_load_0 f_X11_load
  rw [r_in (a := 1) (b := 20) (by rfl) (by rfl) (by decide) (by decide), Option.bind_some]
  rcases tri p0 with hp | ⟨n, hn, rfl⟩
  · rw [if_pos (c := p0 < 1) (by
      rw [Int32.lt_iff_toInt_lt] at hp ⊢
      have e1 : (0 : Int32).toInt = 0 := rfl
      have e2 : (1 : Int32).toInt = 1 := rfl
      omega), oneI_f (okR_n (a := 1) hp (by decide)), if_pos (c := nI 0 = 0) rfl]
    exact ag_bad h0 _
  · rw [ln20, i_le (a := n) (b := 20) (by omega) (by omega)]
    by_cases hn1 : n < 1
    · rw [if_pos (c := nI n < 1) (by rw [ln1]; exact nI_lt hn1 (by decide)), oneI_f (c := okR (nI n) 1 20) (fun h9 => by have := ((okR_j hn (by decide)).mp h9).1; omega), if_pos (c := nI 0 = 0) rfl]
      exact ag_bad h0 _
    · rw [if_neg (c := nI n < 1) (by rw [ln1]; exact nI_nlt (by omega) (by omega))]
      by_cases hn20 : n ≤ 20
      · rw [if_pos hn20, oneI_t ((okR_j hn (by decide)).mpr ⟨by omega, by omega⟩), if_neg (c := nI 1 = 0) (by decide), hC.ln, ln5, i_lt (by omega) (by omega), ln276, q_rd (by decide) (by decide), Option.bind_some, hM.ln, i_eq (by omega) (by omega)]
        by_cases h5 : caLn C < 5
        · rw [if_pos h5, if_neg (c := caLn C = 5) (by omega), show f_X10_changed_0 S = some (siI (siI S 4300 (fun _ => 0)) 5000 (fun _ => 0)) from rfl, Option.bind_some]
          unfold f_X1_addLoad_3
          have hc2 : (siI (siI S 4300 (fun _ => 0)) 5000 (fun _ => 0)).1 1309 0 = nI (caLn C) := hC.ln
          rw [hc2, ln5, i_le (by omega) (by omega), if_neg (c := 5 ≤ caLn C) (by omega), q_wrI h5 (by decide), Option.bind_some, Option.bind_some, Option.bind_some]
          have hc3 : (siI (siI (siI S 4300 (fun _ => 0)) 5000 (fun _ => 0)) 9 (upd ((siI (siI S 4300 (fun _ => 0)) 5000 (fun _ => 0)).1 9) (caLn C) (nI n))).1 1309 0 = nI (caLn C) := hC.ln
          rw [hc3, nI_1, ln68, nI_add, q_wrM (by omega) (by decide), Option.bind_some, q_rd (by decide) (by decide), Option.bind_some, up_s, pk_un (by omega), hM.ln, nI_1, q_wrM (by decide) (by decide), Option.bind_some]
          have hs1 : (siI (siI (siI (siI S 4300 (fun _ => 0)) 5000 (fun _ => 0)) 9 (upd ((siI (siI S 4300 (fun _ => 0)) 5000 (fun _ => 0)).1 9) (caLn C) (nI n))) 1309 (fun _ => nI (caLn C + 1))).1 1309 0 - 1 = nI (caLn C) := nI_pred _
          refine ⟨nI (caLn C), _, _, congrArg some (Prod.ext hs1 rfl), rfl, cLod C n, ⟨hG.1, hG.2.1, hG.2.2.1, hG.2.2.2.1, (show caLn C + 1 ≤ 5 by omega), fun k hk => ?_⟩, ⟨hC.1, hC.2.1, hC.2.2.1, hC.2.2.2.1, hC.2.2.2.2.1, rfl, fun k hk => ?_⟩, ?_, hI, hSt, Or.inl rfl, Or.inl rfl⟩
          · have hk : k < caLn C + 1 := hk
            show 1 ≤ (if k = caLn C then n else caLd C k) ∧ (if k = caLn C then n else caLd C k) ≤ 20
            by_cases h9 : k = caLn C
            · rw [if_pos h9]; omega
            · rw [if_neg h9]; exact hG.ld (by omega)
          · have hk : k < caLn C + 1 := hk
            show upd (S.1 9) (caLn C) (nI n) k = nI (if k = caLn C then n else caLd C k)
            by_cases h9 : k = caLn C
            · rw [if_pos h9, h9, pk_us]
            · rw [if_neg h9, pk_un h9]; exact hC.ld (by omega)
          · show RMx (upd (upd (M 0) (68 + caLn C) (nI n)) 276 (nI (caLn C + 1))) (cLod C n)
            have hpn := hG.p.n
            have hgg := hG.g
            have hll := hG.l
            have hm1 : RMx (upd (M 0) (68 + caLn C) (nI n)) C := RMx.un hM _ (by omega) (by omega) (by omega) (by omega) (by omega)
            have hv : upd (M 0) (68 + caLn C) (nI n) (68 + caLn C) = nI n := pk_us
            generalize upd (M 0) (68 + caLn C) (nI n) = m1 at hm1 hv
            obtain ⟨⟨g1, g2, g3⟩, g4, g5, g6, g7, g8, g9⟩ := hm1
            refine ⟨⟨?_, fun p hp => ?_, fun i hi => ?_⟩, ?_, fun g hg => ?_, ?_, fun j hj => ?_, ?_, fun j hj => ?_⟩
            · rw [pk_un (by omega)]; exact g1
            · have hp : p < caN C := hp
              rw [pk_un (by omega), pk_un (by omega), pk_un (by omega), pk_un (by omega)]; exact g2 p hp
            · rw [pk_un (by omega)]; exact g3 i hi
            · rw [pk_un (by omega)]; exact g4
            · have hg : g < caG C := hg
              rw [pk_un (by omega), pk_un (by omega)]; exact g5 g hg
            · rw [pk_un (by omega)]; exact g6
            · have hj : j < caL C := hj
              rw [pk_un (by omega)]; exact g7 j hj
            · rw [pk_us]; rfl
            · have hj : j < caLn C + 1 := hj
              rw [pk_un (by omega)]
              show m1 (68 + j) = nI (if j = caLn C then n else caLd C j)
              by_cases h9 : j = caLn C
              · rw [if_pos h9, h9]; exact hv
              · rw [if_neg h9]; exact g9 j (by omega)
        · rw [if_neg h5, if_pos (c := caLn C = 5) (by omega)]
          exact ag_full h0
      · rw [if_neg hn20, oneI_f (c := okR (nI n) 1 20) (fun h9 => hn20 ((okR_j hn (by decide)).mp h9).2), if_pos (c := nI 0 = 0) rfl]
        exact ag_bad h0 _
theorem p_unload : ag_unload Rel := by
  intro S M h
  obtain ⟨C, hG, hC, hM, hI, hSt, hP, hL⟩ := h
  unfold f_X10_unload_0 f_X11_unload
  rw [Option.bind_some, hC.ln, show f_X10_changed_0 S = some (siI (siI S 4300 (fun _ => 0)) 5000 (fun _ => 0)) from rfl, Option.bind_some, Option.bind_some, ln276, q_rd (by decide) (by decide), Option.bind_some, hM.ln, q_wrM (by decide) (by decide), Option.bind_some]
  refine ⟨_, _, _, rfl, rfl, cLod0 C, ⟨hG.1, hG.2.1, hG.2.2.1, hG.2.2.2.1, Nat.zero_le _, fun k hk => absurd hk (Nat.not_lt_zero k)⟩, ⟨hC.1, hC.2.1, hC.2.2.1, hC.2.2.2.1, hC.2.2.2.2.1, rfl, fun k hk => absurd hk (Nat.not_lt_zero k)⟩, ?_, hI, hSt, Or.inl rfl, Or.inl rfl⟩
  obtain ⟨⟨g1, g2, g3⟩, g4, g5, g6, g7, g8, g9⟩ := hM
  have hn := hG.p.n
  have hgg := hG.g
  have hll := hG.l
  show RMx (upd (M 0) 276 0) (cLod0 C)
  refine ⟨⟨?_, fun p hp => ?_, fun i hi => ?_⟩, ?_, fun g hg => ?_, ?_, fun j hj => ?_, ?_, fun j hj => absurd hj (Nat.not_lt_zero j)⟩
  · rw [pk_un (by omega)]; exact g1
  · have hp : p < caN C := hp
    rw [pk_un (by omega), pk_un (by omega), pk_un (by omega), pk_un (by omega)]; exact g2 p hp
  · rw [pk_un (by omega)]; exact g3 i hi
  · rw [pk_un (by omega)]; exact g4
  · have hg : g < caG C := hg
    rw [pk_un (by omega), pk_un (by omega)]; exact g5 g hg
  · rw [pk_un (by omega)]; exact g6
  · have hj : j < caL C := hj
    rw [pk_un (by omega)]; exact g7 j hj
  · rw [pk_us]; rfl
theorem p_status : ag_status Rel := by
  intro S M h p0
  have h0 := h
  obtain ⟨C, hG, hC, hM, hI, hSt, hP, hL⟩ := h
  unfold f_X10_status_0 f_X11_status
  rw [r_in (a := 0) (b := 2) (by rfl) (by rfl) (by decide) (by decide), Option.bind_some]
  have no : ¬ okR p0 0 2 → ∃ r S' M', (if p0 = 0 then some (S.1 1006 0, S) else if p0 = 1 then some (S.1 1007 0, S) else if p0 = 2 then some (S.1 1008 0, S) else bi2 (f_X10_bad_0 S (-1)) (fun r4 S5 => some (r4, S5))) = some (r, S') ∧ bi2 (f_X11_bad M (-1)) (fun r2 M3 => some (r2, M3)) = some (r, M') ∧ Rel S' M' := by
    intro hno
    rw [if_neg (c := p0 = 0) (fun h9 => hno ⟨0, by decide, by decide, h9⟩), if_neg (c := p0 = 1) (fun h9 => hno ⟨1, by decide, by decide, h9⟩), if_neg (c := p0 = 2) (fun h9 => hno ⟨2, by decide, by decide, h9⟩)]
    exact ag_bad h0 _
  by_cases hk : okR p0 0 2
  · rw [oneI_t hk, if_neg (c := nI 1 = 0) (by decide)]
    obtain ⟨j, _, j2, rfl⟩ := hk
    rw [q_rd (by omega) (by decide), Option.bind_some, ln0, ln1, ln2, i_eq (by omega) (by omega), i_eq (by omega) (by omega), i_eq (by omega) (by omega)]
    rcases (show j = 0 ∨ j = 1 ∨ j = 2 from by omega) with rfl | rfl | rfl
    · exact ⟨_, _, _, rfl, congrArg (fun z => some (z, M)) hSt.1.symm, h0⟩
    · exact ⟨_, _, _, rfl, congrArg (fun z => some (z, M)) hSt.2.1.symm, h0⟩
    · exact ⟨_, _, _, rfl, congrArg (fun z => some (z, M)) hSt.2.2.symm, h0⟩
  · rw [oneI_f hk, if_pos (c := nI 0 = 0) rfl]
    exact no hk
theorem r_counted {M : MS} {C : Cmp} (hM : RM M C) {j : Nat} (hj : j < 4) : f_X11_counted M (nI j) = some (nI (if j = 0 then caN C else if j = 1 then caG C else if j = 2 then caL C else caLn C)) := by
  unfold f_X11_counted
  rcases (show j = 0 ∨ j = 1 ∨ j = 2 ∨ j = 3 from by omega) with rfl | rfl | rfl | rfl
  · rw [if_neg (by decide), if_neg (by decide), show (274 + nI 0 : Int32) = nI 274 from rfl, q_rd (by decide) (by decide), Option.bind_some]
    exact congrArg some hM.q.n
  · rw [if_neg (by decide), if_neg (by decide), show (274 + nI 1 : Int32) = nI 275 from rfl, q_rd (by decide) (by decide), Option.bind_some]
    exact congrArg some hM.g
  · rw [if_pos (by decide), r_textLong hM]
    rfl
  · rw [if_neg (by decide), if_pos (by decide), ln276, q_rd (by decide) (by decide), Option.bind_some, hM.ln]
    rfl
theorem p_count : ag_count Rel := by
  intro S M h p0
  have h0 := h
  obtain ⟨C, hG, hC, hM, hI, hSt, hP, hL⟩ := h
  unfold f_X10_count_0 f_X11_count
  rw [r_in (a := 0) (b := 3) (by rfl) (by rfl) (by decide) (by decide), Option.bind_some]
  have no : ¬ okR p0 0 3 → ∃ r S' M', (if p0 = 0 then some (S.1 1306 0, S) else if p0 = 1 then some (S.1 1307 0, S) else if p0 = 2 then some (S.1 1308 0, S) else if p0 = 3 then some (S.1 1309 0, S) else bi2 (f_X10_bad_0 S (-2)) (fun r4 S5 => some (r4, S5))) = some (r, S') ∧ bi2 (f_X11_bad M (-2)) (fun r2 M3 => some (r2, M3)) = some (r, M') ∧ Rel S' M' := by
    intro hno
    rw [if_neg (c := p0 = 0) (fun h9 => hno ⟨0, by decide, by decide, h9⟩), if_neg (c := p0 = 1) (fun h9 => hno ⟨1, by decide, by decide, h9⟩), if_neg (c := p0 = 2) (fun h9 => hno ⟨2, by decide, by decide, h9⟩), if_neg (c := p0 = 3) (fun h9 => hno ⟨3, by decide, by decide, h9⟩)]
    exact ag_bad h0 _
  by_cases hk : okR p0 0 3
  · rw [oneI_t hk, if_neg (c := nI 1 = 0) (by decide)]
    obtain ⟨j, _, j2, rfl⟩ := hk
    rw [r_counted hM (by omega), Option.bind_some, ln0, ln1, ln2, ln3, i_eq (by omega) (by omega), i_eq (by omega) (by omega), i_eq (by omega) (by omega), i_eq (by omega) (by omega)]
    rcases (show j = 0 ∨ j = 1 ∨ j = 2 ∨ j = 3 from by omega) with rfl | rfl | rfl | rfl
    · exact ⟨_, _, _, congrArg (fun z => some (z, S)) hC.q.n, rfl, h0⟩
    · exact ⟨_, _, _, congrArg (fun z => some (z, S)) hC.g, rfl, h0⟩
    · exact ⟨_, _, _, congrArg (fun z => some (z, S)) hC.l, rfl, h0⟩
    · exact ⟨_, _, _, congrArg (fun z => some (z, S)) hC.ln, rfl, h0⟩
  · rw [oneI_f hk, if_pos (c := nI 0 = 0) rfl]
    exact no hk
theorem p_judged : ag_judged Rel := by
  intro S M h
  obtain ⟨C, hR⟩ := h
  obtain ⟨v, sd, e, hj⟩ := c_firstNoGo hR.2.1 hR.1
  obtain ⟨w, M', sd', e', hk, _, hj'⟩ := r_judge hR.2.2.1 hR.1
  have hu := (hj.uniq hj').1
  unfold f_X10_judged_0 f_X11_judged
  rw [e, Option.bind_some, e', q_bi2, ← hu]
  exact ⟨v, S, M', ⟨rfl, rfl⟩, rfl, C, hR.m hk⟩
theorem p_there : ag_there Rel := by
  intro S M h
  obtain ⟨C, hR⟩ := h
  obtain ⟨v, sd, e, hj⟩ := c_there hR.2.1 hR.1
  obtain ⟨w, M', sd', e', hk, h13, hj'⟩ := r_judge hR.2.2.1 hR.1
  have hu := (hj.uniq hj').2
  unfold f_X11_there
  rw [e, e', q_bi2, h13, ← hu]
  exact ⟨nI sd, S, M', ⟨rfl, rfl⟩, rfl, C, hR.m hk⟩
theorem p_turns : ag_turns Rel := by
  intro S M h p0 p1
  have h0 := h
  obtain ⟨C, hR⟩ := h
  have hG := hR.1.p
  have hC := hR.2.1.q
  have hM := hR.2.2.1.q
  have hpw := pw_le hG.n
  have hp1 := Nat.one_le_two_pow (n := caN C)
  unfold f_X10_turns_0 f_X11_turns
  rw [c_hasS hC hG, Option.bind_some, r_isBand hM hG, Option.bind_some]
  by_cases k0 : okR p0 0 (2 ^ caN C - 1)
  · rw [oneI_t k0, if_neg (c := nI 1 = 0) (by decide), if_neg (c := nI 1 = 0) (by decide), c_hasS hC hG, Option.bind_some, r_isBand hM hG, Option.bind_some]
    by_cases k1 : okR p1 0 (2 ^ caN C - 1)
    · rw [oneI_t k1, if_neg (c := nI 1 = 0) (by decide), if_neg (c := nI 1 = 0) (by decide)]
      obtain ⟨a, _, a2, rfl⟩ := k0
      obtain ⟨b, _, b2, rfl⟩ := k1
      by_cases k2 : nI a &&& nI b = 0
      · rw [if_pos k2, if_pos k2]
        obtain ⟨v, e1, q1⟩ := c_turns hC hG (b := a) (by omega)
        obtain ⟨w, e2, q2⟩ := c_turns hC hG (b := b) (by omega)
        obtain ⟨M1, f1, n1, n2⟩ := r_carryNothing M
        have hM1 := n1.q (by decide) hM
        obtain ⟨v', M2, f2, g1, g2⟩ := r_turnsOf hM1 hG n2 (b := a) (by omega)
        have hM2 : RMp M2 C := by unfold RMp; rw [g1 0 (by decide) (by decide)]; exact hM1
        have hz2 : Z4 M2 := by unfold Z4; rw [g1 4 (by decide) (by decide)]; exact n2
        obtain ⟨w', M3, f3, g3, g4⟩ := r_turnsOf hM2 hG hz2 (b := b) (by omega)
        have hkp : ∀ j, j < 4 → M3 j = M j := fun j hj => by rw [g3 j (by omega) (by omega), g1 j (by omega) (by omega), n1 j (by omega)]
        rw [e1, Option.bind_some, e2, Option.bind_some, f1, Option.bind_some, f2, q_bi2, f3, q_bi2]
        have hr := hR.m hkp
        unfold j_X10_turns_0_67
        rcases q1 with ⟨rfl, q1⟩ | ⟨k, hk, rfl, q1⟩
        · rcases g2 with ⟨rfl, _⟩ | ⟨k', _, _, g2⟩
          · rcases q2 with ⟨rfl, q2⟩ | ⟨l, hl, rfl, q2⟩
            · rcases g4 with ⟨rfl, _⟩ | ⟨l', _, _, g4⟩
              · exact ⟨0, S, M3, rfl, rfl, C, hr⟩
              · exact absurd g4.1 (q2 _)
            · rcases g4 with ⟨_, g4⟩ | ⟨l', hl', rfl, g4⟩
              · exact absurd q2.1 (g4 _)
              · obtain rfl := q2.uniq g4
                have e9 : ¬ nI l = -1 := fun h9 => m1_ne (by omega) h9.symm
                rw [if_pos (by rfl), if_neg e9, if_neg e9, if_pos (by rfl), if_pos (by rfl), ln1000000, if_neg (fun h9 => by have := (nI_eq (by omega) (by omega)).mp h9; omega), i_lt (by omega) (by omega), if_pos (by omega)]
                exact ⟨2, S, M3, rfl, rfl, C, hr⟩
          · exact absurd g2.1 (q1 _)
        · rcases g2 with ⟨_, g2⟩ | ⟨k', hk', rfl, g2⟩
          · exact absurd q1.1 (g2 _)
          · obtain rfl := q1.uniq g2
            have e8 : ¬ nI k = -1 := fun h9 => m1_ne (by omega) h9.symm
            rw [if_neg e8, if_neg e8, ln1000000, if_neg (c := nI k = nI 1000000) (fun h9 => by have := (nI_eq (by omega) (by omega)).mp h9; omega)]
            rcases q2 with ⟨rfl, q2⟩ | ⟨l, hl, rfl, q2⟩
            · rcases g4 with ⟨rfl, _⟩ | ⟨l', _, _, g4⟩
              · rw [if_pos (by rfl), i_lt (by omega) (by omega), if_neg (by omega)]
                exact ⟨1, S, M3, rfl, rfl, C, hr⟩
              · exact absurd g4.1 (q2 _)
            · rcases g4 with ⟨_, g4⟩ | ⟨l', hl', rfl, g4⟩
              · exact absurd q2.1 (g4 _)
              · obtain rfl := q2.uniq g4
                have e9 : ¬ nI l = -1 := fun h9 => m1_ne (by omega) h9.symm
                rw [if_neg e9, i_lt (by omega) (by omega), i_lt (by omega) (by omega)]
                by_cases h9 : l < k
                · rw [if_pos h9, if_pos h9]
                  exact ⟨2, S, M3, rfl, rfl, C, hr⟩
                · rw [if_neg h9, if_neg h9]
                  exact ⟨1, S, M3, rfl, rfl, C, hr⟩
      · rw [if_neg k2, if_neg k2]
        exact ag_bad h0 _
    · rw [oneI_f k1, if_pos (c := nI 0 = 0) rfl, if_pos (c := nI 0 = 0) rfl]
      exact ag_bad h0 _
  · rw [oneI_f k0, if_pos (c := nI 0 = 0) rfl, if_pos (c := nI 0 = 0) rfl]
    exact ag_bad h0 _
