def f_X10_image_0 (S : CS) (p0 : Int32) : Option (Int32 × CS) :=
  (if p0 < 0 then (bi2 (f_X10_bad_0 S (-2)) (fun r1 S2 => some ((r1, S2)))) else ((if p0 < 2 then ((if p0 = 0 then (Option.bind (f_X1_copy_10_3 S) (fun S3 => Option.bind (wrI S3 2 2 p0 (vp_nar .boolean 1)) (fun S4 => some ((1, S4))))) else (if p0 = 1 then (Option.bind (f_X1_copy_17_3 S) (fun S6 => Option.bind (wrI S6 2 2 p0 (vp_nar .boolean 1)) (fun S7 => some ((1, S7))))) else none))) else (bi2 (f_X10_bad_0 S (-2)) (fun r9 S10 => some ((r9, S10)))))))
def rmX10_image_0 : Room := { frames := 3, cells := 0, slots := 0, locals := 103 }
abbrev RRX10_image_0 : Room := (headSpec wsX10_image rmX10_image_0).room
theorem in10_X10_image_0 : ∀ w ∈ wsX100, w ∈ wsX10_image := by decide +kernel
set_option maxHeartbeats 4000000 in
set_option maxRecDepth 100000 in
theorem c_X10_image_0 (l : Launch) (dC : Nat → ClassId) (dI : Nat → Nat → Nat) (t : Nat → ClassId) (ts aK aV : Nat → Nat) (A : Nat → Prop) (h : Nat → Nat) (tx : Nat) (sz : Nat) (hA0 : ∀ q : Nat, sz ≤ q → A q) (S : CS) (p0 : Int32) (r : Int32) (S' : CS) (hf : f_X10_image_0 S p0 = some (r, S')) : cCi l yX10_image wsX10_image rmX10_image_0 dC dI t ts aK aV A h tx tx sz [.ref (h 0), .int p0] S r S' := by
  refine Met.ofW (cc := cX10_image) (maxL := 2) (ret := (some .int)) (by decide) rfl ?_
  intro p e s m args below meth c s₁ B hml hv
  obtain ⟨hargs, hsz, hE, hC, hK⟩ := hv
  have hx := B.exec
  have hb := B.bytes
  have hr := B.returns
  have hts := atoms_spec (ws := wsX10_image) B.pre
  have hown : s.vm.findClass RX10 = some m.cls := findClass_of_methodNamed B.named
  have hlocks := B.notSynchronized
  have hsz : s.heap.size = sz := hsz
  subst hsz
  have hin10 := in10_X10_image_0
  have lk10_10 : Cond.fieldLink RX10 10 (TX10 0).1 (TX10 0).2.1 (TX10 0).2.2.1 ∈ wsX10_image := by decide +kernel
  have lk16_10 : Cond.fieldLink RX10 16 (TX10 1).1 (TX10 1).2.1 (TX10 1).2.2.1 ∈ wsX10_image := by decide +kernel
  have lk20_10 : Cond.fieldLink RX10 20 (TX10 2).1 (TX10 2).2.1 (TX10 2).2.2.1 ∈ wsX10_image := by decide +kernel
  have hA : ∀ q : Nat, s.heap.size ≤ q → A q := hA0
  obtain ⟨g, LP, pf, hP, hD, hG⟩ := hC
  have hS : va_S A s.heap s.heap [] := va_S.rf
  have hl := lv_entry ([.ref (h 0), .int p0]) (n := 2) (Nat.le_of_ble_eq_true rfl)
  rw [show entryFrame m args 2 = entryFrame m ([.ref (h 0), .int p0] : List Value).toArray 2 from by rw [hargs], lg_entry_eq]
  generalize (lg_sl ([.ref (h 0), .int p0]) ++ List.replicate (2 - (lg_sl ([.ref (h 0), .int p0])).length) Slot.unset).toArray = ls at hl ⊢
  have hl : lv_has ls 2 [(0, .ref (h 0)), (1, .int p0)] := hl
  unfold f_X10_image_0 at hf
  refine lv_iload_n hx hb dX10_image_0 rfl (lv_at hl 1 rfl) ?_
  refine lv_if_lt (tgt := 9) hx hb dX10_image_1 (by decide) (fun c12 => ?_) (fun c12 => ?_)
  · have hf := (if_pos c12).symm.trans hf
    refine lv_aload_n hx hb dX10_image_9 rfl (lv_at hl 0 rfl) ?_
    refine lv_bipush (v := (-2)) hx hb dX10_image_10 (by decide) ?_
    obtain ⟨r1, S2, er1, hf⟩ := b2 hf
    refine klCi (rest := []) (As := [.int (-2)]) ⟨hx, hb, hml, hown, hts⟩ (c_X10_bad_0 l dC dI t ts aK aV A h tx s.heap.size (fun q hq => hA q (Nat.le_trans hS.1 hq)) S (-2) r1 S2 er1) (cwV 1 hts gX10_image_X10_bad rfl rfl rfl (by decide +kernel) ⟨Nat.le_of_ble_eq_true rfl, Nat.le_of_ble_eq_true rfl⟩) (va_recv hK hP (ci := 10) (q0 := 0) rfl rfl) rfl hl.1 rfl (Nat.le_of_ble_eq_true rfl) dX10_image_12 ⟨Nat.zero_le _, Nat.zero_le _⟩ hE hK ⟨g, LP, pf, hP, hD, hG⟩ hS (fun H locs hC hS => ?_)
    obtain ⟨g, LP, pf, hP, hD, hG⟩ := hC
    exact rtCi hx hb hr hlocks ⟨g, LP, pf, hP, hD, hG⟩ hS hf dX10_image_15
  · have hf := (if_neg c12).symm.trans hf
    refine lv_iload_n hx hb dX10_image_4 rfl (lv_at hl 1 rfl) ?_
    refine lv_iconst (v := 2) hx hb dX10_image_5 (by decide) ?_
    refine lv_icmp_lt (tgt := 16) hx hb dX10_image_6 (by decide) (fun c11 => ?_) (fun c11 => ?_)
    · have hf := (if_pos c11).symm.trans hf
      refine lv_aload_n hx hb dX10_image_16 rfl (lv_at hl 0 rfl) ?_
      refine va_get (D := (dC, dI)) (ci := 10) (v := .ref (h 1)) (C := RX10) (T := TX10) (N := 9) hx hb hts hin10 hown hK hP 0 rfl rfl 1 (by decide) (hts _ lk16_10) (fun _ h9 => h9) rfl dX10_image_17 ?_
      refine lv_iload_n hx hb dX10_image_20 rfl (lv_at hl 1 rfl) ?_
      by_cases c5 : p0 = 0
      · have hf := (if_pos c5).symm.trans hf
        refine va_aldq hx hb hK hP 1 3 rfl rfl (by rw [c5]; exact (by decide : ¬ ((0 : Int32) < 0 ∨ 2 ≤ (0 : Int32).toNatClampNeg))) dX10_image_21 (kR (a := h 10) (by rw [c5]; rfl) ?_)
        refine lv_aload_n hx hb dX10_image_22 rfl (lv_at hl 0 rfl) ?_
        refine va_get (D := (dC, dI)) (ci := 10) (v := .ref (h 3)) (C := RX10) (T := TX10) (N := 9) hx hb hts hin10 hown hK hP 0 rfl rfl 0 (by decide) (hts _ lk10_10) (fun _ h9 => h9) rfl dX10_image_23 ?_
        obtain ⟨S3, eS3, hf⟩ := bd hf
        refine klCv (rest := []) (As := [.ref (h 3)]) ⟨hx, hb, hml, hown, hts⟩ (c_X1_copy_10_3 l dC dI t ts aK aV A h tx s.heap.size (fun q hq => hA q (Nat.le_trans hS.1 hq)) S S3 eS3) (cwV 1 hts gX10_image_X1_copy rfl rfl rfl (by decide +kernel) ⟨Nat.le_of_ble_eq_true rfl, Nat.le_of_ble_eq_true rfl⟩) (va_recv hK hP (ci := 1) (q0 := 10) rfl rfl) rfl hl.1 rfl (Nat.le_of_ble_eq_true rfl) dX10_image_26 ⟨Nat.zero_le _, Nat.zero_le _⟩ hE hK ⟨g, LP, pf, hP, hD, hG⟩ hS (fun H locs hC hS => ?_)
        obtain ⟨g, LP, pf, hP, hD, hG⟩ := hC
        refine lv_aload_n hx hb dX10_image_29 rfl (lv_at hl 0 rfl) ?_
        refine va_get (D := (dC, dI)) (ci := 10) (v := .ref (h 2)) (C := RX10) (T := TX10) (N := 9) hx hb hts hin10 hown hK hP 0 rfl rfl 2 (by decide) (hts _ lk20_10) (fun _ h9 => h9) rfl dX10_image_30 ?_
        refine lv_iload_n hx hb dX10_image_33 rfl (lv_at hl 1 rfl) ?_
        refine lv_iconst (v := 1) hx hb dX10_image_34 (by decide) ?_
        obtain ⟨S4, hiS4, eS4, hf⟩ := wrI_b hf
        refine va_zast hx hb hK hP hD hS 2 1 rfl rfl hiS4 dX10_image_35 (fun H locs hP hD hS => ?_)
        have hP : va_P (dC, dI) vwCl (wC t h tx g S4 ++ va_pl LP pf) H := by rw [eS4]; exact hP
        have hD : va_D A (wC t h tx g S4 ++ va_pl LP pf) := by rw [eS4]; exact hD
        have hG : rlC g LP pf S4 := by rw [eS4]; exact hG
        refine lv_iconst (v := 1) hx hb dX10_image_36 (by decide) ?_
        exact rtCi hx hb hr hlocks ⟨g, LP, pf, hP, hD, hG⟩ hS hf dX10_image_37
      · have hf := (if_neg c5).symm.trans hf
        by_cases c8 : p0 = 1
        · have hf := (if_pos c8).symm.trans hf
          refine va_aldq hx hb hK hP 1 3 rfl rfl (by rw [c8]; exact (by decide : ¬ ((1 : Int32) < 0 ∨ 2 ≤ (1 : Int32).toNatClampNeg))) dX10_image_21 (kR (a := h 17) (by rw [c8]; rfl) ?_)
          refine lv_aload_n hx hb dX10_image_22 rfl (lv_at hl 0 rfl) ?_
          refine va_get (D := (dC, dI)) (ci := 10) (v := .ref (h 3)) (C := RX10) (T := TX10) (N := 9) hx hb hts hin10 hown hK hP 0 rfl rfl 0 (by decide) (hts _ lk10_10) (fun _ h9 => h9) rfl dX10_image_23 ?_
          obtain ⟨S6, eS6, hf⟩ := bd hf
          refine klCv (rest := []) (As := [.ref (h 3)]) ⟨hx, hb, hml, hown, hts⟩ (c_X1_copy_17_3 l dC dI t ts aK aV A h tx s.heap.size (fun q hq => hA q (Nat.le_trans hS.1 hq)) S S6 eS6) (cwV 1 hts gX10_image_X1_copy rfl rfl rfl (by decide +kernel) ⟨Nat.le_of_ble_eq_true rfl, Nat.le_of_ble_eq_true rfl⟩) (va_recv hK hP (ci := 1) (q0 := 17) rfl rfl) rfl hl.1 rfl (Nat.le_of_ble_eq_true rfl) dX10_image_26 ⟨Nat.zero_le _, Nat.zero_le _⟩ hE hK ⟨g, LP, pf, hP, hD, hG⟩ hS (fun H locs hC hS => ?_)
          obtain ⟨g, LP, pf, hP, hD, hG⟩ := hC
          refine lv_aload_n hx hb dX10_image_29 rfl (lv_at hl 0 rfl) ?_
          refine va_get (D := (dC, dI)) (ci := 10) (v := .ref (h 2)) (C := RX10) (T := TX10) (N := 9) hx hb hts hin10 hown hK hP 0 rfl rfl 2 (by decide) (hts _ lk20_10) (fun _ h9 => h9) rfl dX10_image_30 ?_
          refine lv_iload_n hx hb dX10_image_33 rfl (lv_at hl 1 rfl) ?_
          refine lv_iconst (v := 1) hx hb dX10_image_34 (by decide) ?_
          obtain ⟨S7, hiS7, eS7, hf⟩ := wrI_b hf
          refine va_zast hx hb hK hP hD hS 2 1 rfl rfl hiS7 dX10_image_35 (fun H locs hP hD hS => ?_)
          have hP : va_P (dC, dI) vwCl (wC t h tx g S7 ++ va_pl LP pf) H := by rw [eS7]; exact hP
          have hD : va_D A (wC t h tx g S7 ++ va_pl LP pf) := by rw [eS7]; exact hD
          have hG : rlC g LP pf S7 := by rw [eS7]; exact hG
          refine lv_iconst (v := 1) hx hb dX10_image_36 (by decide) ?_
          exact rtCi hx hb hr hlocks ⟨g, LP, pf, hP, hD, hG⟩ hS hf dX10_image_37
        · have hf := (if_neg c8).symm.trans hf
          cases hf
    · have hf := (if_neg c11).symm.trans hf
      refine lv_aload_n hx hb dX10_image_9 rfl (lv_at hl 0 rfl) ?_
      refine lv_bipush (v := (-2)) hx hb dX10_image_10 (by decide) ?_
      obtain ⟨r9, S10, er9, hf⟩ := b2 hf
      refine klCi (rest := []) (As := [.int (-2)]) ⟨hx, hb, hml, hown, hts⟩ (c_X10_bad_0 l dC dI t ts aK aV A h tx s.heap.size (fun q hq => hA q (Nat.le_trans hS.1 hq)) S (-2) r9 S10 er9) (cwV 1 hts gX10_image_X10_bad rfl rfl rfl (by decide +kernel) ⟨Nat.le_of_ble_eq_true rfl, Nat.le_of_ble_eq_true rfl⟩) (va_recv hK hP (ci := 10) (q0 := 0) rfl rfl) rfl hl.1 rfl (Nat.le_of_ble_eq_true rfl) dX10_image_12 ⟨Nat.zero_le _, Nat.zero_le _⟩ hE hK ⟨g, LP, pf, hP, hD, hG⟩ hS (fun H locs hC hS => ?_)
      obtain ⟨g, LP, pf, hP, hD, hG⟩ := hC
      exact rtCi hx hb hr hlocks ⟨g, LP, pf, hP, hD, hG⟩ hS hf dX10_image_15

def f_X10_from_0 (S : CS) (p0 : Int32) : Option (Int32 × CS) :=
  (if p0 < 0 then (bi2 (f_X10_bad_0 S (-2)) (fun r1 S2 => some ((r1, S2)))) else ((if p0 < 2 then (Option.bind (rdI 2 (S.1 2) p0) (fun x3 => (if x3 = 0 then (Option.bind (some (siI S 1007 (fun _ => (S.1 1007 0) + 1))) (fun S9 => some (((-3), S9)))) else (Option.bind (f_X10_changed_0 S) (fun S4 => (if p0 = 0 then (Option.bind (f_X1_copy_3_10 S4) (fun S5 => some ((1, S5)))) else (if p0 = 1 then (Option.bind (f_X1_copy_3_17 S4) (fun S7 => some ((1, S7)))) else none))))))) else (bi2 (f_X10_bad_0 S (-2)) (fun r11 S12 => some ((r11, S12)))))))
def rmX10_from_0 : Room := { frames := 3, cells := 0, slots := 0, locals := 103 }
abbrev RRX10_from_0 : Room := (headSpec wsX10_from rmX10_from_0).room
theorem in10_X10_from_0 : ∀ w ∈ wsX100, w ∈ wsX10_from := by decide +kernel
set_option maxHeartbeats 4000000 in
set_option maxRecDepth 100000 in
theorem c_X10_from_0 (l : Launch) (dC : Nat → ClassId) (dI : Nat → Nat → Nat) (t : Nat → ClassId) (ts aK aV : Nat → Nat) (A : Nat → Prop) (h : Nat → Nat) (tx : Nat) (sz : Nat) (hA0 : ∀ q : Nat, sz ≤ q → A q) (S : CS) (p0 : Int32) (r : Int32) (S' : CS) (hf : f_X10_from_0 S p0 = some (r, S')) : cCi l yX10_from wsX10_from rmX10_from_0 dC dI t ts aK aV A h tx tx sz [.ref (h 0), .int p0] S r S' := by
  refine Met.ofW (cc := cX10_from) (maxL := 2) (ret := (some .int)) (by decide) rfl ?_
  intro p e s m args below meth c s₁ B hml hv
  obtain ⟨hargs, hsz, hE, hC, hK⟩ := hv
  have hx := B.exec
  have hb := B.bytes
  have hr := B.returns
  have hts := atoms_spec (ws := wsX10_from) B.pre
  have hown : s.vm.findClass RX10 = some m.cls := findClass_of_methodNamed B.named
  have hlocks := B.notSynchronized
  have hsz : s.heap.size = sz := hsz
  subst hsz
  have hin10 := in10_X10_from_0
  have lk10_10 : Cond.fieldLink RX10 10 (TX10 0).1 (TX10 0).2.1 (TX10 0).2.2.1 ∈ wsX10_from := by decide +kernel
  have lk16_10 : Cond.fieldLink RX10 16 (TX10 1).1 (TX10 1).2.1 (TX10 1).2.2.1 ∈ wsX10_from := by decide +kernel
  have lk20_10 : Cond.fieldLink RX10 20 (TX10 2).1 (TX10 2).2.1 (TX10 2).2.2.1 ∈ wsX10_from := by decide +kernel
  have lk154_10 : Cond.fieldLink RX10 154 (TX10 7).1 (TX10 7).2.1 (TX10 7).2.2.1 ∈ wsX10_from := by decide +kernel
  have hA : ∀ q : Nat, s.heap.size ≤ q → A q := hA0
  obtain ⟨g, LP, pf, hP, hD, hG⟩ := hC
  have hS : va_S A s.heap s.heap [] := va_S.rf
  have hl := lv_entry ([.ref (h 0), .int p0]) (n := 2) (Nat.le_of_ble_eq_true rfl)
  rw [show entryFrame m args 2 = entryFrame m ([.ref (h 0), .int p0] : List Value).toArray 2 from by rw [hargs], lg_entry_eq]
  generalize (lg_sl ([.ref (h 0), .int p0]) ++ List.replicate (2 - (lg_sl ([.ref (h 0), .int p0])).length) Slot.unset).toArray = ls at hl ⊢
  have hl : lv_has ls 2 [(0, .ref (h 0)), (1, .int p0)] := hl
  unfold f_X10_from_0 at hf
  refine lv_iload_n hx hb dX10_from_0 rfl (lv_at hl 1 rfl) ?_
  refine lv_if_lt (tgt := 9) hx hb dX10_from_1 (by decide) (fun c14 => ?_) (fun c14 => ?_)
  · have hf := (if_pos c14).symm.trans hf
    refine lv_aload_n hx hb dX10_from_9 rfl (lv_at hl 0 rfl) ?_
    refine lv_bipush (v := (-2)) hx hb dX10_from_10 (by decide) ?_
    obtain ⟨r1, S2, er1, hf⟩ := b2 hf
    refine klCi (rest := []) (As := [.int (-2)]) ⟨hx, hb, hml, hown, hts⟩ (c_X10_bad_0 l dC dI t ts aK aV A h tx s.heap.size (fun q hq => hA q (Nat.le_trans hS.1 hq)) S (-2) r1 S2 er1) (cwV 1 hts gX10_from_X10_bad rfl rfl rfl (by decide +kernel) ⟨Nat.le_of_ble_eq_true rfl, Nat.le_of_ble_eq_true rfl⟩) (va_recv hK hP (ci := 10) (q0 := 0) rfl rfl) rfl hl.1 rfl (Nat.le_of_ble_eq_true rfl) dX10_from_12 ⟨Nat.zero_le _, Nat.zero_le _⟩ hE hK ⟨g, LP, pf, hP, hD, hG⟩ hS (fun H locs hC hS => ?_)
    obtain ⟨g, LP, pf, hP, hD, hG⟩ := hC
    exact rtCi hx hb hr hlocks ⟨g, LP, pf, hP, hD, hG⟩ hS hf dX10_from_15
  · have hf := (if_neg c14).symm.trans hf
    refine lv_iload_n hx hb dX10_from_4 rfl (lv_at hl 1 rfl) ?_
    refine lv_iconst (v := 2) hx hb dX10_from_5 (by decide) ?_
    refine lv_icmp_lt (tgt := 16) hx hb dX10_from_6 (by decide) (fun c13 => ?_) (fun c13 => ?_)
    · have hf := (if_pos c13).symm.trans hf
      refine lv_aload_n hx hb dX10_from_16 rfl (lv_at hl 0 rfl) ?_
      refine va_get (D := (dC, dI)) (ci := 10) (v := .ref (h 2)) (C := RX10) (T := TX10) (N := 9) hx hb hts hin10 hown hK hP 0 rfl rfl 2 (by decide) (hts _ lk20_10) (fun _ h9 => h9) rfl dX10_from_17 ?_
      refine lv_iload_n hx hb dX10_from_20 rfl (lv_at hl 1 rfl) ?_
      obtain ⟨x3, hix3, ex3, hf⟩ := rd_b hf
      refine va_zald hx hb hK hP 2 1 rfl rfl hix3 dX10_from_21 (kI ex3 ?_)
      refine lv_if_ne (tgt := 38) hx hb dX10_from_22 (by decide) (fun c10 => ?_) (fun c10 => ?_)
      · have hf := (if_neg c10).symm.trans hf
        refine lv_aload_n hx hb dX10_from_38 rfl (lv_at hl 0 rfl) ?_
        obtain ⟨S4, eS4, hf⟩ := bd hf
        refine klCv (rest := []) (As := []) ⟨hx, hb, hml, hown, hts⟩ (c_X10_changed_0 l dC dI t ts aK aV A h tx s.heap.size (fun q hq => hA q (Nat.le_trans hS.1 hq)) S S4 eS4) (cwV 0 hts gX10_from_X10_changed rfl rfl rfl (by decide +kernel) ⟨Nat.le_of_ble_eq_true rfl, Nat.le_of_ble_eq_true rfl⟩) (va_recv hK hP (ci := 10) (q0 := 0) rfl rfl) rfl hl.1 rfl (Nat.le_of_ble_eq_true rfl) dX10_from_39 ⟨Nat.zero_le _, Nat.zero_le _⟩ hE hK ⟨g, LP, pf, hP, hD, hG⟩ hS (fun H locs hC hS => ?_)
        obtain ⟨g, LP, pf, hP, hD, hG⟩ := hC
        refine lv_aload_n hx hb dX10_from_42 rfl (lv_at hl 0 rfl) ?_
        refine va_get (D := (dC, dI)) (ci := 10) (v := .ref (h 3)) (C := RX10) (T := TX10) (N := 9) hx hb hts hin10 hown hK hP 0 rfl rfl 0 (by decide) (hts _ lk10_10) (fun _ h9 => h9) rfl dX10_from_43 ?_
        refine lv_aload_n hx hb dX10_from_46 rfl (lv_at hl 0 rfl) ?_
        refine va_get (D := (dC, dI)) (ci := 10) (v := .ref (h 1)) (C := RX10) (T := TX10) (N := 9) hx hb hts hin10 hown hK hP 0 rfl rfl 1 (by decide) (hts _ lk16_10) (fun _ h9 => h9) rfl dX10_from_47 ?_
        refine lv_iload_n hx hb dX10_from_50 rfl (lv_at hl 1 rfl) ?_
        by_cases c6 : p0 = 0
        · have hf := (if_pos c6).symm.trans hf
          refine va_aldq hx hb hK hP 1 3 rfl rfl (by rw [c6]; exact (by decide : ¬ ((0 : Int32) < 0 ∨ 2 ≤ (0 : Int32).toNatClampNeg))) dX10_from_51 (kR (a := h 10) (by rw [c6]; rfl) ?_)
          obtain ⟨S5, eS5, hf⟩ := bd hf
          refine klCv (rest := []) (As := [.ref (h 10)]) ⟨hx, hb, hml, hown, hts⟩ (c_X1_copy_3_10 l dC dI t ts aK aV A h tx H.size (fun q hq => hA q (Nat.le_trans hS.1 hq)) S4 S5 eS5) (cwV 1 hts gX10_from_X1_copy rfl rfl rfl (by decide +kernel) ⟨Nat.le_of_ble_eq_true rfl, Nat.le_of_ble_eq_true rfl⟩) (va_recv hK hP (ci := 1) (q0 := 3) rfl rfl) rfl hl.1 rfl (Nat.le_of_ble_eq_true rfl) dX10_from_52 ⟨Nat.zero_le _, Nat.zero_le _⟩ hE hK ⟨g, LP, pf, hP, hD, hG⟩ hS (fun H locs hC hS => ?_)
          obtain ⟨g, LP, pf, hP, hD, hG⟩ := hC
          refine lv_iconst (v := 1) hx hb dX10_from_55 (by decide) ?_
          exact rtCi hx hb hr hlocks ⟨g, LP, pf, hP, hD, hG⟩ hS hf dX10_from_56
        · have hf := (if_neg c6).symm.trans hf
          by_cases c8 : p0 = 1
          · have hf := (if_pos c8).symm.trans hf
            refine va_aldq hx hb hK hP 1 3 rfl rfl (by rw [c8]; exact (by decide : ¬ ((1 : Int32) < 0 ∨ 2 ≤ (1 : Int32).toNatClampNeg))) dX10_from_51 (kR (a := h 17) (by rw [c8]; rfl) ?_)
            obtain ⟨S7, eS7, hf⟩ := bd hf
            refine klCv (rest := []) (As := [.ref (h 17)]) ⟨hx, hb, hml, hown, hts⟩ (c_X1_copy_3_17 l dC dI t ts aK aV A h tx H.size (fun q hq => hA q (Nat.le_trans hS.1 hq)) S4 S7 eS7) (cwV 1 hts gX10_from_X1_copy rfl rfl rfl (by decide +kernel) ⟨Nat.le_of_ble_eq_true rfl, Nat.le_of_ble_eq_true rfl⟩) (va_recv hK hP (ci := 1) (q0 := 3) rfl rfl) rfl hl.1 rfl (Nat.le_of_ble_eq_true rfl) dX10_from_52 ⟨Nat.zero_le _, Nat.zero_le _⟩ hE hK ⟨g, LP, pf, hP, hD, hG⟩ hS (fun H locs hC hS => ?_)
            obtain ⟨g, LP, pf, hP, hD, hG⟩ := hC
            refine lv_iconst (v := 1) hx hb dX10_from_55 (by decide) ?_
            exact rtCi hx hb hr hlocks ⟨g, LP, pf, hP, hD, hG⟩ hS hf dX10_from_56
          · have hf := (if_neg c8).symm.trans hf
            cases hf
      · have hf := (if_pos c10).symm.trans hf
        refine lv_aload_n hx hb dX10_from_25 rfl (lv_at hl 0 rfl) ?_
        refine lv_dup hx hb dX10_from_26 rfl ?_
        refine va_get (D := (dC, dI)) (ci := 10) (v := .int (S.1 1007 0)) (C := RX10) (T := TX10) (N := 9) hx hb hts hin10 hown hK hP 0 rfl rfl 7 (by decide) (hts _ lk154_10) (fun _ h9 => h9) rfl dX10_from_27 ?_
        refine lv_iconst (v := 1) hx hb dX10_from_30 (by decide) ?_
        refine lv_iadd hx hb dX10_from_31 ?_
        obtain ⟨S9, eS9, hf⟩ := bn hf
        refine va_put (D := (dC, dI)) (ci := 10) (v := .int ((S.1 1007 0) + 1)) (ty := .int) (C := RX10) (T := TX10) (N := 9) hx hb hts hin10 tyX10 tyX10_ok nmX10 hown hK hP hD hS 0 rfl rfl 7 (by decide) (hts _ lk154_10) (fun _ h9 => h9) rfl (by decide +kernel) rfl rfl (Nat.le_of_ble_eq_true rfl) dX10_from_32 (fun H locs hP hD hS => ?_)
        have hP : va_P (dC, dI) vwCl (wC t h tx g S9 ++ va_pl LP pf) H := by rw [eS9]; exact hP
        have hD : va_D A (wC t h tx g S9 ++ va_pl LP pf) := by rw [eS9]; exact hD
        have hG : rlC g LP pf S9 := by rw [eS9]; exact hG
        refine lv_bipush (v := (-3)) hx hb dX10_from_35 (by decide) ?_
        exact rtCi hx hb hr hlocks ⟨g, LP, pf, hP, hD, hG⟩ hS hf dX10_from_37
    · have hf := (if_neg c13).symm.trans hf
      refine lv_aload_n hx hb dX10_from_9 rfl (lv_at hl 0 rfl) ?_
      refine lv_bipush (v := (-2)) hx hb dX10_from_10 (by decide) ?_
      obtain ⟨r11, S12, er11, hf⟩ := b2 hf
      refine klCi (rest := []) (As := [.int (-2)]) ⟨hx, hb, hml, hown, hts⟩ (c_X10_bad_0 l dC dI t ts aK aV A h tx s.heap.size (fun q hq => hA q (Nat.le_trans hS.1 hq)) S (-2) r11 S12 er11) (cwV 1 hts gX10_from_X10_bad rfl rfl rfl (by decide +kernel) ⟨Nat.le_of_ble_eq_true rfl, Nat.le_of_ble_eq_true rfl⟩) (va_recv hK hP (ci := 10) (q0 := 0) rfl rfl) rfl hl.1 rfl (Nat.le_of_ble_eq_true rfl) dX10_from_12 ⟨Nat.zero_le _, Nat.zero_le _⟩ hE hK ⟨g, LP, pf, hP, hD, hG⟩ hS (fun H locs hC hS => ?_)
      obtain ⟨g, LP, pf, hP, hD, hG⟩ := hC
      exact rtCi hx hb hr hlocks ⟨g, LP, pf, hP, hD, hG⟩ hS hf dX10_from_15

def f_J0_coder_7d493 (w : Nat)  : Option Int32 :=
  some 0
def rmJ0_coder_7d493 : Room := { frames := 0, cells := 0, slots := 0, locals := 0 }
abbrev RRJ0_coder_7d493 : Room := (headSpec wsJ0_coder_7d493 rmJ0_coder_7d493).room
set_option maxHeartbeats 4000000 in
set_option maxRecDepth 100000 in
theorem c_J0_coder_7d493 (l : Launch) (ts aK aV : Nat → Nat) (sz : Nat) (w : Nat) (hw : w < 6)  (r : Int32) (hf : f_J0_coder_7d493 w = some r) : cXi l yJ0_coder_7d493 wsJ0_coder_7d493 rmJ0_coder_7d493 sz [.ref (aK w)] (fun U => enC ts aK aV (fun q => sz ≤ q) U U.heap) r := by
  refine Met.ofW (cc := cJ0_coder_7d493) (maxL := 1) (ret := (some .byte)) (by decide) rfl ?_
  intro p e s m args below meth c s₁ B hml hv
  obtain ⟨hargs, hsz, hXX⟩ := hv
  have hx := B.exec
  have hb := B.bytes
  have hr := B.returns
  have hts := atoms_spec (ws := wsJ0_coder_7d493) B.pre
  have hown : s.vm.findClass RJ0 = some m.cls := findClass_of_methodNamed B.named
  have hlocks := B.notSynchronized
  have hsz : s.heap.size = sz := hsz
  subst hsz
  obtain ⟨A, hAe⟩ : ∃ A : Nat → Prop, A = fun q => s.heap.size ≤ q := ⟨_, rfl⟩
  rw [← hAe]
  have hA : ∀ q : Nat, s.heap.size ≤ q → A q := fun q h => by rw [hAe]; exact h
  have hE : enC ts aK aV A s s.heap := by rw [hAe]; exact hXX
  have hS : va_S A s.heap s.heap [] := va_S.rf
  have hl := lv_entry ([.ref (aK w)]) (n := 1) (Nat.le_of_ble_eq_true rfl)
  rw [show entryFrame m args 1 = entryFrame m ([.ref (aK w)] : List Value).toArray 1 from by rw [hargs], lg_entry_eq]
  generalize (lg_sl ([.ref (aK w)]) ++ List.replicate (1 - (lg_sl ([.ref (aK w)])).length) Slot.unset).toArray = ls at hl ⊢
  have hl : lv_has ls 1 [(0, .ref (aK w))] := hl
  unfold f_J0_coder_7d493 at hf
  refine va_gets hx hb hE.2.2.2.2.2.2.2.1 hS hown (hts (.fieldLink RJ0 38 "java/lang/String" "COMPACT_STRINGS" "Z") (by decide +kernel)) (fun _ h9 => h9) dJ0_coder_7d493_0 ?_
  refine lv_if_eq (tgt := 13) hx hb dJ0_coder_7d493_3 (by decide) (fun c1 => absurd c1 (by decide)) (fun _ => ?_)
  refine lv_aload_n hx hb dJ0_coder_7d493_6 rfl (lv_at hl 0 rfl) ?_
  refine vk_getf hx hb (hE.2.2.2.2.2.2.2.2.1.1 w hw).2.1 hS hown (hts (.fieldLink RJ0 15 "java/lang/String" "coder" "B") (by decide +kernel)) (fun _ h9 => h9) dJ0_coder_7d493_7 ?_
  refine lv_goto (tgt := 14) hx hb dJ0_coder_7d493_10 (by decide) ?_
  exact rtEb hx hb hr hlocks hS rfl hf dJ0_coder_7d493_14

def f_J0_length_8abf5 (w : Nat)  : Option Int32 :=
  Option.bind (f_J0_coder_7d493 w ) (fun r1 => some ((nI (wLen.getD w 0)) >>> (r1 &&& 31)))
def rmJ0_length_8abf5 : Room := { frames := 1, cells := 0, slots := 0, locals := 20 }
abbrev RRJ0_length_8abf5 : Room := (headSpec wsJ0_length_8abf5 rmJ0_length_8abf5).room
set_option maxHeartbeats 4000000 in
set_option maxRecDepth 100000 in
theorem c_J0_length_8abf5 (l : Launch) (ts aK aV : Nat → Nat) (sz : Nat) (w : Nat) (hw : w < 6)  (r : Int32) (hf : f_J0_length_8abf5 w = some r) : cXi l yJ0_length_8abf5 wsJ0_length_8abf5 rmJ0_length_8abf5 sz [.ref (aK w)] (fun U => enC ts aK aV (fun q => sz ≤ q) U U.heap) r := by
  refine Met.ofW (cc := cJ0_length_8abf5) (maxL := 1) (ret := (some .int)) (by decide) rfl ?_
  intro p e s m args below meth c s₁ B hml hv
  obtain ⟨hargs, hsz, hXX⟩ := hv
  have hx := B.exec
  have hb := B.bytes
  have hr := B.returns
  have hts := atoms_spec (ws := wsJ0_length_8abf5) B.pre
  have hown : s.vm.findClass RJ0 = some m.cls := findClass_of_methodNamed B.named
  have hlocks := B.notSynchronized
  have hsz : s.heap.size = sz := hsz
  subst hsz
  obtain ⟨A, hAe⟩ : ∃ A : Nat → Prop, A = fun q => s.heap.size ≤ q := ⟨_, rfl⟩
  rw [← hAe]
  have hA : ∀ q : Nat, s.heap.size ≤ q → A q := fun q h => by rw [hAe]; exact h
  have hE : enC ts aK aV A s s.heap := by rw [hAe]; exact hXX
  have hS : va_S A s.heap s.heap [] := va_S.rf
  have hl := lv_entry ([.ref (aK w)]) (n := 1) (Nat.le_of_ble_eq_true rfl)
  rw [show entryFrame m args 1 = entryFrame m ([.ref (aK w)] : List Value).toArray 1 from by rw [hargs], lg_entry_eq]
  generalize (lg_sl ([.ref (aK w)]) ++ List.replicate (1 - (lg_sl ([.ref (aK w)])).length) Slot.unset).toArray = ls at hl ⊢
  have hl : lv_has ls 1 [(0, .ref (aK w))] := hl
  unfold f_J0_length_8abf5 at hf
  refine lv_aload_n hx hb dJ0_length_8abf5_0 rfl (lv_at hl 0 rfl) ?_
  refine vk_getf hx hb (hE.2.2.2.2.2.2.2.2.1.1 w hw).2.2.1 hS hown (hts (.fieldLink RJ0 9 "java/lang/String" "value" "[B") (by decide +kernel)) (fun _ h9 => h9) dJ0_length_8abf5_1 ?_
  refine va_tlen (v := nI (wLen.getD w 0)) hx hb (hE.2.2.2.2.2.2.2.2.1.1 w hw).2.2.2 hS rfl dJ0_length_8abf5_4 ?_
  refine lv_aload_n hx hb dJ0_length_8abf5_5 rfl (lv_at hl 0 rfl) ?_
  obtain ⟨r1, er1, hf⟩ := bd hf
  refine klXVi (rest := [.int (nI (wLen.getD w 0))]) (As := []) ⟨hx, hb, hml, hown, hts⟩ (c_J0_coder_7d493 l ts aK aV s.heap.size w hw  r1 er1) (fun _ _ _ _ h9 => h9.blind) (fun U hU hW => hE.go hS hU hW (fun q hq => hA q (Nat.le_trans hS.1 hq))) (cwV 0 hts gJ0_length_8abf5_J0_coder_7d493 rfl rfl rfl (by decide +kernel) ⟨Nat.le_of_ble_eq_true rfl, Nat.le_of_ble_eq_true rfl⟩) (vk_recv hE.2.2.2.2.2.2.2.2.1 hw hS) rfl hl.1 rfl (Nat.le_of_ble_eq_true rfl) dJ0_length_8abf5_6 ⟨Nat.zero_le _, Nat.zero_le _⟩ hS hA (fun H2 locs hk hS => ?_)
  generalize H2 = H at hS ⊢
  refine lv_ishr hx hb dJ0_length_8abf5_9 ?_
  exact rtEi hx hb hr hlocks hS hf dJ0_length_8abf5_10

def f_J0_isLatin1_aae02 (w : Nat)  : Option Int32 :=
  some 1
def rmJ0_isLatin1_aae02 : Room := { frames := 0, cells := 0, slots := 0, locals := 0 }
abbrev RRJ0_isLatin1_aae02 : Room := (headSpec wsJ0_isLatin1_aae02 rmJ0_isLatin1_aae02).room
set_option maxHeartbeats 4000000 in
set_option maxRecDepth 100000 in
theorem c_J0_isLatin1_aae02 (l : Launch) (ts aK aV : Nat → Nat) (sz : Nat) (w : Nat) (hw : w < 6)  (r : Int32) (hf : f_J0_isLatin1_aae02 w = some r) : cXi l yJ0_isLatin1_aae02 wsJ0_isLatin1_aae02 rmJ0_isLatin1_aae02 sz [.ref (aK w)] (fun U => enC ts aK aV (fun q => sz ≤ q) U U.heap) r := by
  refine Met.ofW (cc := cJ0_isLatin1_aae02) (maxL := 1) (ret := (some .boolean)) (by decide) rfl ?_
  intro p e s m args below meth c s₁ B hml hv
  obtain ⟨hargs, hsz, hXX⟩ := hv
  have hx := B.exec
  have hb := B.bytes
  have hr := B.returns
  have hts := atoms_spec (ws := wsJ0_isLatin1_aae02) B.pre
  have hown : s.vm.findClass RJ0 = some m.cls := findClass_of_methodNamed B.named
  have hlocks := B.notSynchronized
  have hsz : s.heap.size = sz := hsz
  subst hsz
  obtain ⟨A, hAe⟩ : ∃ A : Nat → Prop, A = fun q => s.heap.size ≤ q := ⟨_, rfl⟩
  rw [← hAe]
  have hA : ∀ q : Nat, s.heap.size ≤ q → A q := fun q h => by rw [hAe]; exact h
  have hE : enC ts aK aV A s s.heap := by rw [hAe]; exact hXX
  have hS : va_S A s.heap s.heap [] := va_S.rf
  have hl := lv_entry ([.ref (aK w)]) (n := 1) (Nat.le_of_ble_eq_true rfl)
  rw [show entryFrame m args 1 = entryFrame m ([.ref (aK w)] : List Value).toArray 1 from by rw [hargs], lg_entry_eq]
  generalize (lg_sl ([.ref (aK w)]) ++ List.replicate (1 - (lg_sl ([.ref (aK w)])).length) Slot.unset).toArray = ls at hl ⊢
  have hl : lv_has ls 1 [(0, .ref (aK w))] := hl
  unfold f_J0_isLatin1_aae02 at hf
  refine va_gets hx hb hE.2.2.2.2.2.2.2.1 hS hown (hts (.fieldLink RJ0 38 "java/lang/String" "COMPACT_STRINGS" "Z") (by decide +kernel)) (fun _ h9 => h9) dJ0_isLatin1_aae02_0 ?_
  refine lv_if_eq (tgt := 17) hx hb dJ0_isLatin1_aae02_3 (by decide) (fun c1 => absurd c1 (by decide)) (fun _ => ?_)
  refine lv_aload_n hx hb dJ0_isLatin1_aae02_6 rfl (lv_at hl 0 rfl) ?_
  refine vk_getf hx hb (hE.2.2.2.2.2.2.2.2.1.1 w hw).2.1 hS hown (hts (.fieldLink RJ0 15 "java/lang/String" "coder" "B") (by decide +kernel)) (fun _ h9 => h9) dJ0_isLatin1_aae02_7 ?_
  refine lv_if_ne (tgt := 17) hx hb dJ0_isLatin1_aae02_10 (by decide) (fun c2 => absurd c2 (by decide)) (fun _ => ?_)
  refine lv_iconst (v := 1) hx hb dJ0_isLatin1_aae02_13 (by decide) ?_
  refine lv_goto (tgt := 18) hx hb dJ0_isLatin1_aae02_14 (by decide) ?_
  exact rtEz hx hb hr hlocks hS rfl hf dJ0_isLatin1_aae02_18

def f_J1_charAt_3b067 (w : Nat) (p1 : Int32) : Option Int32 :=
  Option.bind (f_J3_checkIndex_8e157 p1 (nI (wLen.getD w 0))) (fun r1 => Option.bind (rdI (wLen.getD w 0) (fun j => (wByt.getD w []).getD j 0) p1) (fun x2 => Option.bind (cr ((Int32.toUInt32 (x2 &&& 255) % 65536).toInt32)) (fun z3 => some z3)))
def rmJ1_charAt_3b067 : Room := { frames := 2, cells := 0, slots := 0, locals := 43 }
abbrev RRJ1_charAt_3b067 : Room := (headSpec wsJ1_charAt_3b067 rmJ1_charAt_3b067).room
set_option maxHeartbeats 4000000 in
set_option maxRecDepth 100000 in
theorem c_J1_charAt_3b067 (l : Launch) (ts aK aV : Nat → Nat) (sz : Nat) (w : Nat) (hw : w < 6) (p1 : Int32) (r : Int32) (hf : f_J1_charAt_3b067 w p1 = some r) : cXi l yJ1_charAt_3b067 wsJ1_charAt_3b067 rmJ1_charAt_3b067 sz [.ref (aV w), .int p1] (fun U => enC ts aK aV (fun q => sz ≤ q) U U.heap) r := by
  refine Met.ofW (cc := cJ1_charAt_3b067) (maxL := 2) (ret := (some .char)) (by decide) rfl ?_
  intro p e s m args below meth c s₁ B hml hv
  obtain ⟨hargs, hsz, hXX⟩ := hv
  have hx := B.exec
  have hb := B.bytes
  have hr := B.returns
  have hts := atoms_spec (ws := wsJ1_charAt_3b067) B.pre
  have hown : s.vm.findClass RJ1 = some m.cls := findClass_of_methodNamed B.named
  have hlocks := B.notSynchronized
  have hsz : s.heap.size = sz := hsz
  subst hsz
  obtain ⟨A, hAe⟩ : ∃ A : Nat → Prop, A = fun q => s.heap.size ≤ q := ⟨_, rfl⟩
  rw [← hAe]
  have hA : ∀ q : Nat, s.heap.size ≤ q → A q := fun q h => by rw [hAe]; exact h
  have hE : enC ts aK aV A s s.heap := by rw [hAe]; exact hXX
  have hS : va_S A s.heap s.heap [] := va_S.rf
  have hl := lv_entry ([.ref (aV w), .int p1]) (n := 2) (Nat.le_of_ble_eq_true rfl)
  rw [show entryFrame m args 2 = entryFrame m ([.ref (aV w), .int p1] : List Value).toArray 2 from by rw [hargs], lg_entry_eq]
  generalize (lg_sl ([.ref (aV w), .int p1]) ++ List.replicate (2 - (lg_sl ([.ref (aV w), .int p1])).length) Slot.unset).toArray = ls at hl ⊢
  have hl : lv_has ls 2 [(0, .ref (aV w)), (1, .int p1)] := hl
  unfold f_J1_charAt_3b067 at hf
  refine lv_iload_n hx hb dJ1_charAt_3b067_0 rfl (lv_at hl 1 rfl) ?_
  refine lv_aload_n hx hb dJ1_charAt_3b067_1 rfl (lv_at hl 0 rfl) ?_
  refine va_tlen (v := nI (wLen.getD w 0)) hx hb (hE.2.2.2.2.2.2.2.2.1.1 w hw).2.2.2 hS rfl dJ1_charAt_3b067_2 ?_
  obtain ⟨r1, er1, hf⟩ := bd hf
  refine klXv (rest := []) (As := [.int p1, .int (nI (wLen.getD w 0))]) ⟨hx, hb, hml, hown, hts⟩ (c_J0_checkIndex_df160 l ts aK aV s.heap.size p1 (nI (wLen.getD w 0)) r1 er1) (fun _ _ _ _ h9 => h9.blind) (fun U hU hW => hE.go hS hU hW (fun q hq => hA q (Nat.le_trans hS.1 hq))) (va_cwS 2 hts gJ1_charAt_3b067_J0_checkIndex_df160 rfl rfl rfl (by decide +kernel) ⟨Nat.le_of_ble_eq_true rfl, Nat.le_of_ble_eq_true rfl⟩) rfl hl.1 rfl (Nat.le_of_ble_eq_true rfl) dJ1_charAt_3b067_3 ⟨Nat.zero_le _, Nat.zero_le _⟩ hS hA (fun H2 locs hk hS => ?_)
  generalize H2 = H at hS ⊢
  refine lv_aload_n hx hb dJ1_charAt_3b067_6 rfl (lv_at hl 0 rfl) ?_
  refine lv_iload_n hx hb dJ1_charAt_3b067_7 rfl (lv_at hl 1 rfl) ?_
  obtain ⟨x2, hix2, ex2, hf⟩ := rd_b hf
  refine va_tb hx hb (hE.2.2.2.2.2.2.2.2.1.1 w hw).2.2.2 hS hix2 rfl dJ1_charAt_3b067_8 (kI ex2 ?_)
  refine lv_sipush (v := 255) hx hb dJ1_charAt_3b067_9 (by decide) ?_
  refine lv_iand hx hb dJ1_charAt_3b067_12 ?_
  refine lv_i2c hx hb dJ1_charAt_3b067_13 rfl ?_
  obtain ⟨hnz3, hf⟩ := cr_b hf
  exact rtEb hx hb hr hlocks hS hnz3 hf dJ1_charAt_3b067_14

def f_J0_charAt_5068e (w : Nat) (p0 : Int32) : Option Int32 :=
  Option.bind (f_J0_isLatin1_aae02 w ) (fun r1 => (if r1 = 0 then none else (Option.bind (f_J1_charAt_3b067 w p0) (fun r2 => Option.bind (cr r2) (fun z3 => some z3)))))
def rmJ0_charAt_5068e : Room := { frames := 3, cells := 0, slots := 0, locals := 64 }
abbrev RRJ0_charAt_5068e : Room := (headSpec wsJ0_charAt_5068e rmJ0_charAt_5068e).room
set_option maxHeartbeats 4000000 in
set_option maxRecDepth 100000 in
theorem c_J0_charAt_5068e (l : Launch) (ts aK aV : Nat → Nat) (sz : Nat) (w : Nat) (hw : w < 6) (p0 : Int32) (r : Int32) (hf : f_J0_charAt_5068e w p0 = some r) : cXi l yJ0_charAt_5068e wsJ0_charAt_5068e rmJ0_charAt_5068e sz [.ref (aK w), .int p0] (fun U => enC ts aK aV (fun q => sz ≤ q) U U.heap) r := by
  refine Met.ofW (cc := cJ0_charAt_5068e) (maxL := 2) (ret := (some .char)) (by decide) rfl ?_
  intro p e s m args below meth c s₁ B hml hv
  obtain ⟨hargs, hsz, hXX⟩ := hv
  have hx := B.exec
  have hb := B.bytes
  have hr := B.returns
  have hts := atoms_spec (ws := wsJ0_charAt_5068e) B.pre
  have hown : s.vm.findClass RJ0 = some m.cls := findClass_of_methodNamed B.named
  have hlocks := B.notSynchronized
  have hsz : s.heap.size = sz := hsz
  subst hsz
  obtain ⟨A, hAe⟩ : ∃ A : Nat → Prop, A = fun q => s.heap.size ≤ q := ⟨_, rfl⟩
  rw [← hAe]
  have hA : ∀ q : Nat, s.heap.size ≤ q → A q := fun q h => by rw [hAe]; exact h
  have hE : enC ts aK aV A s s.heap := by rw [hAe]; exact hXX
  have hS : va_S A s.heap s.heap [] := va_S.rf
  have hl := lv_entry ([.ref (aK w), .int p0]) (n := 2) (Nat.le_of_ble_eq_true rfl)
  rw [show entryFrame m args 2 = entryFrame m ([.ref (aK w), .int p0] : List Value).toArray 2 from by rw [hargs], lg_entry_eq]
  generalize (lg_sl ([.ref (aK w), .int p0]) ++ List.replicate (2 - (lg_sl ([.ref (aK w), .int p0])).length) Slot.unset).toArray = ls at hl ⊢
  have hl : lv_has ls 2 [(0, .ref (aK w)), (1, .int p0)] := hl
  unfold f_J0_charAt_5068e at hf
  refine lv_aload_n hx hb dJ0_charAt_5068e_0 rfl (lv_at hl 0 rfl) ?_
  obtain ⟨r1, er1, hf⟩ := bd hf
  refine klXVi (rest := []) (As := []) ⟨hx, hb, hml, hown, hts⟩ (c_J0_isLatin1_aae02 l ts aK aV s.heap.size w hw  r1 er1) (fun _ _ _ _ h9 => h9.blind) (fun U hU hW => hE.go hS hU hW (fun q hq => hA q (Nat.le_trans hS.1 hq))) (cwV 0 hts gJ0_charAt_5068e_J0_isLatin1_aae02 rfl rfl rfl (by decide +kernel) ⟨Nat.le_of_ble_eq_true rfl, Nat.le_of_ble_eq_true rfl⟩) (vk_recv hE.2.2.2.2.2.2.2.2.1 hw hS) rfl hl.1 rfl (Nat.le_of_ble_eq_true rfl) dJ0_charAt_5068e_1 ⟨Nat.zero_le _, Nat.zero_le _⟩ hS hA (fun H2 locs hk hS => ?_)
  generalize H2 = H at hS ⊢
  refine lv_if_eq (tgt := 16) hx hb dJ0_charAt_5068e_4 (by decide) (fun c4 => ?_) (fun c4 => ?_)
  · have hf := (if_pos c4).symm.trans hf
    refine lv_aload_n hx hb dJ0_charAt_5068e_16 rfl (lv_at hl 0 rfl) ?_
    refine vk_getf hx hb (hE.2.2.2.2.2.2.2.2.1.1 w hw).2.2.1 hS hown (hts (.fieldLink RJ0 9 "java/lang/String" "value" "[B") (by decide +kernel)) (fun _ h9 => h9) dJ0_charAt_5068e_17 ?_
    refine lv_iload_n hx hb dJ0_charAt_5068e_20 rfl (lv_at hl 1 rfl) ?_
    cases hf
  · have hf := (if_neg c4).symm.trans hf
    refine lv_aload_n hx hb dJ0_charAt_5068e_7 rfl (lv_at hl 0 rfl) ?_
    refine vk_getf hx hb (hE.2.2.2.2.2.2.2.2.1.1 w hw).2.2.1 hS hown (hts (.fieldLink RJ0 9 "java/lang/String" "value" "[B") (by decide +kernel)) (fun _ h9 => h9) dJ0_charAt_5068e_8 ?_
    refine lv_iload_n hx hb dJ0_charAt_5068e_11 rfl (lv_at hl 1 rfl) ?_
    obtain ⟨r2, er2, hf⟩ := bd hf
    refine klXi (rest := []) (As := [.ref (aV w), .int p0]) ⟨hx, hb, hml, hown, hts⟩ (c_J1_charAt_3b067 l ts aK aV H.size w hw p0 r2 er2) (fun _ _ _ _ h9 => h9.blind) (fun U hU hW => hE.go hS hU hW (fun q hq => hA q (Nat.le_trans hS.1 hq))) (va_cwS 2 hts gJ0_charAt_5068e_J1_charAt_3b067 rfl rfl rfl (by decide +kernel) ⟨Nat.le_of_ble_eq_true rfl, Nat.le_of_ble_eq_true rfl⟩) rfl hl.1 rfl (Nat.le_of_ble_eq_true rfl) dJ0_charAt_5068e_12 ⟨Nat.zero_le _, Nat.zero_le _⟩ hS hA (fun H2 locs hk hS => ?_)
    generalize H2 = H at hS ⊢
    obtain ⟨hnz3, hf⟩ := cr_b hf
    exact rtEb hx hb hr hlocks hS hnz3 hf dJ0_charAt_5068e_15

def b_X8_isAtToken_31_w_20 (S : CS) (w : Nat) (y2 : Int32) : Option (Int32 ⊕ Int32) :=
  Option.bind (f_J0_length_8abf5 w ) (fun r3 => (if r3 ≤ y2 then (some (Sum.inr 1)) else ((if (S.1 4103 0) ≤ ((S.1 4106 0) + y2) then (some (Sum.inr 1)) else (Option.bind (rdI 200 (S.1 8) ((S.1 4106 0) + y2)) (fun x4 => Option.bind (f_J0_charAt_5068e w y2) (fun r5 => (if x4 = r5 then (Option.bind (some (y2 + 1)) (fun x6 => some (Sum.inl x6))) else (some (Sum.inr 0))))))))))
def f_X8_isAtToken_31_w (S : CS) (w : Nat) : Option Int32 :=
  Option.bind (f_J0_length_8abf5 w ) (fun r1 => (if ((S.1 4104 0) - (S.1 4106 0)) = r1 then (lp (fun s => b_X8_isAtToken_31_w_20 S w s) FU 0) else (some 0)))
def rmX8_isAtToken_31_w : Room := { frames := 4, cells := 0, slots := 0, locals := 85 }
abbrev RRX8_isAtToken_31_w : Room := (headSpec wsX8_isAtToken rmX8_isAtToken_31_w).room
theorem in8_X8_isAtToken_31_w : ∀ w ∈ wsX80, w ∈ wsX8_isAtToken := by decide +kernel
set_option maxHeartbeats 4000000 in
set_option maxRecDepth 100000 in
theorem c_X8_isAtToken_31_w (l : Launch) (dC : Nat → ClassId) (dI : Nat → Nat → Nat) (t : Nat → ClassId) (ts aK aV : Nat → Nat) (A : Nat → Prop) (h : Nat → Nat) (sz : Nat) (hA0 : ∀ q : Nat, sz ≤ q → A q) (S : CS) (w : Nat) (hw : w < 6) (r : Int32) (hf : f_X8_isAtToken_31_w S w = some r) : cCi l yX8_isAtToken wsX8_isAtToken rmX8_isAtToken_31_w dC dI t ts aK aV A h (h 8) (h 8) sz [.ref (h 31), .ref (aK w)] S r S := by
  refine Met.ofW (cc := cX8_isAtToken) (maxL := 3) (ret := (some .boolean)) (by decide) rfl ?_
  intro p e s m args below meth c s₁ B hml hv
  obtain ⟨hargs, hsz, hE, hC, hK⟩ := hv
  have hx := B.exec
  have hb := B.bytes
  have hr := B.returns
  have hts := atoms_spec (ws := wsX8_isAtToken) B.pre
  have hown : s.vm.findClass RX8 = some m.cls := findClass_of_methodNamed B.named
  have hlocks := B.notSynchronized
  have hsz : s.heap.size = sz := hsz
  subst hsz
  have hin8 := in8_X8_isAtToken_31_w
  have lk28_8 : Cond.fieldLink RX8 28 (TX8 2).1 (TX8 2).2.1 (TX8 2).2.2.1 ∈ wsX8_isAtToken := by decide +kernel
  have lk39_8 : Cond.fieldLink RX8 39 (TX8 3).1 (TX8 3).2.1 (TX8 3).2.2.1 ∈ wsX8_isAtToken := by decide +kernel
  have lk42_8 : Cond.fieldLink RX8 42 (TX8 4).1 (TX8 4).2.1 (TX8 4).2.2.1 ∈ wsX8_isAtToken := by decide +kernel
  have lk72_8 : Cond.fieldLink RX8 72 (TX8 6).1 (TX8 6).2.1 (TX8 6).2.2.1 ∈ wsX8_isAtToken := by decide +kernel
  have hA : ∀ q : Nat, s.heap.size ≤ q → A q := hA0
  obtain ⟨g, LP, pf, hP, hD, hG⟩ := hC
  have hS : va_S A s.heap s.heap [] := va_S.rf
  have hl := lv_entry ([.ref (h 31), .ref (aK w)]) (n := 3) (Nat.le_of_ble_eq_true rfl)
  rw [show entryFrame m args 3 = entryFrame m ([.ref (h 31), .ref (aK w)] : List Value).toArray 3 from by rw [hargs], lg_entry_eq]
  generalize (lg_sl ([.ref (h 31), .ref (aK w)]) ++ List.replicate (3 - (lg_sl ([.ref (h 31), .ref (aK w)])).length) Slot.unset).toArray = ls at hl ⊢
  have hl : lv_has ls 3 [(0, .ref (h 31)), (1, .ref (aK w))] := hl
  unfold f_X8_isAtToken_31_w at hf
  refine lv_aload_n hx hb dX8_isAtToken_0 rfl (lv_at hl 0 rfl) ?_
  refine va_get (D := (dC, dI)) (ci := 8) (v := .int (S.1 4104 0)) (C := RX8) (T := TX8) (N := 9) hx hb hts hin8 hown hK hP 31 rfl rfl 4 (by decide) (hts _ lk42_8) (fun _ h9 => h9) rfl dX8_isAtToken_1 ?_
  refine lv_aload_n hx hb dX8_isAtToken_4 rfl (lv_at hl 0 rfl) ?_
  refine va_get (D := (dC, dI)) (ci := 8) (v := .int (S.1 4106 0)) (C := RX8) (T := TX8) (N := 9) hx hb hts hin8 hown hK hP 31 rfl rfl 6 (by decide) (hts _ lk72_8) (fun _ h9 => h9) rfl dX8_isAtToken_5 ?_
  refine lv_isub hx hb dX8_isAtToken_8 ?_
  refine lv_aload_n hx hb dX8_isAtToken_9 rfl (lv_at hl 1 rfl) ?_
  obtain ⟨r1, er1, hf⟩ := bd hf
  refine klXVi (rest := [.int ((S.1 4104 0) - (S.1 4106 0))]) (As := []) ⟨hx, hb, hml, hown, hts⟩ (c_J0_length_8abf5 l ts aK aV s.heap.size w hw  r1 er1) (fun _ _ _ _ h9 => h9.blind) (fun U hU hW => hE.go hS hU hW (fun q hq => hA q (Nat.le_trans hS.1 hq))) (cwV 0 hts gX8_isAtToken_J0_length_8abf5 rfl rfl rfl (by decide +kernel) ⟨Nat.le_of_ble_eq_true rfl, Nat.le_of_ble_eq_true rfl⟩) (vk_recv hE.2.2.2.2.2.2.2.2.1 hw hS) rfl hl.1 rfl (Nat.le_of_ble_eq_true rfl) dX8_isAtToken_10 ⟨Nat.zero_le _, Nat.zero_le _⟩ hS hA (fun H2 locs hk hS => ?_)
  have hP := kpP hP hk
  generalize H2 = H at hP hS ⊢
  refine lv_icmp_eq (tgt := 18) hx hb dX8_isAtToken_13 (by decide) (fun c10 => ?_) (fun c10 => ?_)
  · have hf := (if_pos c10).symm.trans hf
    refine lv_iconst (v := 0) hx hb dX8_isAtToken_18 (by decide) ?_
    refine lv_istore_n (lv' := [(2, .int 0), (0, .ref (h 31)), (1, .ref (aK w))]) hx hb dX8_isAtToken_19 rfl hl (by decide) rfl (fun ls hl => ?_)
    have L20 : ∀ (n : Nat) (y2 : Int32) (g : Nat → Nat → Option Nat) (LP : List Nat) (pf : Nat → va_E) (H : Heap) (locs : List Loc) (ls : Array Slot), lp (fun s => b_X8_isAtToken_31_w_20 S w s) n y2 = some r → va_P (dC, dI) vwCl (wC t h (h 8) g S ++ va_pl LP pf) H → va_D A (wC t h (h 8) g S ++ va_pl LP pf) → rlC g LP pf S → va_S A s.heap H locs → lv_has ls 3 [(0, .ref (h 31)), (1, .ref (aK w)), (2, .int y2)] → W p l e RRX8_isAtToken_31_w s m args below meth c H locs 0 0 (MQ below (qcCi dC dI t A h (h 8) r S) args s 0 0 A) (F0 m 20 ls []) := by
      intro n
      induction n with
      | zero => intro y2 g LP pf H locs ls hf; exact lp_z hf
      | succ n ih20 =>
        intro y2 g LP pf H locs ls hf hP hD hG hS hl
        obtain ⟨q20, hf, hq20⟩ := lp_i hf
        have hf : b_X8_isAtToken_31_w_20 S w y2 = some q20 := hf
        unfold b_X8_isAtToken_31_w_20 at hf
        refine lv_iload_n hx hb dX8_isAtToken_20 rfl (lv_at hl 2 rfl) ?_
        refine lv_aload_n hx hb dX8_isAtToken_21 rfl (lv_at hl 1 rfl) ?_
        obtain ⟨r3, er3, hf⟩ := bd hf
        refine klXVi (rest := [.int y2]) (As := []) ⟨hx, hb, hml, hown, hts⟩ (c_J0_length_8abf5 l ts aK aV H.size w hw  r3 er3) (fun _ _ _ _ h9 => h9.blind) (fun U hU hW => hE.go hS hU hW (fun q hq => hA q (Nat.le_trans hS.1 hq))) (cwV 0 hts gX8_isAtToken_J0_length_8abf5 rfl rfl rfl (by decide +kernel) ⟨Nat.le_of_ble_eq_true rfl, Nat.le_of_ble_eq_true rfl⟩) (vk_recv hE.2.2.2.2.2.2.2.2.1 hw hS) rfl hl.1 rfl (Nat.le_of_ble_eq_true rfl) dX8_isAtToken_22 ⟨Nat.zero_le _, Nat.zero_le _⟩ hS hA (fun H2 locs hk hS => ?_)
        have hP := kpP hP hk
        generalize H2 = H at hP hS ⊢
        refine lv_icmp_ge (tgt := 68) hx hb dX8_isAtToken_25 (by decide) (fun c9 => ?_) (fun c9 => ?_)
        · have hf := (if_pos c9).symm.trans hf
          refine lv_iconst (v := 1) hx hb dX8_isAtToken_68 (by decide) ?_
          have hf := lp_r hf hq20
          exact rtCz hx hb hr hlocks ⟨g, LP, pf, hP, hD, hG⟩ hS rfl (congrArg (fun z => some (z, S)) (Option.some.inj hf)) dX8_isAtToken_69
        · have hf := (if_neg c9).symm.trans hf
          refine lv_aload_n hx hb dX8_isAtToken_28 rfl (lv_at hl 0 rfl) ?_
          refine va_get (D := (dC, dI)) (ci := 8) (v := .int (S.1 4106 0)) (C := RX8) (T := TX8) (N := 9) hx hb hts hin8 hown hK hP 31 rfl rfl 6 (by decide) (hts _ lk72_8) (fun _ h9 => h9) rfl dX8_isAtToken_29 ?_
          refine lv_iload_n hx hb dX8_isAtToken_32 rfl (lv_at hl 2 rfl) ?_
          refine lv_iadd hx hb dX8_isAtToken_33 ?_
          refine lv_aload_n hx hb dX8_isAtToken_34 rfl (lv_at hl 0 rfl) ?_
          refine va_get (D := (dC, dI)) (ci := 8) (v := .int (S.1 4103 0)) (C := RX8) (T := TX8) (N := 9) hx hb hts hin8 hown hK hP 31 rfl rfl 3 (by decide) (hts _ lk39_8) (fun _ h9 => h9) rfl dX8_isAtToken_35 ?_
          refine lv_icmp_ge (tgt := 68) hx hb dX8_isAtToken_38 (by decide) (fun c8 => ?_) (fun c8 => ?_)
          · have hf := (if_pos c8).symm.trans hf
            refine lv_iconst (v := 1) hx hb dX8_isAtToken_68 (by decide) ?_
            have hf := lp_r hf hq20
            exact rtCz hx hb hr hlocks ⟨g, LP, pf, hP, hD, hG⟩ hS rfl (congrArg (fun z => some (z, S)) (Option.some.inj hf)) dX8_isAtToken_69
          · have hf := (if_neg c8).symm.trans hf
            refine lv_aload_n hx hb dX8_isAtToken_41 rfl (lv_at hl 0 rfl) ?_
            refine va_get (D := (dC, dI)) (ci := 8) (v := .ref (h 8)) (C := RX8) (T := TX8) (N := 9) hx hb hts hin8 hown hK hP 31 rfl rfl 2 (by decide) (hts _ lk28_8) (fun _ h9 => h9) rfl dX8_isAtToken_42 ?_
            refine lv_aload_n hx hb dX8_isAtToken_45 rfl (lv_at hl 0 rfl) ?_
            refine va_get (D := (dC, dI)) (ci := 8) (v := .int (S.1 4106 0)) (C := RX8) (T := TX8) (N := 9) hx hb hts hin8 hown hK hP 31 rfl rfl 6 (by decide) (hts _ lk72_8) (fun _ h9 => h9) rfl dX8_isAtToken_46 ?_
            refine lv_iload_n hx hb dX8_isAtToken_49 rfl (lv_at hl 2 rfl) ?_
            refine lv_iadd hx hb dX8_isAtToken_50 ?_
            obtain ⟨x4, hix4, ex4, hf⟩ := rd_b hf
            refine va_iald hx hb hK hP 8 0 rfl rfl hix4 dX8_isAtToken_51 (kI ex4 ?_)
            refine lv_aload_n hx hb dX8_isAtToken_52 rfl (lv_at hl 1 rfl) ?_
            refine lv_iload_n hx hb dX8_isAtToken_53 rfl (lv_at hl 2 rfl) ?_
            obtain ⟨r5, er5, hf⟩ := bd hf
            refine klXVi (rest := [.int x4]) (As := [.int y2]) ⟨hx, hb, hml, hown, hts⟩ (c_J0_charAt_5068e l ts aK aV H.size w hw y2 r5 er5) (fun _ _ _ _ h9 => h9.blind) (fun U hU hW => hE.go hS hU hW (fun q hq => hA q (Nat.le_trans hS.1 hq))) (cwV 1 hts gX8_isAtToken_J0_charAt_5068e rfl rfl rfl (by decide +kernel) ⟨Nat.le_of_ble_eq_true rfl, Nat.le_of_ble_eq_true rfl⟩) (vk_recv hE.2.2.2.2.2.2.2.2.1 hw hS) rfl hl.1 rfl (Nat.le_of_ble_eq_true rfl) dX8_isAtToken_54 ⟨Nat.zero_le _, Nat.zero_le _⟩ hS hA (fun H2 locs hk hS => ?_)
            have hP := kpP hP hk
            generalize H2 = H at hP hS ⊢
            refine lv_icmp_eq (tgt := 62) hx hb dX8_isAtToken_57 (by decide) (fun c7 => ?_) (fun c7 => ?_)
            · have hf := (if_pos c7).symm.trans hf
              obtain ⟨x6, ex6, hf⟩ := bn hf
              refine lv_iinc (v := x6) (lv' := [(2, .int x6), (0, .ref (h 31)), (1, .ref (aK w))]) hx hb dX8_isAtToken_62 hl (k := 2) rfl (by rw [ex6]; rfl) (by decide) rfl (fun ls hl => ?_)
              refine lv_goto (tgt := 20) hx hb dX8_isAtToken_65 (by decide) ?_
              exact ih20 x6 _ _ _ _ _ _ (lp_l hf hq20) hP hD hG hS (lv_sub hl [1, 2, 0] rfl)
            · have hf := (if_neg c7).symm.trans hf
              refine lv_iconst (v := 0) hx hb dX8_isAtToken_60 (by decide) ?_
              have hf := lp_r hf hq20
              exact rtCz hx hb hr hlocks ⟨g, LP, pf, hP, hD, hG⟩ hS rfl (congrArg (fun z => some (z, S)) (Option.some.inj hf)) dX8_isAtToken_61
    exact L20 FU 0 _ _ _ _ _ _ hf hP hD hG hS (lv_sub hl [1, 2, 0] rfl)
  · have hf := (if_neg c10).symm.trans hf
    refine lv_iconst (v := 0) hx hb dX8_isAtToken_16 (by decide) ?_
    exact rtCz hx hb hr hlocks ⟨g, LP, pf, hP, hD, hG⟩ hS rfl (congrArg (fun z => some (z, S)) (Option.some.inj hf)) dX8_isAtToken_17
