def f_X10_bad_0 (S : CS) (p0 : Int32) : Option (Int32 × CS) :=
  Option.bind (some (siI S 1006 (fun _ => (S.1 1006 0) + 1))) (fun S1 => some ((p0, S1)))
def rmX10_bad_0 : Room := { frames := 0, cells := 0, slots := 0, locals := 0 }
abbrev RRX10_bad_0 : Room := (headSpec wsX10_bad rmX10_bad_0).room
theorem in10_X10_bad_0 : ∀ w ∈ wsX100, w ∈ wsX10_bad := by decide +kernel
set_option maxHeartbeats 4000000 in
set_option maxRecDepth 100000 in
theorem c_X10_bad_0 (l : Launch) (dC : Nat → ClassId) (dI : Nat → Nat → Nat) (t : Nat → ClassId) (ts aK aV : Nat → Nat) (A : Nat → Prop) (h : Nat → Nat) (tx : Nat) (sz : Nat) (hA0 : ∀ q : Nat, sz ≤ q → A q) (S : CS) (p0 : Int32) (r : Int32) (S' : CS) (hf : f_X10_bad_0 S p0 = some (r, S')) : cCi l yX10_bad wsX10_bad rmX10_bad_0 dC dI t ts aK aV A h tx tx sz [.ref (h 0), .int p0] S r S' := by
  refine Met.ofW (cc := cX10_bad) (maxL := 2) (ret := (some .int)) (by decide) rfl ?_
  intro p e s m args below meth c s₁ B hml hv
  obtain ⟨hargs, hsz, hE, hC, hK⟩ := hv
  have hx := B.exec
  have hb := B.bytes
  have hr := B.returns
  have hts := atoms_spec (ws := wsX10_bad) B.pre
  have hown : s.vm.findClass RX10 = some m.cls := findClass_of_methodNamed B.named
  have hlocks := B.notSynchronized
  have hsz : s.heap.size = sz := hsz
  subst hsz
  have hin10 := in10_X10_bad_0
  have lk184_10 : Cond.fieldLink RX10 184 (TX10 6).1 (TX10 6).2.1 (TX10 6).2.2.1 ∈ wsX10_bad := by decide +kernel
  have hA : ∀ q : Nat, s.heap.size ≤ q → A q := hA0
  obtain ⟨g, LP, pf, hP, hD, hG⟩ := hC
  have hS : va_S A s.heap s.heap [] := va_S.rf
  have hl := lv_entry ([.ref (h 0), .int p0]) (n := 2) (Nat.le_of_ble_eq_true rfl)
  rw [show entryFrame m args 2 = entryFrame m ([.ref (h 0), .int p0] : List Value).toArray 2 from by rw [hargs], lg_entry_eq]
  generalize (lg_sl ([.ref (h 0), .int p0]) ++ List.replicate (2 - (lg_sl ([.ref (h 0), .int p0])).length) Slot.unset).toArray = ls at hl ⊢
  have hl : lv_has ls 2 [(0, .ref (h 0)), (1, .int p0)] := hl
  unfold f_X10_bad_0 at hf
  refine lv_aload_n hx hb dX10_bad_0 rfl (lv_at hl 0 rfl) ?_
  refine lv_dup hx hb dX10_bad_1 rfl ?_
  refine va_get (D := (dC, dI)) (ci := 10) (v := .int (S.1 1006 0)) (C := RX10) (T := TX10) (N := 9) hx hb hts hin10 hown hK hP 0 rfl rfl 6 (by decide) (hts _ lk184_10) (fun _ h9 => h9) rfl dX10_bad_2 ?_
  refine lv_iconst (v := 1) hx hb dX10_bad_5 (by decide) ?_
  refine lv_iadd hx hb dX10_bad_6 ?_
  obtain ⟨S1, eS1, hf⟩ := bn hf
  refine va_put (D := (dC, dI)) (ci := 10) (v := .int ((S.1 1006 0) + 1)) (ty := .int) (C := RX10) (T := TX10) (N := 9) hx hb hts hin10 tyX10 tyX10_ok nmX10 hown hK hP hD hS 0 rfl rfl 6 (by decide) (hts _ lk184_10) (fun _ h9 => h9) rfl (by decide +kernel) rfl rfl (Nat.le_of_ble_eq_true rfl) dX10_bad_7 (fun H locs hP hD hS => ?_)
  have hP : va_P (dC, dI) vwCl (wC t h tx g S1 ++ va_pl LP pf) H := by rw [eS1]; exact hP
  have hD : va_D A (wC t h tx g S1 ++ va_pl LP pf) := by rw [eS1]; exact hD
  have hG : rlC g LP pf S1 := by rw [eS1]; exact hG
  refine lv_iload_n hx hb dX10_bad_10 rfl (lv_at hl 1 rfl) ?_
  exact rtCi hx hb hr hlocks ⟨g, LP, pf, hP, hD, hG⟩ hS hf dX10_bad_11

def f_X10_changed_0 (S : CS)  : Option CS :=
  Option.bind (some (siI S 4300 (fun _ => 0))) (fun S1 => Option.bind (some (siI S1 5000 (fun _ => 0))) (fun S2 => some S2))
def rmX10_changed_0 : Room := { frames := 0, cells := 0, slots := 0, locals := 0 }
abbrev RRX10_changed_0 : Room := (headSpec wsX10_changed rmX10_changed_0).room
theorem in5_X10_changed_0 : ∀ w ∈ wsX50, w ∈ wsX10_changed := by decide +kernel
theorem in7_X10_changed_0 : ∀ w ∈ wsX70, w ∈ wsX10_changed := by decide +kernel
theorem in10_X10_changed_0 : ∀ w ∈ wsX100, w ∈ wsX10_changed := by decide +kernel
set_option maxHeartbeats 4000000 in
set_option maxRecDepth 100000 in
theorem c_X10_changed_0 (l : Launch) (dC : Nat → ClassId) (dI : Nat → Nat → Nat) (t : Nat → ClassId) (ts aK aV : Nat → Nat) (A : Nat → Prop) (h : Nat → Nat) (tx : Nat) (sz : Nat) (hA0 : ∀ q : Nat, sz ≤ q → A q) (S : CS)  (S' : CS) (hf : f_X10_changed_0 S = some S') : cCv l yX10_changed wsX10_changed rmX10_changed_0 dC dI t ts aK aV A h tx tx sz [.ref (h 0)] S S' := by
  refine Met.ofW (cc := cX10_changed) (maxL := 1) (ret := none) (by decide) rfl ?_
  intro p e s m args below meth c s₁ B hml hv
  obtain ⟨hargs, hsz, hE, hC, hK⟩ := hv
  have hx := B.exec
  have hb := B.bytes
  have hr := B.returns
  have hts := atoms_spec (ws := wsX10_changed) B.pre
  have hown : s.vm.findClass RX10 = some m.cls := findClass_of_methodNamed B.named
  have hlocks := B.notSynchronized
  have hsz : s.heap.size = sz := hsz
  subst hsz
  have hin5 := in5_X10_changed_0
  have hin7 := in7_X10_changed_0
  have hin10 := in10_X10_changed_0
  have lk34_10 : Cond.fieldLink RX10 34 (TX10 4).1 (TX10 4).2.1 (TX10 4).2.2.1 ∈ wsX10_changed := by decide +kernel
  have lk41_10 : Cond.fieldLink RX10 41 (TX10 5).1 (TX10 5).2.1 (TX10 5).2.2.1 ∈ wsX10_changed := by decide +kernel
  have lk194_7 : Cond.fieldLink RX10 194 (TX7 0).1 (TX7 0).2.1 (TX7 0).2.2.1 ∈ wsX10_changed := by decide +kernel
  have lk198_5 : Cond.fieldLink RX10 198 (TX5 0).1 (TX5 0).2.1 (TX5 0).2.2.1 ∈ wsX10_changed := by decide +kernel
  have hA : ∀ q : Nat, s.heap.size ≤ q → A q := hA0
  obtain ⟨g, LP, pf, hP, hD, hG⟩ := hC
  have hS : va_S A s.heap s.heap [] := va_S.rf
  have hl := lv_entry ([.ref (h 0)]) (n := 1) (Nat.le_of_ble_eq_true rfl)
  rw [show entryFrame m args 1 = entryFrame m ([.ref (h 0)] : List Value).toArray 1 from by rw [hargs], lg_entry_eq]
  generalize (lg_sl ([.ref (h 0)]) ++ List.replicate (1 - (lg_sl ([.ref (h 0)])).length) Slot.unset).toArray = ls at hl ⊢
  have hl : lv_has ls 1 [(0, .ref (h 0))] := hl
  unfold f_X10_changed_0 at hf
  refine lv_aload_n hx hb dX10_changed_0 rfl (lv_at hl 0 rfl) ?_
  refine va_get (D := (dC, dI)) (ci := 10) (v := .ref (h 33)) (C := RX10) (T := TX10) (N := 9) hx hb hts hin10 hown hK hP 0 rfl rfl 4 (by decide) (hts _ lk34_10) (fun _ h9 => h9) rfl dX10_changed_1 ?_
  refine lv_iconst (v := 0) hx hb dX10_changed_4 (by decide) ?_
  obtain ⟨S1, eS1, hf⟩ := bn hf
  refine va_put (D := (dC, dI)) (ci := 7) (v := .int 0) (ty := .boolean) (C := RX7) (T := TX7) (N := 12) hx hb hts hin7 tyX7 tyX7_ok nmX7 hown hK hP hD hS 33 rfl rfl 0 (by decide) (hts _ lk194_7) (fun _ h9 => h9) rfl (by decide +kernel) rfl rfl (Nat.le_of_ble_eq_true rfl) dX10_changed_5 (fun H locs hP hD hS => ?_)
  have hP : va_P (dC, dI) vwCl (wC t h tx g S1 ++ va_pl LP pf) H := by rw [eS1]; exact hP
  have hD : va_D A (wC t h tx g S1 ++ va_pl LP pf) := by rw [eS1]; exact hD
  have hG : rlC g LP pf S1 := by rw [eS1]; exact hG
  refine lv_aload_n hx hb dX10_changed_8 rfl (lv_at hl 0 rfl) ?_
  refine va_get (D := (dC, dI)) (ci := 10) (v := .ref (h 40)) (C := RX10) (T := TX10) (N := 9) hx hb hts hin10 hown hK hP 0 rfl rfl 5 (by decide) (hts _ lk41_10) (fun _ h9 => h9) rfl dX10_changed_9 ?_
  refine lv_iconst (v := 0) hx hb dX10_changed_12 (by decide) ?_
  obtain ⟨S2, eS2, hf⟩ := bn hf
  refine va_put (D := (dC, dI)) (ci := 5) (v := .int 0) (ty := .boolean) (C := RX5) (T := TX5) (N := 9) hx hb hts hin5 tyX5 tyX5_ok nmX5 hown hK hP hD hS 40 rfl rfl 0 (by decide) (hts _ lk198_5) (fun _ h9 => h9) rfl (by decide +kernel) rfl rfl (Nat.le_of_ble_eq_true rfl) dX10_changed_13 (fun H locs hP hD hS => ?_)
  have hP : va_P (dC, dI) vwCl (wC t h tx g S2 ++ va_pl LP pf) H := by rw [eS2]; exact hP
  have hD : va_D A (wC t h tx g S2 ++ va_pl LP pf) := by rw [eS2]; exact hD
  have hG : rlC g LP pf S2 := by rw [eS2]; exact hG
  exact rtCv hx hb hr hlocks ⟨g, LP, pf, hP, hD, hG⟩ hS hf dX10_changed_16

def f_X10_put_0 (S : CS) (p0 : Int32) (p1 : Int32) : Option (Int32 × CS) :=
  (if p0 < 0 then (bi2 (f_X10_bad_0 S (-2)) (fun r1 S2 => some ((r1, S2)))) else ((if 4 ≤ p0 then (bi2 (f_X10_bad_0 S (-2)) (fun r3 S4 => some ((r3, S4)))) else ((if p1 < 0 then (bi2 (f_X10_bad_0 S (-2)) (fun r5 S6 => some ((r5, S6)))) else (Option.bind (rdI 4 (ssI 3) p0) (fun x7 => (if p1 ≤ x7 then (Option.bind (rdI 4 (S.1 5) p0) (fun x8 => Option.bind (f_X10_changed_0 S) (fun S9 => Option.bind (wrI S9 5 4 p0 p1) (fun S10 => some ((x8, S10)))))) else (bi2 (f_X10_bad_0 S (-2)) (fun r11 S12 => some ((r11, S12))))))))))))
def rmX10_put_0 : Room := { frames := 1, cells := 0, slots := 0, locals := 21 }
abbrev RRX10_put_0 : Room := (headSpec wsX10_put rmX10_put_0).room
theorem in1_X10_put_0 : ∀ w ∈ wsX10, w ∈ wsX10_put := by decide +kernel
theorem in10_X10_put_0 : ∀ w ∈ wsX100, w ∈ wsX10_put := by decide +kernel
set_option maxHeartbeats 4000000 in
set_option maxRecDepth 100000 in
theorem c_X10_put_0 (l : Launch) (dC : Nat → ClassId) (dI : Nat → Nat → Nat) (t : Nat → ClassId) (ts aK aV : Nat → Nat) (A : Nat → Prop) (h : Nat → Nat) (tx : Nat) (sz : Nat) (hA0 : ∀ q : Nat, sz ≤ q → A q) (S : CS) (p0 : Int32) (p1 : Int32) (r : Int32) (S' : CS) (hf : f_X10_put_0 S p0 p1 = some (r, S')) : cCi l yX10_put wsX10_put rmX10_put_0 dC dI t ts aK aV A h tx tx sz [.ref (h 0), .int p0, .int p1] S r S' := by
  refine Met.ofW (cc := cX10_put) (maxL := 4) (ret := (some .int)) (by decide) rfl ?_
  intro p e s m args below meth c s₁ B hml hv
  obtain ⟨hargs, hsz, hE, hC, hK⟩ := hv
  have hx := B.exec
  have hb := B.bytes
  have hr := B.returns
  have hts := atoms_spec (ws := wsX10_put) B.pre
  have hown : s.vm.findClass RX10 = some m.cls := findClass_of_methodNamed B.named
  have hlocks := B.notSynchronized
  have hsz : s.heap.size = sz := hsz
  subst hsz
  have hin1 := in1_X10_put_0
  have hin10 := in10_X10_put_0
  have lk10_10 : Cond.fieldLink RX10 10 (TX10 0).1 (TX10 0).2.1 (TX10 0).2.2.1 ∈ wsX10_put := by decide +kernel
  have lk76_1 : Cond.fieldLink RX10 76 (TX1 1).1 (TX1 1).2.1 (TX1 1).2.2.1 ∈ wsX10_put := by decide +kernel
  have hA : ∀ q : Nat, s.heap.size ≤ q → A q := hA0
  obtain ⟨g, LP, pf, hP, hD, hG⟩ := hC
  have hS : va_S A s.heap s.heap [] := va_S.rf
  have hl := lv_entry ([.ref (h 0), .int p0, .int p1]) (n := 4) (Nat.le_of_ble_eq_true rfl)
  rw [show entryFrame m args 4 = entryFrame m ([.ref (h 0), .int p0, .int p1] : List Value).toArray 4 from by rw [hargs], lg_entry_eq]
  generalize (lg_sl ([.ref (h 0), .int p0, .int p1]) ++ List.replicate (4 - (lg_sl ([.ref (h 0), .int p0, .int p1])).length) Slot.unset).toArray = ls at hl ⊢
  have hl : lv_has ls 4 [(0, .ref (h 0)), (1, .int p0), (2, .int p1)] := hl
  unfold f_X10_put_0 at hf
  refine lv_iload_n hx hb dX10_put_0 rfl (lv_at hl 1 rfl) ?_
  refine lv_if_lt (tgt := 22) hx hb dX10_put_1 (by decide) (fun c16 => ?_) (fun c16 => ?_)
  · have hf := (if_pos c16).symm.trans hf
    refine lv_aload_n hx hb dX10_put_22 rfl (lv_at hl 0 rfl) ?_
    refine lv_bipush (v := (-2)) hx hb dX10_put_23 (by decide) ?_
    obtain ⟨r1, S2, er1, hf⟩ := b2 hf
    refine klCi (rest := []) (As := [.int (-2)]) ⟨hx, hb, hml, hown, hts⟩ (c_X10_bad_0 l dC dI t ts aK aV A h tx s.heap.size (fun q hq => hA q (Nat.le_trans hS.1 hq)) S (-2) r1 S2 er1) (cwV 1 hts gX10_put_X10_bad rfl rfl rfl (by decide +kernel) ⟨Nat.le_of_ble_eq_true rfl, Nat.le_of_ble_eq_true rfl⟩) (va_recv hK hP (ci := 10) (q0 := 0) rfl rfl) rfl hl.1 rfl (Nat.le_of_ble_eq_true rfl) dX10_put_25 ⟨Nat.zero_le _, Nat.zero_le _⟩ hE hK ⟨g, LP, pf, hP, hD, hG⟩ hS (fun H locs hC hS => ?_)
    obtain ⟨g, LP, pf, hP, hD, hG⟩ := hC
    exact rtCi hx hb hr hlocks ⟨g, LP, pf, hP, hD, hG⟩ hS hf dX10_put_28
  · have hf := (if_neg c16).symm.trans hf
    refine lv_iload_n hx hb dX10_put_4 rfl (lv_at hl 1 rfl) ?_
    refine lv_iconst (v := 4) hx hb dX10_put_5 (by decide) ?_
    refine lv_icmp_ge (tgt := 22) hx hb dX10_put_6 (by decide) (fun c15 => ?_) (fun c15 => ?_)
    · have hf := (if_pos c15).symm.trans hf
      refine lv_aload_n hx hb dX10_put_22 rfl (lv_at hl 0 rfl) ?_
      refine lv_bipush (v := (-2)) hx hb dX10_put_23 (by decide) ?_
      obtain ⟨r3, S4, er3, hf⟩ := b2 hf
      refine klCi (rest := []) (As := [.int (-2)]) ⟨hx, hb, hml, hown, hts⟩ (c_X10_bad_0 l dC dI t ts aK aV A h tx s.heap.size (fun q hq => hA q (Nat.le_trans hS.1 hq)) S (-2) r3 S4 er3) (cwV 1 hts gX10_put_X10_bad rfl rfl rfl (by decide +kernel) ⟨Nat.le_of_ble_eq_true rfl, Nat.le_of_ble_eq_true rfl⟩) (va_recv hK hP (ci := 10) (q0 := 0) rfl rfl) rfl hl.1 rfl (Nat.le_of_ble_eq_true rfl) dX10_put_25 ⟨Nat.zero_le _, Nat.zero_le _⟩ hE hK ⟨g, LP, pf, hP, hD, hG⟩ hS (fun H locs hC hS => ?_)
      obtain ⟨g, LP, pf, hP, hD, hG⟩ := hC
      exact rtCi hx hb hr hlocks ⟨g, LP, pf, hP, hD, hG⟩ hS hf dX10_put_28
    · have hf := (if_neg c15).symm.trans hf
      refine lv_iload_n hx hb dX10_put_9 rfl (lv_at hl 2 rfl) ?_
      refine lv_if_lt (tgt := 22) hx hb dX10_put_10 (by decide) (fun c14 => ?_) (fun c14 => ?_)
      · have hf := (if_pos c14).symm.trans hf
        refine lv_aload_n hx hb dX10_put_22 rfl (lv_at hl 0 rfl) ?_
        refine lv_bipush (v := (-2)) hx hb dX10_put_23 (by decide) ?_
        obtain ⟨r5, S6, er5, hf⟩ := b2 hf
        refine klCi (rest := []) (As := [.int (-2)]) ⟨hx, hb, hml, hown, hts⟩ (c_X10_bad_0 l dC dI t ts aK aV A h tx s.heap.size (fun q hq => hA q (Nat.le_trans hS.1 hq)) S (-2) r5 S6 er5) (cwV 1 hts gX10_put_X10_bad rfl rfl rfl (by decide +kernel) ⟨Nat.le_of_ble_eq_true rfl, Nat.le_of_ble_eq_true rfl⟩) (va_recv hK hP (ci := 10) (q0 := 0) rfl rfl) rfl hl.1 rfl (Nat.le_of_ble_eq_true rfl) dX10_put_25 ⟨Nat.zero_le _, Nat.zero_le _⟩ hE hK ⟨g, LP, pf, hP, hD, hG⟩ hS (fun H locs hC hS => ?_)
        obtain ⟨g, LP, pf, hP, hD, hG⟩ := hC
        exact rtCi hx hb hr hlocks ⟨g, LP, pf, hP, hD, hG⟩ hS hf dX10_put_28
      · have hf := (if_neg c14).symm.trans hf
        refine lv_iload_n hx hb dX10_put_13 rfl (lv_at hl 2 rfl) ?_
        refine va_gets hx hb hE.2.2.2.2.1.1 hS hown (hts (.fieldLink RX10 72 "OnlyTwo" "HIGHEST_NUMBER" "[I") (by decide +kernel)) (fun _ h9 => h9) dX10_put_14 ?_
        refine lv_iload_n hx hb dX10_put_17 rfl (lv_at hl 1 rfl) ?_
        obtain ⟨x7, hix7, ex7, hf⟩ := rd_b hf
        refine va_ti hx hb hE.2.2.2.2.1.2 hS hix7 rfl dX10_put_18 (kI ex7 ?_)
        refine lv_icmp_le (tgt := 29) hx hb dX10_put_19 (by decide) (fun c13 => ?_) (fun c13 => ?_)
        · have hf := (if_pos c13).symm.trans hf
          refine lv_aload_n hx hb dX10_put_29 rfl (lv_at hl 0 rfl) ?_
          refine va_get (D := (dC, dI)) (ci := 10) (v := .ref (h 3)) (C := RX10) (T := TX10) (N := 9) hx hb hts hin10 hown hK hP 0 rfl rfl 0 (by decide) (hts _ lk10_10) (fun _ h9 => h9) rfl dX10_put_30 ?_
          refine va_get (D := (dC, dI)) (ci := 1) (v := .ref (h 5)) (C := RX1) (T := TX1) (N := 10) hx hb hts hin1 hown hK hP 3 rfl rfl 1 (by decide) (hts _ lk76_1) (fun _ h9 => h9) rfl dX10_put_33 ?_
          refine lv_iload_n hx hb dX10_put_36 rfl (lv_at hl 1 rfl) ?_
          obtain ⟨x8, hix8, ex8, hf⟩ := rd_b hf
          refine va_iald hx hb hK hP 5 0 rfl rfl hix8 dX10_put_37 (kI ex8 ?_)
          refine lv_istore_n (lv' := [(3, .int x8), (0, .ref (h 0)), (1, .int p0), (2, .int p1)]) hx hb dX10_put_38 rfl hl (by decide) rfl (fun ls hl => ?_)
          refine lv_aload_n hx hb dX10_put_39 rfl (lv_at hl 1 rfl) ?_
          obtain ⟨S9, eS9, hf⟩ := bd hf
          refine klCv (rest := []) (As := []) ⟨hx, hb, hml, hown, hts⟩ (c_X10_changed_0 l dC dI t ts aK aV A h tx s.heap.size (fun q hq => hA q (Nat.le_trans hS.1 hq)) S S9 eS9) (cwV 0 hts gX10_put_X10_changed rfl rfl rfl (by decide +kernel) ⟨Nat.le_of_ble_eq_true rfl, Nat.le_of_ble_eq_true rfl⟩) (va_recv hK hP (ci := 10) (q0 := 0) rfl rfl) rfl hl.1 rfl (Nat.le_of_ble_eq_true rfl) dX10_put_40 ⟨Nat.zero_le _, Nat.zero_le _⟩ hE hK ⟨g, LP, pf, hP, hD, hG⟩ hS (fun H locs hC hS => ?_)
          obtain ⟨g, LP, pf, hP, hD, hG⟩ := hC
          refine lv_aload_n hx hb dX10_put_43 rfl (lv_at hl 1 rfl) ?_
          refine va_get (D := (dC, dI)) (ci := 10) (v := .ref (h 3)) (C := RX10) (T := TX10) (N := 9) hx hb hts hin10 hown hK hP 0 rfl rfl 0 (by decide) (hts _ lk10_10) (fun _ h9 => h9) rfl dX10_put_44 ?_
          refine va_get (D := (dC, dI)) (ci := 1) (v := .ref (h 5)) (C := RX1) (T := TX1) (N := 10) hx hb hts hin1 hown hK hP 3 rfl rfl 1 (by decide) (hts _ lk76_1) (fun _ h9 => h9) rfl dX10_put_47 ?_
          refine lv_iload_n hx hb dX10_put_50 rfl (lv_at hl 2 rfl) ?_
          refine lv_iload_n hx hb dX10_put_51 rfl (lv_at hl 3 rfl) ?_
          obtain ⟨S10, hiS10, eS10, hf⟩ := wrI_b hf
          refine va_iast hx hb hK hP hD hS 5 0 rfl rfl hiS10 dX10_put_52 (fun H locs hP hD hS => ?_)
          have hP : va_P (dC, dI) vwCl (wC t h tx g S10 ++ va_pl LP pf) H := by rw [eS10]; exact hP
          have hD : va_D A (wC t h tx g S10 ++ va_pl LP pf) := by rw [eS10]; exact hD
          have hG : rlC g LP pf S10 := by rw [eS10]; exact hG
          refine lv_iload_n hx hb dX10_put_53 rfl (lv_at hl 0 rfl) ?_
          exact rtCi hx hb hr hlocks ⟨g, LP, pf, hP, hD, hG⟩ hS hf dX10_put_54
        · have hf := (if_neg c13).symm.trans hf
          refine lv_aload_n hx hb dX10_put_22 rfl (lv_at hl 0 rfl) ?_
          refine lv_bipush (v := (-2)) hx hb dX10_put_23 (by decide) ?_
          obtain ⟨r11, S12, er11, hf⟩ := b2 hf
          refine klCi (rest := []) (As := [.int (-2)]) ⟨hx, hb, hml, hown, hts⟩ (c_X10_bad_0 l dC dI t ts aK aV A h tx s.heap.size (fun q hq => hA q (Nat.le_trans hS.1 hq)) S (-2) r11 S12 er11) (cwV 1 hts gX10_put_X10_bad rfl rfl rfl (by decide +kernel) ⟨Nat.le_of_ble_eq_true rfl, Nat.le_of_ble_eq_true rfl⟩) (va_recv hK hP (ci := 10) (q0 := 0) rfl rfl) rfl hl.1 rfl (Nat.le_of_ble_eq_true rfl) dX10_put_25 ⟨Nat.zero_le _, Nat.zero_le _⟩ hE hK ⟨g, LP, pf, hP, hD, hG⟩ hS (fun H locs hC hS => ?_)
          obtain ⟨g, LP, pf, hP, hD, hG⟩ := hC
          exact rtCi hx hb hr hlocks ⟨g, LP, pf, hP, hD, hG⟩ hS hf dX10_put_28

def f_X10_isMinute (p0 : Int32) : Option Int32 :=
  (if p0 < 0 then (some 0) else ((if 240 ≤ p0 then (some 0) else (some 1))))
def rmX10_isMinute : Room := { frames := 0, cells := 0, slots := 0, locals := 0 }
abbrev RRX10_isMinute : Room := (headSpec wsX10_isMinute rmX10_isMinute).room
set_option maxHeartbeats 4000000 in
set_option maxRecDepth 100000 in
theorem c_X10_isMinute (l : Launch) (sz : Nat) (p0 : Int32) (r : Int32) (hf : f_X10_isMinute p0 = some r) : cXi l yX10_isMinute wsX10_isMinute rmX10_isMinute sz [.int p0] (fun _ => True) r := by
  refine Met.ofW (cc := cX10_isMinute) (maxL := 1) (ret := (some .boolean)) (by decide) rfl ?_
  intro p e s m args below meth c s₁ B hml hv
  obtain ⟨hargs, hsz, hXX⟩ := hv
  have hx := B.exec
  have hb := B.bytes
  have hr := B.returns
  have hts := atoms_spec (ws := wsX10_isMinute) B.pre
  have hown : s.vm.findClass RX10 = some m.cls := findClass_of_methodNamed B.named
  have hlocks := B.notSynchronized
  have hsz : s.heap.size = sz := hsz
  subst hsz
  obtain ⟨A, hAe⟩ : ∃ A : Nat → Prop, A = fun q => s.heap.size ≤ q := ⟨_, rfl⟩
  rw [← hAe]
  have hA : ∀ q : Nat, s.heap.size ≤ q → A q := fun q h => by rw [hAe]; exact h
  have hS : va_S A s.heap s.heap [] := va_S.rf
  have hl := lv_entry ([.int p0]) (n := 1) (Nat.le_of_ble_eq_true rfl)
  rw [show entryFrame m args 1 = entryFrame m ([.int p0] : List Value).toArray 1 from by rw [hargs], lg_entry_eq]
  generalize (lg_sl ([.int p0]) ++ List.replicate (1 - (lg_sl ([.int p0])).length) Slot.unset).toArray = ls at hl ⊢
  have hl : lv_has ls 1 [(0, .int p0)] := hl
  unfold f_X10_isMinute at hf
  refine lv_iload_n hx hb dX10_isMinute_0 rfl (lv_at hl 0 rfl) ?_
  refine lv_if_lt (tgt := 15) hx hb dX10_isMinute_1 (by decide) (fun c2 => ?_) (fun c2 => ?_)
  · have hf := (if_pos c2).symm.trans hf
    refine lv_iconst (v := 0) hx hb dX10_isMinute_15 (by decide) ?_
    exact rtEz hx hb hr hlocks hS rfl hf dX10_isMinute_16
  · have hf := (if_neg c2).symm.trans hf
    refine lv_iload_n hx hb dX10_isMinute_4 rfl (lv_at hl 0 rfl) ?_
    refine lv_sipush (v := 240) hx hb dX10_isMinute_5 (by decide) ?_
    refine lv_icmp_ge (tgt := 15) hx hb dX10_isMinute_8 (by decide) (fun c1 => ?_) (fun c1 => ?_)
    · have hf := (if_pos c1).symm.trans hf
      refine lv_iconst (v := 0) hx hb dX10_isMinute_15 (by decide) ?_
      exact rtEz hx hb hr hlocks hS rfl hf dX10_isMinute_16
    · have hf := (if_neg c1).symm.trans hf
      refine lv_iconst (v := 1) hx hb dX10_isMinute_11 (by decide) ?_
      refine lv_goto (tgt := 16) hx hb dX10_isMinute_12 (by decide) ?_
      exact rtEz hx hb hr hlocks hS rfl hf dX10_isMinute_16

set_option maxHeartbeats 4000000 in
set_option maxRecDepth 100000 in
theorem vs_X10_of_94 {p : Program} {l : Launch} {e : Env} {R : Room} {s : State} {m : MethodId} {args : Array Value} {below : List Frame} {meth : Method} {c : Code} {H : Heap} {locs : List Loc} {cells slots : Nat} {Q : State → Prop} {pc : Nat} {ls : Array Slot} {rest As st : List Value} {dC : Nat → ClassId} {dI : Nat → Nat → Nat} {A : Nat → Prop} {nL : Nat} {ws : va_W} {tys : List (ClassId × FieldType)} {a k : Nat} {d : PD}  {r : Int32} (F : CallFix p m c cX10_of nL s args wsX10_of RX10) (hN : nwC s) (hK : va_K (dC, dI) vwCl tys s) (hP : va_P (dC, dI) vwCl ws H) (hk : ws[k]? = some (a, pdE d)) (hf : v_minutes d  = some r) (hAs : As = []) (hsize : ls.size = nL) (hst : st = As.reverse ++ .ref a :: rest) (hW : (rest.map fun v => v.category).sum ≤ 8) (hfr : 1 ≤ R.frames) (hlo : 20 ≤ R.locals) (hdg : decode cX10_of pc = .ok (.invokevirtual 94, 3)) (hS : va_S A s.heap H locs) (hA : ∀ q : Nat, s.heap.size ≤ q → A q)
    (kk : ∀ (H1 : Heap) (locs1 : List Loc), (∀ q : Nat, q < H.size → H1[q]? = H[q]?) → va_S A s.heap H1 locs1 → W p l e R s m args below meth c H1 locs1 cells slots Q (F0 m (pc + 3) ls (.int r :: rest))) (hce : cells ≤ R.cells) (hsl : slots ≤ R.slots) : W p l e R s m args below meth c H locs cells slots Q (F0 m pc ls st) := by
  subst hAs
  have hts := F.2.2.2.2
  unfold v_minutes at hf
  unfold pdE at hk
  rcases cls_cases d.2.2.2 with q | q | q | q | q | q
  · rw [q.2] at hk
    rw [if_pos q.1] at hf
    have hPa : va_P (dC, dI) vwCl [(a, .inr (4, pdV d))] H := hP.by (fun _ => k) (fun i q9 hq => by match i, hq with | 0, hq => cases hq; exact hk)
    exact klXUi (rest := rest) (As := []) F (c_X4_minutes_4 l dC dI H.size a d  r hf) (fun _ U g mk q => ⟨q.1.same rfl, q.2.1, va_K.moved (u := U) (U := U.calling g mk _) (Vm.Alike.refl U.vm) q.2.2⟩) (fun U hU hW => ⟨hN.warm hW, by rw [hU]; exact hPa, va_K.moved hW.alike (hK.sub [] rfl)⟩) (va_cwO 0 hts gX10_of_X4_minutes_u94X4 rfl rfl rfl (b0 := cX6_minutes) (m0 := 1) (r0 := (some .int)) (by decide +kernel) (by decide +kernel) ⟨Nat.le_trans (Nat.le_of_ble_eq_true rfl) hfr, Nat.le_trans (Nat.le_of_ble_eq_true rfl) hlo⟩) (va_recv (hK.sub (tys' := []) [] rfl) hPa (ci := 4) (q0 := 0) rfl rfl) rfl hsize hst hW hdg ⟨hce, hsl⟩ hS hA kk
  · rw [q.2.2] at hk
    rw [if_neg q.1] at hf
    rw [if_pos q.2.1] at hf
    have hPa : va_P (dC, dI) vwCl [(a, .inr (3, pdV d))] H := hP.by (fun _ => k) (fun i q9 hq => by match i, hq with | 0, hq => cases hq; exact hk)
    exact klXUi (rest := rest) (As := []) F (c_X6_minutes_3 l dC dI H.size a d  r hf) (fun _ U g mk q => ⟨q.1.same rfl, q.2.1, va_K.moved (u := U) (U := U.calling g mk _) (Vm.Alike.refl U.vm) q.2.2⟩) (fun U hU hW => ⟨hN.warm hW, by rw [hU]; exact hPa, va_K.moved hW.alike (hK.sub [] rfl)⟩) (va_cwU 0 hts gX10_of_X6_minutes_u94X3 rfl rfl rfl rfl (by decide +kernel) ⟨Nat.le_trans (Nat.le_of_ble_eq_true rfl) hfr, Nat.le_trans (Nat.le_of_ble_eq_true rfl) hlo⟩) (va_recv (hK.sub (tys' := []) [] rfl) hPa (ci := 3) (q0 := 0) rfl rfl) rfl hsize hst hW hdg ⟨hce, hsl⟩ hS hA kk
  · rw [q.2.2.2] at hk
    rw [if_neg q.1] at hf
    rw [if_neg q.2.1] at hf
    rw [if_pos q.2.2.1] at hf
    have hPa : va_P (dC, dI) vwCl [(a, .inr (9, pdV d))] H := hP.by (fun _ => k) (fun i q9 hq => by match i, hq with | 0, hq => cases hq; exact hk)
    exact klXUi (rest := rest) (As := []) F (c_X4_minutes_9 l dC dI H.size a d  r hf) (fun _ U g mk q => ⟨q.1.same rfl, q.2.1, va_K.moved (u := U) (U := U.calling g mk _) (Vm.Alike.refl U.vm) q.2.2⟩) (fun U hU hW => ⟨hN.warm hW, by rw [hU]; exact hPa, va_K.moved hW.alike (hK.sub [] rfl)⟩) (va_cwO 0 hts gX10_of_X4_minutes_u94X9 rfl rfl rfl (b0 := cX6_minutes) (m0 := 1) (r0 := (some .int)) (by decide +kernel) (by decide +kernel) ⟨Nat.le_trans (Nat.le_of_ble_eq_true rfl) hfr, Nat.le_trans (Nat.le_of_ble_eq_true rfl) hlo⟩) (va_recv (hK.sub (tys' := []) [] rfl) hPa (ci := 9) (q0 := 0) rfl rfl) rfl hsize hst hW hdg ⟨hce, hsl⟩ hS hA kk
  · rw [q.2.2.2.2] at hk
    rw [if_neg q.1] at hf
    rw [if_neg q.2.1] at hf
    rw [if_neg q.2.2.1] at hf
    rw [if_pos q.2.2.2.1] at hf
    have hPa : va_P (dC, dI) vwCl [(a, .inr (0, pdV d))] H := hP.by (fun _ => k) (fun i q9 hq => by match i, hq with | 0, hq => cases hq; exact hk)
    exact klXUi (rest := rest) (As := []) F (c_X6_minutes_0 l dC dI H.size a d  r hf) (fun _ U g mk q => ⟨q.1.same rfl, q.2.1, va_K.moved (u := U) (U := U.calling g mk _) (Vm.Alike.refl U.vm) q.2.2⟩) (fun U hU hW => ⟨hN.warm hW, by rw [hU]; exact hPa, va_K.moved hW.alike (hK.sub [] rfl)⟩) (va_cwU 0 hts gX10_of_X6_minutes_u94X0 rfl rfl rfl rfl (by decide +kernel) ⟨Nat.le_trans (Nat.le_of_ble_eq_true rfl) hfr, Nat.le_trans (Nat.le_of_ble_eq_true rfl) hlo⟩) (va_recv (hK.sub (tys' := []) [] rfl) hPa (ci := 0) (q0 := 0) rfl rfl) rfl hsize hst hW hdg ⟨hce, hsl⟩ hS hA kk
  · rw [q.2.2.2.2.2] at hk
    rw [if_neg q.1] at hf
    rw [if_neg q.2.1] at hf
    rw [if_neg q.2.2.1] at hf
    rw [if_neg q.2.2.2.1] at hf
    rw [if_pos q.2.2.2.2.1] at hf
    have hPa : va_P (dC, dI) vwCl [(a, .inr (2, pdV d))] H := hP.by (fun _ => k) (fun i q9 hq => by match i, hq with | 0, hq => cases hq; exact hk)
    exact klXUi (rest := rest) (As := []) F (c_X6_minutes_2 l dC dI H.size a d  r hf) (fun _ U g mk q => ⟨q.1.same rfl, q.2.1, va_K.moved (u := U) (U := U.calling g mk _) (Vm.Alike.refl U.vm) q.2.2⟩) (fun U hU hW => ⟨hN.warm hW, by rw [hU]; exact hPa, va_K.moved hW.alike (hK.sub [] rfl)⟩) (va_cwU 0 hts gX10_of_X6_minutes_u94X2 rfl rfl rfl rfl (by decide +kernel) ⟨Nat.le_trans (Nat.le_of_ble_eq_true rfl) hfr, Nat.le_trans (Nat.le_of_ble_eq_true rfl) hlo⟩) (va_recv (hK.sub (tys' := []) [] rfl) hPa (ci := 2) (q0 := 0) rfl rfl) rfl hsize hst hW hdg ⟨hce, hsl⟩ hS hA kk
  · rw [q.2.2.2.2.2] at hk
    rw [if_neg q.1] at hf
    rw [if_neg q.2.1] at hf
    rw [if_neg q.2.2.1] at hf
    rw [if_neg q.2.2.2.1] at hf
    rw [if_neg q.2.2.2.2.1] at hf
    have hPa : va_P (dC, dI) vwCl [(a, .inr (6, pdV d))] H := hP.by (fun _ => k) (fun i q9 hq => by match i, hq with | 0, hq => cases hq; exact hk)
    exact klXVi (rest := rest) (As := []) F (c_X6_minutes_6 l dC dI H.size a d  r hf) (fun _ U g mk q => ⟨q.1.same rfl, q.2.1, va_K.moved (u := U) (U := U.calling g mk _) (Vm.Alike.refl U.vm) q.2.2⟩) (fun U hU hW => ⟨hN.warm hW, by rw [hU]; exact hPa, va_K.moved hW.alike (hK.sub [] rfl)⟩) (cwV 0 hts gX10_of_X6_minutes rfl rfl rfl (by decide +kernel) ⟨Nat.le_trans (Nat.le_of_ble_eq_true rfl) hfr, Nat.le_trans (Nat.le_of_ble_eq_true rfl) hlo⟩) (va_recv (hK.sub (tys' := []) [] rfl) hPa (ci := 6) (q0 := 0) rfl rfl) rfl hsize hst hW hdg ⟨hce, hsl⟩ hS hA kk

def f_X10_of_0 (S : CS) (p0 : Int32) (p1 : Int32) (p2 : Int32) : Option (Int32 × CS) :=
  Option.bind (f_X1_hasPorter_3 S p0) (fun r1 => (if r1 = 0 then (bi2 (f_X10_bad_0 S (-2)) (fun r2 S3 => some ((r2, S3)))) else (Option.bind (f_X10_isMinute p1) (fun r4 => (if r4 = 0 then (bi2 (f_X10_bad_0 S (-2)) (fun r5 S6 => some ((r5, S6)))) else ((if p2 < 0 then (bi2 (f_X10_bad_0 S (-2)) (fun r7 S8 => some ((r7, S8)))) else ((if p2 ≤ 1 then ((if p2 = 0 then (Option.bind (f_X1_weightOf_3 S p0 p1) (fun r11 => some ((r11, S)))) else (Option.bind (rdP (S.2.2 0) p0) (fun d9 => Option.bind (v_minutes d9 ) (fun r10 => some ((r10, S))))))) else (bi2 (f_X10_bad_0 S (-2)) (fun r13 S14 => some ((r13, S14)))))))))))))
def rmX10_of_0 : Room := { frames := 2, cells := 0, slots := 0, locals := 44 }
abbrev RRX10_of_0 : Room := (headSpec wsX10_of rmX10_of_0).room
theorem in1_X10_of_0 : ∀ w ∈ wsX10, w ∈ wsX10_of := by decide +kernel
theorem in10_X10_of_0 : ∀ w ∈ wsX100, w ∈ wsX10_of := by decide +kernel
set_option maxHeartbeats 4000000 in
set_option maxRecDepth 100000 in
theorem c_X10_of_0 (l : Launch) (dC : Nat → ClassId) (dI : Nat → Nat → Nat) (t : Nat → ClassId) (ts aK aV : Nat → Nat) (A : Nat → Prop) (h : Nat → Nat) (tx : Nat) (sz : Nat) (hA0 : ∀ q : Nat, sz ≤ q → A q) (S : CS) (p0 : Int32) (p1 : Int32) (p2 : Int32) (r : Int32) (S' : CS) (hf : f_X10_of_0 S p0 p1 p2 = some (r, S')) : cCi l yX10_of wsX10_of rmX10_of_0 dC dI t ts aK aV A h tx tx sz [.ref (h 0), .int p0, .int p1, .int p2] S r S' := by
  refine Met.ofW (cc := cX10_of) (maxL := 4) (ret := (some .int)) (by decide) rfl ?_
  intro p e s m args below meth c s₁ B hml hv
  obtain ⟨hargs, hsz, hE, hC, hK⟩ := hv
  have hx := B.exec
  have hb := B.bytes
  have hr := B.returns
  have hts := atoms_spec (ws := wsX10_of) B.pre
  have hown : s.vm.findClass RX10 = some m.cls := findClass_of_methodNamed B.named
  have hlocks := B.notSynchronized
  have hsz : s.heap.size = sz := hsz
  subst hsz
  have hin1 := in1_X10_of_0
  have hin10 := in10_X10_of_0
  have lk10_10 : Cond.fieldLink RX10 10 (TX10 0).1 (TX10 0).2.1 (TX10 0).2.2.1 ∈ wsX10_of := by decide +kernel
  have lk90_1 : Cond.fieldLink RX10 90 (TX1 0).1 (TX1 0).2.1 (TX1 0).2.2.1 ∈ wsX10_of := by decide +kernel
  have hA : ∀ q : Nat, s.heap.size ≤ q → A q := hA0
  obtain ⟨g, LP, pf, hP, hD, hG⟩ := hC
  have hS : va_S A s.heap s.heap [] := va_S.rf
  have hl := lv_entry ([.ref (h 0), .int p0, .int p1, .int p2]) (n := 4) (Nat.le_of_ble_eq_true rfl)
  rw [show entryFrame m args 4 = entryFrame m ([.ref (h 0), .int p0, .int p1, .int p2] : List Value).toArray 4 from by rw [hargs], lg_entry_eq]
  generalize (lg_sl ([.ref (h 0), .int p0, .int p1, .int p2]) ++ List.replicate (4 - (lg_sl ([.ref (h 0), .int p0, .int p1, .int p2])).length) Slot.unset).toArray = ls at hl ⊢
  have hl : lv_has ls 4 [(0, .ref (h 0)), (1, .int p0), (2, .int p1), (3, .int p2)] := hl
  unfold f_X10_of_0 at hf
  refine lv_aload_n hx hb dX10_of_0 rfl (lv_at hl 0 rfl) ?_
  refine va_get (D := (dC, dI)) (ci := 10) (v := .ref (h 3)) (C := RX10) (T := TX10) (N := 9) hx hb hts hin10 hown hK hP 0 rfl rfl 0 (by decide) (hts _ lk10_10) (fun _ h9 => h9) rfl dX10_of_1 ?_
  refine lv_iload_n hx hb dX10_of_4 rfl (lv_at hl 1 rfl) ?_
  obtain ⟨r1, er1, hf⟩ := bd hf
  refine klCi (rest := []) (As := [.int p0]) ⟨hx, hb, hml, hown, hts⟩ (c_X1_hasPorter_3 l dC dI t ts aK aV A h tx s.heap.size (fun q hq => hA q (Nat.le_trans hS.1 hq)) S p0 r1 er1) (cwV 1 hts gX10_of_X1_hasPorter rfl rfl rfl (by decide +kernel) ⟨Nat.le_of_ble_eq_true rfl, Nat.le_of_ble_eq_true rfl⟩) (va_recv hK hP (ci := 1) (q0 := 3) rfl rfl) rfl hl.1 rfl (Nat.le_of_ble_eq_true rfl) dX10_of_5 ⟨Nat.zero_le _, Nat.zero_le _⟩ hE hK ⟨g, LP, pf, hP, hD, hG⟩ hS (fun H locs hC hS => ?_)
  obtain ⟨g, LP, pf, hP, hD, hG⟩ := hC
  refine lv_if_eq (tgt := 27) hx hb dX10_of_8 (by decide) (fun c18 => ?_) (fun c18 => ?_)
  · have hf := (if_pos c18).symm.trans hf
    refine lv_aload_n hx hb dX10_of_27 rfl (lv_at hl 0 rfl) ?_
    refine lv_bipush (v := (-2)) hx hb dX10_of_28 (by decide) ?_
    obtain ⟨r2, S3, er2, hf⟩ := b2 hf
    refine klCi (rest := []) (As := [.int (-2)]) ⟨hx, hb, hml, hown, hts⟩ (c_X10_bad_0 l dC dI t ts aK aV A h tx H.size (fun q hq => hA q (Nat.le_trans hS.1 hq)) S (-2) r2 S3 er2) (cwV 1 hts gX10_of_X10_bad rfl rfl rfl (by decide +kernel) ⟨Nat.le_of_ble_eq_true rfl, Nat.le_of_ble_eq_true rfl⟩) (va_recv hK hP (ci := 10) (q0 := 0) rfl rfl) rfl hl.1 rfl (Nat.le_of_ble_eq_true rfl) dX10_of_30 ⟨Nat.zero_le _, Nat.zero_le _⟩ hE hK ⟨g, LP, pf, hP, hD, hG⟩ hS (fun H locs hC hS => ?_)
    obtain ⟨g, LP, pf, hP, hD, hG⟩ := hC
    exact rtCi hx hb hr hlocks ⟨g, LP, pf, hP, hD, hG⟩ hS hf dX10_of_33
  · have hf := (if_neg c18).symm.trans hf
    refine lv_iload_n hx hb dX10_of_11 rfl (lv_at hl 2 rfl) ?_
    obtain ⟨r4, er4, hf⟩ := bd hf
    refine klXi (rest := []) (As := [.int p1]) ⟨hx, hb, hml, hown, hts⟩ (c_X10_isMinute l H.size p1 r4 er4) (fun _ _ _ _ _ => trivial) (fun _ _ _ => trivial) (va_cwS 1 hts gX10_of_X10_isMinute rfl rfl rfl (by decide +kernel) ⟨Nat.le_of_ble_eq_true rfl, Nat.le_of_ble_eq_true rfl⟩) rfl hl.1 rfl (Nat.le_of_ble_eq_true rfl) dX10_of_12 ⟨Nat.zero_le _, Nat.zero_le _⟩ hS hA (fun H2 locs hk hS => ?_)
    have hP := kpP hP hk
    generalize H2 = H at hP hS ⊢
    refine lv_if_eq (tgt := 27) hx hb dX10_of_15 (by decide) (fun c17 => ?_) (fun c17 => ?_)
    · have hf := (if_pos c17).symm.trans hf
      refine lv_aload_n hx hb dX10_of_27 rfl (lv_at hl 0 rfl) ?_
      refine lv_bipush (v := (-2)) hx hb dX10_of_28 (by decide) ?_
      obtain ⟨r5, S6, er5, hf⟩ := b2 hf
      refine klCi (rest := []) (As := [.int (-2)]) ⟨hx, hb, hml, hown, hts⟩ (c_X10_bad_0 l dC dI t ts aK aV A h tx H.size (fun q hq => hA q (Nat.le_trans hS.1 hq)) S (-2) r5 S6 er5) (cwV 1 hts gX10_of_X10_bad rfl rfl rfl (by decide +kernel) ⟨Nat.le_of_ble_eq_true rfl, Nat.le_of_ble_eq_true rfl⟩) (va_recv hK hP (ci := 10) (q0 := 0) rfl rfl) rfl hl.1 rfl (Nat.le_of_ble_eq_true rfl) dX10_of_30 ⟨Nat.zero_le _, Nat.zero_le _⟩ hE hK ⟨g, LP, pf, hP, hD, hG⟩ hS (fun H locs hC hS => ?_)
      obtain ⟨g, LP, pf, hP, hD, hG⟩ := hC
      exact rtCi hx hb hr hlocks ⟨g, LP, pf, hP, hD, hG⟩ hS hf dX10_of_33
    · have hf := (if_neg c17).symm.trans hf
      refine lv_iload_n hx hb dX10_of_18 rfl (lv_at hl 3 rfl) ?_
      refine lv_if_lt (tgt := 27) hx hb dX10_of_19 (by decide) (fun c16 => ?_) (fun c16 => ?_)
      · have hf := (if_pos c16).symm.trans hf
        refine lv_aload_n hx hb dX10_of_27 rfl (lv_at hl 0 rfl) ?_
        refine lv_bipush (v := (-2)) hx hb dX10_of_28 (by decide) ?_
        obtain ⟨r7, S8, er7, hf⟩ := b2 hf
        refine klCi (rest := []) (As := [.int (-2)]) ⟨hx, hb, hml, hown, hts⟩ (c_X10_bad_0 l dC dI t ts aK aV A h tx H.size (fun q hq => hA q (Nat.le_trans hS.1 hq)) S (-2) r7 S8 er7) (cwV 1 hts gX10_of_X10_bad rfl rfl rfl (by decide +kernel) ⟨Nat.le_of_ble_eq_true rfl, Nat.le_of_ble_eq_true rfl⟩) (va_recv hK hP (ci := 10) (q0 := 0) rfl rfl) rfl hl.1 rfl (Nat.le_of_ble_eq_true rfl) dX10_of_30 ⟨Nat.zero_le _, Nat.zero_le _⟩ hE hK ⟨g, LP, pf, hP, hD, hG⟩ hS (fun H locs hC hS => ?_)
        obtain ⟨g, LP, pf, hP, hD, hG⟩ := hC
        exact rtCi hx hb hr hlocks ⟨g, LP, pf, hP, hD, hG⟩ hS hf dX10_of_33
      · have hf := (if_neg c16).symm.trans hf
        refine lv_iload_n hx hb dX10_of_22 rfl (lv_at hl 3 rfl) ?_
        refine lv_iconst (v := 1) hx hb dX10_of_23 (by decide) ?_
        refine lv_icmp_le (tgt := 34) hx hb dX10_of_24 (by decide) (fun c15 => ?_) (fun c15 => ?_)
        · have hf := (if_pos c15).symm.trans hf
          refine lv_iload_n hx hb dX10_of_34 rfl (lv_at hl 3 rfl) ?_
          refine lv_if_ne (tgt := 50) hx hb dX10_of_35 (by decide) (fun c12 => ?_) (fun c12 => ?_)
          · have hf := (if_neg c12).symm.trans hf
            refine lv_aload_n hx hb dX10_of_50 rfl (lv_at hl 0 rfl) ?_
            refine va_get (D := (dC, dI)) (ci := 10) (v := .ref (h 3)) (C := RX10) (T := TX10) (N := 9) hx hb hts hin10 hown hK hP 0 rfl rfl 0 (by decide) (hts _ lk10_10) (fun _ h9 => h9) rfl dX10_of_51 ?_
            refine va_get (D := (dC, dI)) (ci := 1) (v := .ref (h 4)) (C := RX1) (T := TX1) (N := 10) hx hb hts hin1 hown hK hP 3 rfl rfl 0 (by decide) (hts _ lk90_1) (fun _ h9 => h9) rfl dX10_of_54 ?_
            refine lv_iload_n hx hb dX10_of_57 rfl (lv_at hl 1 rfl) ?_
            obtain ⟨d9, hid9, ed9, hf⟩ := rdP_b hf
            obtain ⟨ad9, gad9, lad9, pad9⟩ := hG 0 (by decide) _ (in_lt hid9)
            rw [← ed9] at pad9
            obtain ⟨kd9, hkd9⟩ := va_pl_get (X := wC t h tx g S) (f := pf) lad9
            rw [pad9] at hkd9
            refine va_aldq hx hb hK hP 4 4 rfl rfl hid9 dX10_of_58 (kR gad9 ?_)
            obtain ⟨r10, er10, hf⟩ := bd hf
            refine vs_X10_of_94 (rest := []) (As := []) ⟨hx, hb, hml, hown, hts⟩ hE.1 hK hP hkd9 er10 rfl hl.1 rfl (Nat.le_of_ble_eq_true rfl) (Nat.le_of_ble_eq_true rfl) (Nat.le_of_ble_eq_true rfl) dX10_of_59 hS hA (fun H2 locs hk2 hS => ?_) (Nat.zero_le _) (Nat.zero_le _)
            have hP := kpP hP hk2
            generalize H2 = H at hP hS ⊢
            exact rtCi hx hb hr hlocks ⟨g, LP, pf, hP, hD, hG⟩ hS hf dX10_of_62
          · have hf := (if_pos c12).symm.trans hf
            refine lv_aload_n hx hb dX10_of_38 rfl (lv_at hl 0 rfl) ?_
            refine va_get (D := (dC, dI)) (ci := 10) (v := .ref (h 3)) (C := RX10) (T := TX10) (N := 9) hx hb hts hin10 hown hK hP 0 rfl rfl 0 (by decide) (hts _ lk10_10) (fun _ h9 => h9) rfl dX10_of_39 ?_
            refine lv_iload_n hx hb dX10_of_42 rfl (lv_at hl 1 rfl) ?_
            refine lv_iload_n hx hb dX10_of_43 rfl (lv_at hl 2 rfl) ?_
            obtain ⟨r11, er11, hf⟩ := bd hf
            refine klCi (rest := []) (As := [.int p0, .int p1]) ⟨hx, hb, hml, hown, hts⟩ (c_X1_weightOf_3 l dC dI t ts aK aV A h tx H.size (fun q hq => hA q (Nat.le_trans hS.1 hq)) S p0 p1 r11 er11) (cwV 2 hts gX10_of_X1_weightOf rfl rfl rfl (by decide +kernel) ⟨Nat.le_of_ble_eq_true rfl, Nat.le_of_ble_eq_true rfl⟩) (va_recv hK hP (ci := 1) (q0 := 3) rfl rfl) rfl hl.1 rfl (Nat.le_of_ble_eq_true rfl) dX10_of_44 ⟨Nat.zero_le _, Nat.zero_le _⟩ hE hK ⟨g, LP, pf, hP, hD, hG⟩ hS (fun H locs hC hS => ?_)
            obtain ⟨g, LP, pf, hP, hD, hG⟩ := hC
            refine lv_goto (tgt := 62) hx hb dX10_of_47 (by decide) ?_
            exact rtCi hx hb hr hlocks ⟨g, LP, pf, hP, hD, hG⟩ hS hf dX10_of_62
        · have hf := (if_neg c15).symm.trans hf
          refine lv_aload_n hx hb dX10_of_27 rfl (lv_at hl 0 rfl) ?_
          refine lv_bipush (v := (-2)) hx hb dX10_of_28 (by decide) ?_
          obtain ⟨r13, S14, er13, hf⟩ := b2 hf
          refine klCi (rest := []) (As := [.int (-2)]) ⟨hx, hb, hml, hown, hts⟩ (c_X10_bad_0 l dC dI t ts aK aV A h tx H.size (fun q hq => hA q (Nat.le_trans hS.1 hq)) S (-2) r13 S14 er13) (cwV 1 hts gX10_of_X10_bad rfl rfl rfl (by decide +kernel) ⟨Nat.le_of_ble_eq_true rfl, Nat.le_of_ble_eq_true rfl⟩) (va_recv hK hP (ci := 10) (q0 := 0) rfl rfl) rfl hl.1 rfl (Nat.le_of_ble_eq_true rfl) dX10_of_30 ⟨Nat.zero_le _, Nat.zero_le _⟩ hE hK ⟨g, LP, pf, hP, hD, hG⟩ hS (fun H locs hC hS => ?_)
          obtain ⟨g, LP, pf, hP, hD, hG⟩ := hC
          exact rtCi hx hb hr hlocks ⟨g, LP, pf, hP, hD, hG⟩ hS hf dX10_of_33

def f_X10_why_0 (S : CS) (p0 : Int32) (p1 : Int32) : Option (Int32 × CS) :=
  (if p0 < 1 then (bi2 (f_X10_bad_0 S (-2)) (fun r1 S2 => some ((r1, S2)))) else (Option.bind (f_X1_hasSet_3 S p0) (fun r3 => (if r3 = 0 then (bi2 (f_X10_bad_0 S (-2)) (fun r4 S5 => some ((r4, S5)))) else (Option.bind (f_X10_isMinute p1) (fun r6 => (if r6 = 0 then (bi2 (f_X10_bad_0 S (-2)) (fun r9 S10 => some ((r9, S10)))) else (Option.bind (f_X1_isNight_3 S p1) (fun r7 => Option.bind (f_X1_whyNot_3 S p0 p1 r7) (fun r8 => some ((r8, S))))))))))))
def rmX10_why_0 : Room := { frames := 4, cells := 0, slots := 0, locals := 92 }
abbrev RRX10_why_0 : Room := (headSpec wsX10_why rmX10_why_0).room
theorem in10_X10_why_0 : ∀ w ∈ wsX100, w ∈ wsX10_why := by decide +kernel
set_option maxHeartbeats 4000000 in
set_option maxRecDepth 100000 in
theorem c_X10_why_0 (l : Launch) (dC : Nat → ClassId) (dI : Nat → Nat → Nat) (t : Nat → ClassId) (ts aK aV : Nat → Nat) (A : Nat → Prop) (h : Nat → Nat) (tx : Nat) (sz : Nat) (hA0 : ∀ q : Nat, sz ≤ q → A q) (S : CS) (p0 : Int32) (p1 : Int32) (r : Int32) (S' : CS) (hf : f_X10_why_0 S p0 p1 = some (r, S')) : cCi l yX10_why wsX10_why rmX10_why_0 dC dI t ts aK aV A h tx tx sz [.ref (h 0), .int p0, .int p1] S r S' := by
  refine Met.ofW (cc := cX10_why) (maxL := 3) (ret := (some .int)) (by decide) rfl ?_
  intro p e s m args below meth c s₁ B hml hv
  obtain ⟨hargs, hsz, hE, hC, hK⟩ := hv
  have hx := B.exec
  have hb := B.bytes
  have hr := B.returns
  have hts := atoms_spec (ws := wsX10_why) B.pre
  have hown : s.vm.findClass RX10 = some m.cls := findClass_of_methodNamed B.named
  have hlocks := B.notSynchronized
  have hsz : s.heap.size = sz := hsz
  subst hsz
  have hin10 := in10_X10_why_0
  have lk10_10 : Cond.fieldLink RX10 10 (TX10 0).1 (TX10 0).2.1 (TX10 0).2.2.1 ∈ wsX10_why := by decide +kernel
  have hA : ∀ q : Nat, s.heap.size ≤ q → A q := hA0
  obtain ⟨g, LP, pf, hP, hD, hG⟩ := hC
  have hS : va_S A s.heap s.heap [] := va_S.rf
  have hl := lv_entry ([.ref (h 0), .int p0, .int p1]) (n := 3) (Nat.le_of_ble_eq_true rfl)
  rw [show entryFrame m args 3 = entryFrame m ([.ref (h 0), .int p0, .int p1] : List Value).toArray 3 from by rw [hargs], lg_entry_eq]
  generalize (lg_sl ([.ref (h 0), .int p0, .int p1]) ++ List.replicate (3 - (lg_sl ([.ref (h 0), .int p0, .int p1])).length) Slot.unset).toArray = ls at hl ⊢
  have hl : lv_has ls 3 [(0, .ref (h 0)), (1, .int p0), (2, .int p1)] := hl
  unfold f_X10_why_0 at hf
  refine lv_iload_n hx hb dX10_why_0 rfl (lv_at hl 1 rfl) ?_
  refine lv_iconst (v := 1) hx hb dX10_why_1 (by decide) ?_
  refine lv_icmp_lt (tgt := 23) hx hb dX10_why_2 (by decide) (fun c13 => ?_) (fun c13 => ?_)
  · have hf := (if_pos c13).symm.trans hf
    refine lv_aload_n hx hb dX10_why_23 rfl (lv_at hl 0 rfl) ?_
    refine lv_bipush (v := (-2)) hx hb dX10_why_24 (by decide) ?_
    obtain ⟨r1, S2, er1, hf⟩ := b2 hf
    refine klCi (rest := []) (As := [.int (-2)]) ⟨hx, hb, hml, hown, hts⟩ (c_X10_bad_0 l dC dI t ts aK aV A h tx s.heap.size (fun q hq => hA q (Nat.le_trans hS.1 hq)) S (-2) r1 S2 er1) (cwV 1 hts gX10_why_X10_bad rfl rfl rfl (by decide +kernel) ⟨Nat.le_of_ble_eq_true rfl, Nat.le_of_ble_eq_true rfl⟩) (va_recv hK hP (ci := 10) (q0 := 0) rfl rfl) rfl hl.1 rfl (Nat.le_of_ble_eq_true rfl) dX10_why_26 ⟨Nat.zero_le _, Nat.zero_le _⟩ hE hK ⟨g, LP, pf, hP, hD, hG⟩ hS (fun H locs hC hS => ?_)
    obtain ⟨g, LP, pf, hP, hD, hG⟩ := hC
    exact rtCi hx hb hr hlocks ⟨g, LP, pf, hP, hD, hG⟩ hS hf dX10_why_29
  · have hf := (if_neg c13).symm.trans hf
    refine lv_aload_n hx hb dX10_why_5 rfl (lv_at hl 0 rfl) ?_
    refine va_get (D := (dC, dI)) (ci := 10) (v := .ref (h 3)) (C := RX10) (T := TX10) (N := 9) hx hb hts hin10 hown hK hP 0 rfl rfl 0 (by decide) (hts _ lk10_10) (fun _ h9 => h9) rfl dX10_why_6 ?_
    refine lv_iload_n hx hb dX10_why_9 rfl (lv_at hl 1 rfl) ?_
    obtain ⟨r3, er3, hf⟩ := bd hf
    refine klCi (rest := []) (As := [.int p0]) ⟨hx, hb, hml, hown, hts⟩ (c_X1_hasSet_3 l dC dI t ts aK aV A h tx s.heap.size (fun q hq => hA q (Nat.le_trans hS.1 hq)) S p0 r3 er3) (cwV 1 hts gX10_why_X1_hasSet rfl rfl rfl (by decide +kernel) ⟨Nat.le_of_ble_eq_true rfl, Nat.le_of_ble_eq_true rfl⟩) (va_recv hK hP (ci := 1) (q0 := 3) rfl rfl) rfl hl.1 rfl (Nat.le_of_ble_eq_true rfl) dX10_why_10 ⟨Nat.zero_le _, Nat.zero_le _⟩ hE hK ⟨g, LP, pf, hP, hD, hG⟩ hS (fun H locs hC hS => ?_)
    obtain ⟨g, LP, pf, hP, hD, hG⟩ := hC
    refine lv_if_eq (tgt := 23) hx hb dX10_why_13 (by decide) (fun c12 => ?_) (fun c12 => ?_)
    · have hf := (if_pos c12).symm.trans hf
      refine lv_aload_n hx hb dX10_why_23 rfl (lv_at hl 0 rfl) ?_
      refine lv_bipush (v := (-2)) hx hb dX10_why_24 (by decide) ?_
      obtain ⟨r4, S5, er4, hf⟩ := b2 hf
      refine klCi (rest := []) (As := [.int (-2)]) ⟨hx, hb, hml, hown, hts⟩ (c_X10_bad_0 l dC dI t ts aK aV A h tx H.size (fun q hq => hA q (Nat.le_trans hS.1 hq)) S (-2) r4 S5 er4) (cwV 1 hts gX10_why_X10_bad rfl rfl rfl (by decide +kernel) ⟨Nat.le_of_ble_eq_true rfl, Nat.le_of_ble_eq_true rfl⟩) (va_recv hK hP (ci := 10) (q0 := 0) rfl rfl) rfl hl.1 rfl (Nat.le_of_ble_eq_true rfl) dX10_why_26 ⟨Nat.zero_le _, Nat.zero_le _⟩ hE hK ⟨g, LP, pf, hP, hD, hG⟩ hS (fun H locs hC hS => ?_)
      obtain ⟨g, LP, pf, hP, hD, hG⟩ := hC
      exact rtCi hx hb hr hlocks ⟨g, LP, pf, hP, hD, hG⟩ hS hf dX10_why_29
    · have hf := (if_neg c12).symm.trans hf
      refine lv_iload_n hx hb dX10_why_16 rfl (lv_at hl 2 rfl) ?_
      obtain ⟨r6, er6, hf⟩ := bd hf
      refine klXi (rest := []) (As := [.int p1]) ⟨hx, hb, hml, hown, hts⟩ (c_X10_isMinute l H.size p1 r6 er6) (fun _ _ _ _ _ => trivial) (fun _ _ _ => trivial) (va_cwS 1 hts gX10_why_X10_isMinute rfl rfl rfl (by decide +kernel) ⟨Nat.le_of_ble_eq_true rfl, Nat.le_of_ble_eq_true rfl⟩) rfl hl.1 rfl (Nat.le_of_ble_eq_true rfl) dX10_why_17 ⟨Nat.zero_le _, Nat.zero_le _⟩ hS hA (fun H2 locs hk hS => ?_)
      have hP := kpP hP hk
      generalize H2 = H at hP hS ⊢
      refine lv_if_ne (tgt := 30) hx hb dX10_why_20 (by decide) (fun c11 => ?_) (fun c11 => ?_)
      · have hf := (if_neg c11).symm.trans hf
        refine lv_aload_n hx hb dX10_why_30 rfl (lv_at hl 0 rfl) ?_
        refine va_get (D := (dC, dI)) (ci := 10) (v := .ref (h 3)) (C := RX10) (T := TX10) (N := 9) hx hb hts hin10 hown hK hP 0 rfl rfl 0 (by decide) (hts _ lk10_10) (fun _ h9 => h9) rfl dX10_why_31 ?_
        refine lv_iload_n hx hb dX10_why_34 rfl (lv_at hl 1 rfl) ?_
        refine lv_iload_n hx hb dX10_why_35 rfl (lv_at hl 2 rfl) ?_
        refine lv_aload_n hx hb dX10_why_36 rfl (lv_at hl 0 rfl) ?_
        refine va_get (D := (dC, dI)) (ci := 10) (v := .ref (h 3)) (C := RX10) (T := TX10) (N := 9) hx hb hts hin10 hown hK hP 0 rfl rfl 0 (by decide) (hts _ lk10_10) (fun _ h9 => h9) rfl dX10_why_37 ?_
        refine lv_iload_n hx hb dX10_why_40 rfl (lv_at hl 2 rfl) ?_
        obtain ⟨r7, er7, hf⟩ := bd hf
        refine klCi (rest := [.int p1, .int p0, .ref (h 3)]) (As := [.int p1]) ⟨hx, hb, hml, hown, hts⟩ (c_X1_isNight_3 l dC dI t ts aK aV A h tx H.size (fun q hq => hA q (Nat.le_trans hS.1 hq)) S p1 r7 er7) (cwV 1 hts gX10_why_X1_isNight rfl rfl rfl (by decide +kernel) ⟨Nat.le_of_ble_eq_true rfl, Nat.le_of_ble_eq_true rfl⟩) (va_recv hK hP (ci := 1) (q0 := 3) rfl rfl) rfl hl.1 rfl (Nat.le_of_ble_eq_true rfl) dX10_why_41 ⟨Nat.zero_le _, Nat.zero_le _⟩ hE hK ⟨g, LP, pf, hP, hD, hG⟩ hS (fun H locs hC hS => ?_)
        obtain ⟨g, LP, pf, hP, hD, hG⟩ := hC
        obtain ⟨r8, er8, hf⟩ := bd hf
        refine klCi (rest := []) (As := [.int p0, .int p1, .int r7]) ⟨hx, hb, hml, hown, hts⟩ (c_X1_whyNot_3 l dC dI t ts aK aV A h tx H.size (fun q hq => hA q (Nat.le_trans hS.1 hq)) S p0 p1 r7 r8 er8) (cwV 3 hts gX10_why_X1_whyNot rfl rfl rfl (by decide +kernel) ⟨Nat.le_of_ble_eq_true rfl, Nat.le_of_ble_eq_true rfl⟩) (va_recv hK hP (ci := 1) (q0 := 3) rfl rfl) rfl hl.1 rfl (Nat.le_of_ble_eq_true rfl) dX10_why_44 ⟨Nat.zero_le _, Nat.zero_le _⟩ hE hK ⟨g, LP, pf, hP, hD, hG⟩ hS (fun H locs hC hS => ?_)
        obtain ⟨g, LP, pf, hP, hD, hG⟩ := hC
        exact rtCi hx hb hr hlocks ⟨g, LP, pf, hP, hD, hG⟩ hS hf dX10_why_47
      · have hf := (if_pos c11).symm.trans hf
        refine lv_aload_n hx hb dX10_why_23 rfl (lv_at hl 0 rfl) ?_
        refine lv_bipush (v := (-2)) hx hb dX10_why_24 (by decide) ?_
        obtain ⟨r9, S10, er9, hf⟩ := b2 hf
        refine klCi (rest := []) (As := [.int (-2)]) ⟨hx, hb, hml, hown, hts⟩ (c_X10_bad_0 l dC dI t ts aK aV A h tx H.size (fun q hq => hA q (Nat.le_trans hS.1 hq)) S (-2) r9 S10 er9) (cwV 1 hts gX10_why_X10_bad rfl rfl rfl (by decide +kernel) ⟨Nat.le_of_ble_eq_true rfl, Nat.le_of_ble_eq_true rfl⟩) (va_recv hK hP (ci := 10) (q0 := 0) rfl rfl) rfl hl.1 rfl (Nat.le_of_ble_eq_true rfl) dX10_why_26 ⟨Nat.zero_le _, Nat.zero_le _⟩ hE hK ⟨g, LP, pf, hP, hD, hG⟩ hS (fun H locs hC hS => ?_)
        obtain ⟨g, LP, pf, hP, hD, hG⟩ := hC
        exact rtCi hx hb hr hlocks ⟨g, LP, pf, hP, hD, hG⟩ hS hf dX10_why_29

def f_X10_full_0 (S : CS)  : Option (Int32 × CS) :=
  Option.bind (some (siI S 1008 (fun _ => (S.1 1008 0) + 1))) (fun S1 => some (((-4), S1)))
def rmX10_full_0 : Room := { frames := 0, cells := 0, slots := 0, locals := 0 }
abbrev RRX10_full_0 : Room := (headSpec wsX10_full rmX10_full_0).room
theorem in10_X10_full_0 : ∀ w ∈ wsX100, w ∈ wsX10_full := by decide +kernel
set_option maxHeartbeats 4000000 in
set_option maxRecDepth 100000 in
theorem c_X10_full_0 (l : Launch) (dC : Nat → ClassId) (dI : Nat → Nat → Nat) (t : Nat → ClassId) (ts aK aV : Nat → Nat) (A : Nat → Prop) (h : Nat → Nat) (tx : Nat) (sz : Nat) (hA0 : ∀ q : Nat, sz ≤ q → A q) (S : CS)  (r : Int32) (S' : CS) (hf : f_X10_full_0 S = some (r, S')) : cCi l yX10_full wsX10_full rmX10_full_0 dC dI t ts aK aV A h tx tx sz [.ref (h 0)] S r S' := by
  refine Met.ofW (cc := cX10_full) (maxL := 1) (ret := (some .int)) (by decide) rfl ?_
  intro p e s m args below meth c s₁ B hml hv
  obtain ⟨hargs, hsz, hE, hC, hK⟩ := hv
  have hx := B.exec
  have hb := B.bytes
  have hr := B.returns
  have hts := atoms_spec (ws := wsX10_full) B.pre
  have hown : s.vm.findClass RX10 = some m.cls := findClass_of_methodNamed B.named
  have hlocks := B.notSynchronized
  have hsz : s.heap.size = sz := hsz
  subst hsz
  have hin10 := in10_X10_full_0
  have lk187_10 : Cond.fieldLink RX10 187 (TX10 8).1 (TX10 8).2.1 (TX10 8).2.2.1 ∈ wsX10_full := by decide +kernel
  have hA : ∀ q : Nat, s.heap.size ≤ q → A q := hA0
  obtain ⟨g, LP, pf, hP, hD, hG⟩ := hC
  have hS : va_S A s.heap s.heap [] := va_S.rf
  have hl := lv_entry ([.ref (h 0)]) (n := 1) (Nat.le_of_ble_eq_true rfl)
  rw [show entryFrame m args 1 = entryFrame m ([.ref (h 0)] : List Value).toArray 1 from by rw [hargs], lg_entry_eq]
  generalize (lg_sl ([.ref (h 0)]) ++ List.replicate (1 - (lg_sl ([.ref (h 0)])).length) Slot.unset).toArray = ls at hl ⊢
  have hl : lv_has ls 1 [(0, .ref (h 0))] := hl
  unfold f_X10_full_0 at hf
  refine lv_aload_n hx hb dX10_full_0 rfl (lv_at hl 0 rfl) ?_
  refine lv_dup hx hb dX10_full_1 rfl ?_
  refine va_get (D := (dC, dI)) (ci := 10) (v := .int (S.1 1008 0)) (C := RX10) (T := TX10) (N := 9) hx hb hts hin10 hown hK hP 0 rfl rfl 8 (by decide) (hts _ lk187_10) (fun _ h9 => h9) rfl dX10_full_2 ?_
  refine lv_iconst (v := 1) hx hb dX10_full_5 (by decide) ?_
  refine lv_iadd hx hb dX10_full_6 ?_
  obtain ⟨S1, eS1, hf⟩ := bn hf
  refine va_put (D := (dC, dI)) (ci := 10) (v := .int ((S.1 1008 0) + 1)) (ty := .int) (C := RX10) (T := TX10) (N := 9) hx hb hts hin10 tyX10 tyX10_ok nmX10 hown hK hP hD hS 0 rfl rfl 8 (by decide) (hts _ lk187_10) (fun _ h9 => h9) rfl (by decide +kernel) rfl rfl (Nat.le_of_ble_eq_true rfl) dX10_full_7 (fun H locs hP hD hS => ?_)
  have hP : va_P (dC, dI) vwCl (wC t h tx g S1 ++ va_pl LP pf) H := by rw [eS1]; exact hP
  have hD : va_D A (wC t h tx g S1 ++ va_pl LP pf) := by rw [eS1]; exact hD
  have hG : rlC g LP pf S1 := by rw [eS1]; exact hG
  refine lv_bipush (v := (-4)) hx hb dX10_full_10 (by decide) ?_
  exact rtCi hx hb hr hlocks ⟨g, LP, pf, hP, hD, hG⟩ hS hf dX10_full_12

def k_X10_type_0_43 (S4 : CS) : Option (Int32 × CS) :=
  some ((S4.1 1308 0, S4))
def b_X10_type_0_43 (p0 : Int64) (y5 : Int32) (S6 : CS) : Option ((Int32 × CS) ⊕ CS) :=
  (if y5 < 0 then (some (Sum.inr S6)) else (Option.bind (f_X1_addByte_3 S6 ((Int64.toInt32 ((Int64.toUInt64 p0 >>> ((Int32.toInt64 (8 * y5)).toUInt64 &&& Int64.toUInt64 63)).toInt64)) &&& 255)) (fun S7 => Option.bind (some (y5 + (-1))) (fun x8 => some (Sum.inl (x8, S7))))))
def f_X10_type_0 (S : CS) (p0 : Int64) (p1 : Int32) : Option (Int32 × CS) :=
  (if p1 < 1 then (bi2 (f_X10_bad_0 S (-2)) (fun r1 S2 => some ((r1, S2)))) else ((if p1 ≤ 8 then ((if ((S.1 1308 0) + p1) ≤ 200 then (Option.bind (some (p1 - 1)) (fun x3 => Option.bind (lp (fun s => b_X10_type_0_43 p0 s.1 s.2) FU (x3, S)) (fun s => k_X10_type_0_43 s))) else (bi2 (f_X10_full_0 S) (fun r10 S11 => some ((r10, S11)))))) else (bi2 (f_X10_bad_0 S (-2)) (fun r13 S14 => some ((r13, S14)))))))
def rmX10_type_0 : Room := { frames := 1, cells := 0, slots := 0, locals := 21 }
abbrev RRX10_type_0 : Room := (headSpec wsX10_type rmX10_type_0).room
theorem in1_X10_type_0 : ∀ w ∈ wsX10, w ∈ wsX10_type := by decide +kernel
theorem in10_X10_type_0 : ∀ w ∈ wsX100, w ∈ wsX10_type := by decide +kernel
set_option maxHeartbeats 4000000 in
set_option maxRecDepth 100000 in
theorem c_X10_type_0 (l : Launch) (dC : Nat → ClassId) (dI : Nat → Nat → Nat) (t : Nat → ClassId) (ts aK aV : Nat → Nat) (A : Nat → Prop) (h : Nat → Nat) (tx : Nat) (sz : Nat) (hA0 : ∀ q : Nat, sz ≤ q → A q) (S : CS) (p0 : Int64) (p1 : Int32) (r : Int32) (S' : CS) (hf : f_X10_type_0 S p0 p1 = some (r, S')) : cCi l yX10_type wsX10_type rmX10_type_0 dC dI t ts aK aV A h tx tx sz [.ref (h 0), .long p0, .int p1] S r S' := by
  refine Met.ofW (cc := cX10_type) (maxL := 5) (ret := (some .int)) (by decide) rfl ?_
  intro p e s m args below meth c s₁ B hml hv
  obtain ⟨hargs, hsz, hE, hC, hK⟩ := hv
  have hx := B.exec
  have hb := B.bytes
  have hr := B.returns
  have hts := atoms_spec (ws := wsX10_type) B.pre
  have hown : s.vm.findClass RX10 = some m.cls := findClass_of_methodNamed B.named
  have hlocks := B.notSynchronized
  have hsz : s.heap.size = sz := hsz
  subst hsz
  have hin1 := in1_X10_type_0
  have hin10 := in10_X10_type_0
  have lk10_10 : Cond.fieldLink RX10 10 (TX10 0).1 (TX10 0).2.1 (TX10 0).2.2.1 ∈ wsX10_type := by decide +kernel
  have lk109_1 : Cond.fieldLink RX10 109 (TX1 8).1 (TX1 8).2.1 (TX1 8).2.2.1 ∈ wsX10_type := by decide +kernel
  have hA : ∀ q : Nat, s.heap.size ≤ q → A q := hA0
  obtain ⟨g, LP, pf, hP, hD, hG⟩ := hC
  have hS : va_S A s.heap s.heap [] := va_S.rf
  have hl := lv_entry ([.ref (h 0), .long p0, .int p1]) (n := 5) (Nat.le_of_ble_eq_true rfl)
  rw [show entryFrame m args 5 = entryFrame m ([.ref (h 0), .long p0, .int p1] : List Value).toArray 5 from by rw [hargs], lg_entry_eq]
  generalize (lg_sl ([.ref (h 0), .long p0, .int p1]) ++ List.replicate (5 - (lg_sl ([.ref (h 0), .long p0, .int p1])).length) Slot.unset).toArray = ls at hl ⊢
  have hl : lv_has ls 5 [(0, .ref (h 0)), (1, .long p0), (3, .int p1)] := hl
  unfold f_X10_type_0 at hf
  refine lv_iload_n hx hb dX10_type_0 rfl (lv_at hl 2 rfl) ?_
  refine lv_iconst (v := 1) hx hb dX10_type_1 (by decide) ?_
  refine lv_icmp_lt (tgt := 11) hx hb dX10_type_2 (by decide) (fun c16 => ?_) (fun c16 => ?_)
  · have hf := (if_pos c16).symm.trans hf
    refine lv_aload_n hx hb dX10_type_11 rfl (lv_at hl 0 rfl) ?_
    refine lv_bipush (v := (-2)) hx hb dX10_type_12 (by decide) ?_
    obtain ⟨r1, S2, er1, hf⟩ := b2 hf
    refine klCi (rest := []) (As := [.int (-2)]) ⟨hx, hb, hml, hown, hts⟩ (c_X10_bad_0 l dC dI t ts aK aV A h tx s.heap.size (fun q hq => hA q (Nat.le_trans hS.1 hq)) S (-2) r1 S2 er1) (cwV 1 hts gX10_type_X10_bad rfl rfl rfl (by decide +kernel) ⟨Nat.le_of_ble_eq_true rfl, Nat.le_of_ble_eq_true rfl⟩) (va_recv hK hP (ci := 10) (q0 := 0) rfl rfl) rfl hl.1 rfl (Nat.le_of_ble_eq_true rfl) dX10_type_14 ⟨Nat.zero_le _, Nat.zero_le _⟩ hE hK ⟨g, LP, pf, hP, hD, hG⟩ hS (fun H locs hC hS => ?_)
    obtain ⟨g, LP, pf, hP, hD, hG⟩ := hC
    exact rtCi hx hb hr hlocks ⟨g, LP, pf, hP, hD, hG⟩ hS hf dX10_type_17
  · have hf := (if_neg c16).symm.trans hf
    refine lv_iload_n hx hb dX10_type_5 rfl (lv_at hl 2 rfl) ?_
    refine lv_bipush (v := 8) hx hb dX10_type_6 (by decide) ?_
    refine lv_icmp_le (tgt := 18) hx hb dX10_type_8 (by decide) (fun c15 => ?_) (fun c15 => ?_)
    · have hf := (if_pos c15).symm.trans hf
      refine lv_aload_n hx hb dX10_type_18 rfl (lv_at hl 0 rfl) ?_
      refine va_get (D := (dC, dI)) (ci := 10) (v := .ref (h 3)) (C := RX10) (T := TX10) (N := 9) hx hb hts hin10 hown hK hP 0 rfl rfl 0 (by decide) (hts _ lk10_10) (fun _ h9 => h9) rfl dX10_type_19 ?_
      refine va_get (D := (dC, dI)) (ci := 1) (v := .int (S.1 1308 0)) (C := RX1) (T := TX1) (N := 10) hx hb hts hin1 hown hK hP 3 rfl rfl 8 (by decide) (hts _ lk109_1) (fun _ h9 => h9) rfl dX10_type_22 ?_
      refine lv_iload_n hx hb dX10_type_25 rfl (lv_at hl 2 rfl) ?_
      refine lv_iadd hx hb dX10_type_26 ?_
      refine lv_sipush (v := 200) hx hb dX10_type_27 (by decide) ?_
      refine lv_icmp_le (tgt := 38) hx hb dX10_type_30 (by decide) (fun c12 => ?_) (fun c12 => ?_)
      · have hf := (if_pos c12).symm.trans hf
        refine lv_iload_n hx hb dX10_type_38 rfl (lv_at hl 2 rfl) ?_
        refine lv_iconst (v := 1) hx hb dX10_type_39 (by decide) ?_
        refine lv_isub hx hb dX10_type_40 ?_
        refine lv_topi (fun x3 ex3 => ?_)
        have hf := bs ex3 hf
        refine lv_istore (lv' := [(4, .int x3), (0, .ref (h 0)), (1, .long p0), (3, .int p1)]) hx hb dX10_type_41 hl (by decide) rfl (fun ls hl => ?_)
        have K43 : ∀ (S4 : CS) (g : Nat → Nat → Option Nat) (LP : List Nat) (pf : Nat → va_E) (H : Heap) (locs : List Loc) (ls : Array Slot), k_X10_type_0_43 S4 = some (r, S') → va_P (dC, dI) vwCl (wC t h tx g S4 ++ va_pl LP pf) H → va_D A (wC t h tx g S4 ++ va_pl LP pf) → rlC g LP pf S4 → va_S A s.heap H locs → lv_has ls 5 [(0, .ref (h 0))] → W p l e RRX10_type_0 s m args below meth c H locs 0 0 (MQ below (qcCi dC dI t A h tx r S') args s 0 0 A) (F0 m 73 ls []) := by
          intro S4 g LP pf H locs ls hf hP hD hG hS hl
          unfold k_X10_type_0_43 at hf
          refine lv_aload_n hx hb dX10_type_73 rfl (lv_at hl 0 rfl) ?_
          refine va_get (D := (dC, dI)) (ci := 10) (v := .ref (h 3)) (C := RX10) (T := TX10) (N := 9) hx hb hts hin10 hown hK hP 0 rfl rfl 0 (by decide) (hts _ lk10_10) (fun _ h9 => h9) rfl dX10_type_74 ?_
          refine va_get (D := (dC, dI)) (ci := 1) (v := .int (S4.1 1308 0)) (C := RX1) (T := TX1) (N := 10) hx hb hts hin1 hown hK hP 3 rfl rfl 8 (by decide) (hts _ lk109_1) (fun _ h9 => h9) rfl dX10_type_77 ?_
          exact rtCi hx hb hr hlocks ⟨g, LP, pf, hP, hD, hG⟩ hS hf dX10_type_80
        obtain ⟨z43, ez43, hz43⟩ := bd hf
        have L43 : ∀ (n : Nat) (y5 : Int32) (S6 : CS) (g : Nat → Nat → Option Nat) (LP : List Nat) (pf : Nat → va_E) (H : Heap) (locs : List Loc) (ls : Array Slot), lp (fun s => b_X10_type_0_43 p0 s.1 s.2) n (y5, S6) = some z43 → va_P (dC, dI) vwCl (wC t h tx g S6 ++ va_pl LP pf) H → va_D A (wC t h tx g S6 ++ va_pl LP pf) → rlC g LP pf S6 → va_S A s.heap H locs → lv_has ls 5 [(0, .ref (h 0)), (1, .long p0), (4, .int y5)] → W p l e RRX10_type_0 s m args below meth c H locs 0 0 (MQ below (qcCi dC dI t A h tx r S') args s 0 0 A) (F0 m 43 ls []) := by
          intro n
          induction n with
          | zero => intro y5 S6 g LP pf H locs ls hf; exact lp_z hf
          | succ n ih43 =>
            intro y5 S6 g LP pf H locs ls hf hP hD hG hS hl
            obtain ⟨q43, hf, hq43⟩ := lp_i hf
            have hf : b_X10_type_0_43 p0 y5 S6 = some q43 := hf
            unfold b_X10_type_0_43 at hf
            refine lv_iload hx hb dX10_type_43 (lv_at hl 2 rfl) ?_
            refine lv_if_lt (tgt := 73) hx hb dX10_type_45 (by decide) (fun c9 => ?_) (fun c9 => ?_)
            · have hf := (if_pos c9).symm.trans hf
              exact K43 S6 _ _ _ _ _ _ (lp_x (k := (fun s => k_X10_type_0_43 s)) (lp_r hf hq43) hz43) hP hD hG hS (lv_sub hl [0] rfl)
            · have hf := (if_neg c9).symm.trans hf
              refine lv_aload_n hx hb dX10_type_48 rfl (lv_at hl 0 rfl) ?_
              refine va_get (D := (dC, dI)) (ci := 10) (v := .ref (h 3)) (C := RX10) (T := TX10) (N := 9) hx hb hts hin10 hown hK hP 0 rfl rfl 0 (by decide) (hts _ lk10_10) (fun _ h9 => h9) rfl dX10_type_49 ?_
              refine lv_lload_n hx hb dX10_type_52 rfl (lv_at hl 1 rfl) ?_
              refine lv_bipush (v := 8) hx hb dX10_type_53 (by decide) ?_
              refine lv_iload hx hb dX10_type_55 (lv_at hl 2 rfl) ?_
              refine lv_imul hx hb dX10_type_57 ?_
              refine lv_lushr hx hb dX10_type_58 rfl ?_
              refine lv_l2i hx hb dX10_type_59 rfl ?_
              refine lv_sipush (v := 255) hx hb dX10_type_60 (by decide) ?_
              refine lv_iand hx hb dX10_type_63 ?_
              obtain ⟨S7, eS7, hf⟩ := bd hf
              refine klCv (rest := []) (As := [.int ((Int64.toInt32 ((Int64.toUInt64 p0 >>> ((Int32.toInt64 (8 * y5)).toUInt64 &&& Int64.toUInt64 63)).toInt64)) &&& 255)]) ⟨hx, hb, hml, hown, hts⟩ (c_X1_addByte_3 l dC dI t ts aK aV A h tx H.size (fun q hq => hA q (Nat.le_trans hS.1 hq)) S6 ((Int64.toInt32 ((Int64.toUInt64 p0 >>> ((Int32.toInt64 (8 * y5)).toUInt64 &&& Int64.toUInt64 63)).toInt64)) &&& 255) S7 eS7) (cwV 1 hts gX10_type_X1_addByte rfl rfl rfl (by decide +kernel) ⟨Nat.le_of_ble_eq_true rfl, Nat.le_of_ble_eq_true rfl⟩) (va_recv hK hP (ci := 1) (q0 := 3) rfl rfl) rfl hl.1 rfl (Nat.le_of_ble_eq_true rfl) dX10_type_64 ⟨Nat.zero_le _, Nat.zero_le _⟩ hE hK ⟨g, LP, pf, hP, hD, hG⟩ hS (fun H locs hC hS => ?_)
              obtain ⟨g, LP, pf, hP, hD, hG⟩ := hC
              obtain ⟨x8, ex8, hf⟩ := bn hf
              refine lv_iinc (v := x8) (lv' := [(4, .int x8), (0, .ref (h 0)), (1, .long p0)]) hx hb dX10_type_67 hl (k := 2) rfl (by rw [ex8]; rfl) (by decide) rfl (fun ls hl => ?_)
              refine lv_goto (tgt := 43) hx hb dX10_type_70 (by decide) ?_
              exact ih43 x8 S7 _ _ _ _ _ _ (lp_l hf hq43) hP hD hG hS (lv_sub hl [1, 2, 0] rfl)
        exact L43 FU x3 S _ _ _ _ _ _ ez43 hP hD hG hS (lv_sub hl [1, 2, 0] rfl)
      · have hf := (if_neg c12).symm.trans hf
        refine lv_aload_n hx hb dX10_type_33 rfl (lv_at hl 0 rfl) ?_
        obtain ⟨r10, S11, er10, hf⟩ := b2 hf
        refine klCi (rest := []) (As := []) ⟨hx, hb, hml, hown, hts⟩ (c_X10_full_0 l dC dI t ts aK aV A h tx s.heap.size (fun q hq => hA q (Nat.le_trans hS.1 hq)) S r10 S11 er10) (cwV 0 hts gX10_type_X10_full rfl rfl rfl (by decide +kernel) ⟨Nat.le_of_ble_eq_true rfl, Nat.le_of_ble_eq_true rfl⟩) (va_recv hK hP (ci := 10) (q0 := 0) rfl rfl) rfl hl.1 rfl (Nat.le_of_ble_eq_true rfl) dX10_type_34 ⟨Nat.zero_le _, Nat.zero_le _⟩ hE hK ⟨g, LP, pf, hP, hD, hG⟩ hS (fun H locs hC hS => ?_)
        obtain ⟨g, LP, pf, hP, hD, hG⟩ := hC
        exact rtCi hx hb hr hlocks ⟨g, LP, pf, hP, hD, hG⟩ hS hf dX10_type_37
    · have hf := (if_neg c15).symm.trans hf
      refine lv_aload_n hx hb dX10_type_11 rfl (lv_at hl 0 rfl) ?_
      refine lv_bipush (v := (-2)) hx hb dX10_type_12 (by decide) ?_
      obtain ⟨r13, S14, er13, hf⟩ := b2 hf
      refine klCi (rest := []) (As := [.int (-2)]) ⟨hx, hb, hml, hown, hts⟩ (c_X10_bad_0 l dC dI t ts aK aV A h tx s.heap.size (fun q hq => hA q (Nat.le_trans hS.1 hq)) S (-2) r13 S14 er13) (cwV 1 hts gX10_type_X10_bad rfl rfl rfl (by decide +kernel) ⟨Nat.le_of_ble_eq_true rfl, Nat.le_of_ble_eq_true rfl⟩) (va_recv hK hP (ci := 10) (q0 := 0) rfl rfl) rfl hl.1 rfl (Nat.le_of_ble_eq_true rfl) dX10_type_14 ⟨Nat.zero_le _, Nat.zero_le _⟩ hE hK ⟨g, LP, pf, hP, hD, hG⟩ hS (fun H locs hC hS => ?_)
      obtain ⟨g, LP, pf, hP, hD, hG⟩ := hC
      exact rtCi hx hb hr hlocks ⟨g, LP, pf, hP, hD, hG⟩ hS hf dX10_type_17

def f_X10_clear_0 (S : CS)  : Option (Int32 × CS) :=
  Option.bind (some (S.1 1308 0)) (fun x1 => Option.bind (some (siI S 1308 (fun _ => 0))) (fun S2 => some ((x1, S2))))
def rmX10_clear_0 : Room := { frames := 0, cells := 0, slots := 0, locals := 0 }
abbrev RRX10_clear_0 : Room := (headSpec wsX10_clear rmX10_clear_0).room
theorem in1_X10_clear_0 : ∀ w ∈ wsX10, w ∈ wsX10_clear := by decide +kernel
theorem in10_X10_clear_0 : ∀ w ∈ wsX100, w ∈ wsX10_clear := by decide +kernel
set_option maxHeartbeats 4000000 in
set_option maxRecDepth 100000 in
theorem c_X10_clear_0 (l : Launch) (dC : Nat → ClassId) (dI : Nat → Nat → Nat) (t : Nat → ClassId) (ts aK aV : Nat → Nat) (A : Nat → Prop) (h : Nat → Nat) (tx : Nat) (sz : Nat) (hA0 : ∀ q : Nat, sz ≤ q → A q) (S : CS)  (r : Int32) (S' : CS) (hf : f_X10_clear_0 S = some (r, S')) : cCi l yX10_clear wsX10_clear rmX10_clear_0 dC dI t ts aK aV A h tx tx sz [.ref (h 0)] S r S' := by
  refine Met.ofW (cc := cX10_clear) (maxL := 2) (ret := (some .int)) (by decide) rfl ?_
  intro p e s m args below meth c s₁ B hml hv
  obtain ⟨hargs, hsz, hE, hC, hK⟩ := hv
  have hx := B.exec
  have hb := B.bytes
  have hr := B.returns
  have hts := atoms_spec (ws := wsX10_clear) B.pre
  have hown : s.vm.findClass RX10 = some m.cls := findClass_of_methodNamed B.named
  have hlocks := B.notSynchronized
  have hsz : s.heap.size = sz := hsz
  subst hsz
  have hin1 := in1_X10_clear_0
  have hin10 := in10_X10_clear_0
  have lk10_10 : Cond.fieldLink RX10 10 (TX10 0).1 (TX10 0).2.1 (TX10 0).2.2.1 ∈ wsX10_clear := by decide +kernel
  have lk109_1 : Cond.fieldLink RX10 109 (TX1 8).1 (TX1 8).2.1 (TX1 8).2.2.1 ∈ wsX10_clear := by decide +kernel
  have hA : ∀ q : Nat, s.heap.size ≤ q → A q := hA0
  obtain ⟨g, LP, pf, hP, hD, hG⟩ := hC
  have hS : va_S A s.heap s.heap [] := va_S.rf
  have hl := lv_entry ([.ref (h 0)]) (n := 2) (Nat.le_of_ble_eq_true rfl)
  rw [show entryFrame m args 2 = entryFrame m ([.ref (h 0)] : List Value).toArray 2 from by rw [hargs], lg_entry_eq]
  generalize (lg_sl ([.ref (h 0)]) ++ List.replicate (2 - (lg_sl ([.ref (h 0)])).length) Slot.unset).toArray = ls at hl ⊢
  have hl : lv_has ls 2 [(0, .ref (h 0))] := hl
  unfold f_X10_clear_0 at hf
  refine lv_aload_n hx hb dX10_clear_0 rfl (lv_at hl 0 rfl) ?_
  refine va_get (D := (dC, dI)) (ci := 10) (v := .ref (h 3)) (C := RX10) (T := TX10) (N := 9) hx hb hts hin10 hown hK hP 0 rfl rfl 0 (by decide) (hts _ lk10_10) (fun _ h9 => h9) rfl dX10_clear_1 ?_
  refine va_get (D := (dC, dI)) (ci := 1) (v := .int (S.1 1308 0)) (C := RX1) (T := TX1) (N := 10) hx hb hts hin1 hown hK hP 3 rfl rfl 8 (by decide) (hts _ lk109_1) (fun _ h9 => h9) rfl dX10_clear_4 ?_
  refine lv_topi (fun x1 ex1 => ?_)
  have hf := bs ex1 hf
  refine lv_istore_n (lv' := [(1, .int x1), (0, .ref (h 0))]) hx hb dX10_clear_7 rfl hl (by decide) rfl (fun ls hl => ?_)
  refine lv_aload_n hx hb dX10_clear_8 rfl (lv_at hl 1 rfl) ?_
  refine va_get (D := (dC, dI)) (ci := 10) (v := .ref (h 3)) (C := RX10) (T := TX10) (N := 9) hx hb hts hin10 hown hK hP 0 rfl rfl 0 (by decide) (hts _ lk10_10) (fun _ h9 => h9) rfl dX10_clear_9 ?_
  refine lv_iconst (v := 0) hx hb dX10_clear_12 (by decide) ?_
  obtain ⟨S2, eS2, hf⟩ := bn hf
  refine va_put (D := (dC, dI)) (ci := 1) (v := .int 0) (ty := .int) (C := RX1) (T := TX1) (N := 10) hx hb hts hin1 tyX1 tyX1_ok nmX1 hown hK hP hD hS 3 rfl rfl 8 (by decide) (hts _ lk109_1) (fun _ h9 => h9) rfl (by decide +kernel) rfl rfl (Nat.le_of_ble_eq_true rfl) dX10_clear_13 (fun H locs hP hD hS => ?_)
  have hP : va_P (dC, dI) vwCl (wC t h tx g S2 ++ va_pl LP pf) H := by rw [eS2]; exact hP
  have hD : va_D A (wC t h tx g S2 ++ va_pl LP pf) := by rw [eS2]; exact hD
  have hG : rlC g LP pf S2 := by rw [eS2]; exact hG
  refine lv_iload_n hx hb dX10_clear_16 rfl (lv_at hl 0 rfl) ?_
  exact rtCi hx hb hr hlocks ⟨g, LP, pf, hP, hD, hG⟩ hS hf dX10_clear_17

def f_X10_judged_0 (S : CS)  : Option Int32 :=
  Option.bind (f_X1_firstNoGo_3 S) (fun r1 => some r1)
def rmX10_judged_0 : Room := { frames := 6, cells := 0, slots := 0, locals := 139 }
abbrev RRX10_judged_0 : Room := (headSpec wsX10_judged rmX10_judged_0).room
theorem in10_X10_judged_0 : ∀ w ∈ wsX100, w ∈ wsX10_judged := by decide +kernel
set_option maxHeartbeats 4000000 in
set_option maxRecDepth 100000 in
theorem c_X10_judged_0 (l : Launch) (dC : Nat → ClassId) (dI : Nat → Nat → Nat) (t : Nat → ClassId) (ts aK aV : Nat → Nat) (A : Nat → Prop) (h : Nat → Nat) (tx : Nat) (sz : Nat) (hA0 : ∀ q : Nat, sz ≤ q → A q) (S : CS)  (r : Int32) (hf : f_X10_judged_0 S = some r) : cCi l yX10_judged wsX10_judged rmX10_judged_0 dC dI t ts aK aV A h tx tx sz [.ref (h 0)] S r S := by
  refine Met.ofW (cc := cX10_judged) (maxL := 1) (ret := (some .int)) (by decide) rfl ?_
  intro p e s m args below meth c s₁ B hml hv
  obtain ⟨hargs, hsz, hE, hC, hK⟩ := hv
  have hx := B.exec
  have hb := B.bytes
  have hr := B.returns
  have hts := atoms_spec (ws := wsX10_judged) B.pre
  have hown : s.vm.findClass RX10 = some m.cls := findClass_of_methodNamed B.named
  have hlocks := B.notSynchronized
  have hsz : s.heap.size = sz := hsz
  subst hsz
  have hin10 := in10_X10_judged_0
  have lk10_10 : Cond.fieldLink RX10 10 (TX10 0).1 (TX10 0).2.1 (TX10 0).2.2.1 ∈ wsX10_judged := by decide +kernel
  have hA : ∀ q : Nat, s.heap.size ≤ q → A q := hA0
  obtain ⟨g, LP, pf, hP, hD, hG⟩ := hC
  have hS : va_S A s.heap s.heap [] := va_S.rf
  have hl := lv_entry ([.ref (h 0)]) (n := 1) (Nat.le_of_ble_eq_true rfl)
  rw [show entryFrame m args 1 = entryFrame m ([.ref (h 0)] : List Value).toArray 1 from by rw [hargs], lg_entry_eq]
  generalize (lg_sl ([.ref (h 0)]) ++ List.replicate (1 - (lg_sl ([.ref (h 0)])).length) Slot.unset).toArray = ls at hl ⊢
  have hl : lv_has ls 1 [(0, .ref (h 0))] := hl
  unfold f_X10_judged_0 at hf
  refine lv_aload_n hx hb dX10_judged_0 rfl (lv_at hl 0 rfl) ?_
  refine va_get (D := (dC, dI)) (ci := 10) (v := .ref (h 3)) (C := RX10) (T := TX10) (N := 9) hx hb hts hin10 hown hK hP 0 rfl rfl 0 (by decide) (hts _ lk10_10) (fun _ h9 => h9) rfl dX10_judged_1 ?_
  obtain ⟨r1, er1, hf⟩ := bd hf
  refine klCi (rest := []) (As := []) ⟨hx, hb, hml, hown, hts⟩ (c_X1_firstNoGo_3 l dC dI t ts aK aV A h tx s.heap.size (fun q hq => hA q (Nat.le_trans hS.1 hq)) S r1 er1) (cwV 0 hts gX10_judged_X1_firstNoGo rfl rfl rfl (by decide +kernel) ⟨Nat.le_of_ble_eq_true rfl, Nat.le_of_ble_eq_true rfl⟩) (va_recv hK hP (ci := 1) (q0 := 3) rfl rfl) rfl hl.1 rfl (Nat.le_of_ble_eq_true rfl) dX10_judged_4 ⟨Nat.zero_le _, Nat.zero_le _⟩ hE hK ⟨g, LP, pf, hP, hD, hG⟩ hS (fun H locs hC hS => ?_)
  obtain ⟨g, LP, pf, hP, hD, hG⟩ := hC
  exact rtCi hx hb hr hlocks ⟨g, LP, pf, hP, hD, hG⟩ hS (congrArg (fun z => some (z, S)) (Option.some.inj hf)) dX10_judged_7

def k_X10_there_0_33 (y3 : Int32) : Option Int32 :=
  some y3
def b_X10_there_0_33 (S : CS) (k2 : Int32) (y4 : Int32) (y5 : Int32) : Option ((Int32 × Int32) ⊕ Int32) :=
  (if k2 ≤ y5 then (some (Sum.inr y4)) else ((if 20 ≤ y5 then (some (Sum.inr y4)) else (Option.bind (rdI 20 (S.1 7) y5) (fun x6 => Option.bind (some (y4 ^^^ x6)) (fun x7 => Option.bind (some (y5 + 1)) (fun x8 => some (Sum.inl (x7, x8)))))))))
def j_X10_there_0_27 (S : CS) (k2 : Int32) : Option Int32 :=
  Option.bind (lp (fun s => b_X10_there_0_33 S k2 s.1 s.2) FU (0, 0)) (fun s => k_X10_there_0_33 s)
def f_X10_there_0 (S : CS)  : Option Int32 :=
  Option.bind (f_X1_firstNoGo_3 S) (fun r1 => (if r1 = (-1) then (j_X10_there_0_27 S (S.1 1307 0)) else (Option.bind (dvI r1 10) (fun x11 => j_X10_there_0_27 S x11))))
def rmX10_there_0 : Room := { frames := 6, cells := 0, slots := 0, locals := 139 }
abbrev RRX10_there_0 : Room := (headSpec wsX10_there rmX10_there_0).room
theorem in1_X10_there_0 : ∀ w ∈ wsX10, w ∈ wsX10_there := by decide +kernel
theorem in10_X10_there_0 : ∀ w ∈ wsX100, w ∈ wsX10_there := by decide +kernel
set_option maxHeartbeats 4000000 in
set_option maxRecDepth 100000 in
theorem c_X10_there_0 (l : Launch) (dC : Nat → ClassId) (dI : Nat → Nat → Nat) (t : Nat → ClassId) (ts aK aV : Nat → Nat) (A : Nat → Prop) (h : Nat → Nat) (tx : Nat) (sz : Nat) (hA0 : ∀ q : Nat, sz ≤ q → A q) (S : CS)  (r : Int32) (hf : f_X10_there_0 S = some r) : cCi l yX10_there wsX10_there rmX10_there_0 dC dI t ts aK aV A h tx tx sz [.ref (h 0)] S r S := by
  refine Met.ofW (cc := cX10_there) (maxL := 5) (ret := (some .int)) (by decide) rfl ?_
  intro p e s m args below meth c s₁ B hml hv
  obtain ⟨hargs, hsz, hE, hC, hK⟩ := hv
  have hx := B.exec
  have hb := B.bytes
  have hr := B.returns
  have hts := atoms_spec (ws := wsX10_there) B.pre
  have hown : s.vm.findClass RX10 = some m.cls := findClass_of_methodNamed B.named
  have hlocks := B.notSynchronized
  have hsz : s.heap.size = sz := hsz
  subst hsz
  have hin1 := in1_X10_there_0
  have hin10 := in10_X10_there_0
  have lk10_10 : Cond.fieldLink RX10 10 (TX10 0).1 (TX10 0).2.1 (TX10 0).2.2.1 ∈ wsX10_there := by decide +kernel
  have lk127_1 : Cond.fieldLink RX10 127 (TX1 7).1 (TX1 7).2.1 (TX1 7).2.2.1 ∈ wsX10_there := by decide +kernel
  have lk133_1 : Cond.fieldLink RX10 133 (TX1 3).1 (TX1 3).2.1 (TX1 3).2.2.1 ∈ wsX10_there := by decide +kernel
  have hA : ∀ q : Nat, s.heap.size ≤ q → A q := hA0
  obtain ⟨g, LP, pf, hP, hD, hG⟩ := hC
  have hS : va_S A s.heap s.heap [] := va_S.rf
  have hl := lv_entry ([.ref (h 0)]) (n := 5) (Nat.le_of_ble_eq_true rfl)
  rw [show entryFrame m args 5 = entryFrame m ([.ref (h 0)] : List Value).toArray 5 from by rw [hargs], lg_entry_eq]
  generalize (lg_sl ([.ref (h 0)]) ++ List.replicate (5 - (lg_sl ([.ref (h 0)])).length) Slot.unset).toArray = ls at hl ⊢
  have hl : lv_has ls 5 [(0, .ref (h 0))] := hl
  unfold f_X10_there_0 at hf
  refine lv_aload_n hx hb dX10_there_0 rfl (lv_at hl 0 rfl) ?_
  refine va_get (D := (dC, dI)) (ci := 10) (v := .ref (h 3)) (C := RX10) (T := TX10) (N := 9) hx hb hts hin10 hown hK hP 0 rfl rfl 0 (by decide) (hts _ lk10_10) (fun _ h9 => h9) rfl dX10_there_1 ?_
  obtain ⟨r1, er1, hf⟩ := bd hf
  refine klCi (rest := []) (As := []) ⟨hx, hb, hml, hown, hts⟩ (c_X1_firstNoGo_3 l dC dI t ts aK aV A h tx s.heap.size (fun q hq => hA q (Nat.le_trans hS.1 hq)) S r1 er1) (cwV 0 hts gX10_there_X1_firstNoGo rfl rfl rfl (by decide +kernel) ⟨Nat.le_of_ble_eq_true rfl, Nat.le_of_ble_eq_true rfl⟩) (va_recv hK hP (ci := 1) (q0 := 3) rfl rfl) rfl hl.1 rfl (Nat.le_of_ble_eq_true rfl) dX10_there_4 ⟨Nat.zero_le _, Nat.zero_le _⟩ hE hK ⟨g, LP, pf, hP, hD, hG⟩ hS (fun H locs hC hS => ?_)
  obtain ⟨g, LP, pf, hP, hD, hG⟩ := hC
  refine lv_istore_n (lv' := [(1, .int r1), (0, .ref (h 0))]) hx hb dX10_there_7 rfl hl (by decide) rfl (fun ls hl => ?_)
  refine lv_iload_n hx hb dX10_there_8 rfl (lv_at hl 0 rfl) ?_
  refine lv_iconst (v := (-1)) hx hb dX10_there_9 (by decide) ?_
  have J27 : ∀ (k2 : Int32) (g : Nat → Nat → Option Nat) (LP : List Nat) (pf : Nat → va_E) (H : Heap) (locs : List Loc) (ls : Array Slot), j_X10_there_0_27 S k2 = some r → va_P (dC, dI) vwCl (wC t h tx g S ++ va_pl LP pf) H → va_D A (wC t h tx g S ++ va_pl LP pf) → rlC g LP pf S → va_S A s.heap H locs → lv_has ls 5 [(0, .ref (h 0))] → W p l e RRX10_there_0 s m args below meth c H locs 0 0 (MQ below (qcCi dC dI t A h tx r S) args s 0 0 A) (F0 m 27 ls [.int k2]) := by
    intro k2 g LP pf H locs ls hf hP hD hG hS hl
    unfold j_X10_there_0_27 at hf
    refine lv_istore_n (lv' := [(2, .int k2), (0, .ref (h 0))]) hx hb dX10_there_27 rfl hl (by decide) rfl (fun ls hl => ?_)
    refine lv_iconst (v := 0) hx hb dX10_there_28 (by decide) ?_
    refine lv_istore_n (lv' := [(3, .int 0), (2, .int k2), (0, .ref (h 0))]) hx hb dX10_there_29 rfl hl (by decide) rfl (fun ls hl => ?_)
    refine lv_iconst (v := 0) hx hb dX10_there_30 (by decide) ?_
    refine lv_istore (lv' := [(4, .int 0), (3, .int 0), (2, .int k2), (0, .ref (h 0))]) hx hb dX10_there_31 hl (by decide) rfl (fun ls hl => ?_)
    have K33 : ∀ (y3 : Int32) (g : Nat → Nat → Option Nat) (LP : List Nat) (pf : Nat → va_E) (H : Heap) (locs : List Loc) (ls : Array Slot), k_X10_there_0_33 y3 = some r → va_P (dC, dI) vwCl (wC t h tx g S ++ va_pl LP pf) H → va_D A (wC t h tx g S ++ va_pl LP pf) → rlC g LP pf S → va_S A s.heap H locs → lv_has ls 5 [(3, .int y3)] → W p l e RRX10_there_0 s m args below meth c H locs 0 0 (MQ below (qcCi dC dI t A h tx r S) args s 0 0 A) (F0 m 65 ls []) := by
      intro y3 g LP pf H locs ls hf hP hD hG hS hl
      unfold k_X10_there_0_33 at hf
      refine lv_iload_n hx hb dX10_there_65 rfl (lv_at hl 0 rfl) ?_
      exact rtCi hx hb hr hlocks ⟨g, LP, pf, hP, hD, hG⟩ hS (congrArg (fun z => some (z, S)) (Option.some.inj hf)) dX10_there_66
    obtain ⟨z33, ez33, hz33⟩ := bd hf
    have L33 : ∀ (n : Nat) (y4 : Int32) (y5 : Int32) (g : Nat → Nat → Option Nat) (LP : List Nat) (pf : Nat → va_E) (H : Heap) (locs : List Loc) (ls : Array Slot), lp (fun s => b_X10_there_0_33 S k2 s.1 s.2) n (y4, y5) = some z33 → va_P (dC, dI) vwCl (wC t h tx g S ++ va_pl LP pf) H → va_D A (wC t h tx g S ++ va_pl LP pf) → rlC g LP pf S → va_S A s.heap H locs → lv_has ls 5 [(0, .ref (h 0)), (2, .int k2), (3, .int y4), (4, .int y5)] → W p l e RRX10_there_0 s m args below meth c H locs 0 0 (MQ below (qcCi dC dI t A h tx r S) args s 0 0 A) (F0 m 33 ls []) := by
      intro n
      induction n with
      | zero => intro y4 y5 g LP pf H locs ls hf; exact lp_z hf
      | succ n ih33 =>
        intro y4 y5 g LP pf H locs ls hf hP hD hG hS hl
        obtain ⟨q33, hf, hq33⟩ := lp_i hf
        have hf : b_X10_there_0_33 S k2 y4 y5 = some q33 := hf
        unfold b_X10_there_0_33 at hf
        refine lv_iload hx hb dX10_there_33 (lv_at hl 3 rfl) ?_
        refine lv_iload_n hx hb dX10_there_35 rfl (lv_at hl 1 rfl) ?_
        refine lv_icmp_ge (tgt := 65) hx hb dX10_there_36 (by decide) (fun c10 => ?_) (fun c10 => ?_)
        · have hf := (if_pos c10).symm.trans hf
          exact K33 y4 _ _ _ _ _ _ (lp_x (k := (fun s => k_X10_there_0_33 s)) (lp_r hf hq33) hz33) hP hD hG hS (lv_sub hl [2] rfl)
        · have hf := (if_neg c10).symm.trans hf
          refine lv_iload hx hb dX10_there_39 (lv_at hl 3 rfl) ?_
          refine lv_bipush (v := 20) hx hb dX10_there_41 (by decide) ?_
          refine lv_icmp_ge (tgt := 65) hx hb dX10_there_43 (by decide) (fun c9 => ?_) (fun c9 => ?_)
          · have hf := (if_pos c9).symm.trans hf
            exact K33 y4 _ _ _ _ _ _ (lp_x (k := (fun s => k_X10_there_0_33 s)) (lp_r hf hq33) hz33) hP hD hG hS (lv_sub hl [2] rfl)
          · have hf := (if_neg c9).symm.trans hf
            refine lv_iload_n hx hb dX10_there_46 rfl (lv_at hl 2 rfl) ?_
            refine lv_aload_n hx hb dX10_there_47 rfl (lv_at hl 0 rfl) ?_
            refine va_get (D := (dC, dI)) (ci := 10) (v := .ref (h 3)) (C := RX10) (T := TX10) (N := 9) hx hb hts hin10 hown hK hP 0 rfl rfl 0 (by decide) (hts _ lk10_10) (fun _ h9 => h9) rfl dX10_there_48 ?_
            refine va_get (D := (dC, dI)) (ci := 1) (v := .ref (h 7)) (C := RX1) (T := TX1) (N := 10) hx hb hts hin1 hown hK hP 3 rfl rfl 3 (by decide) (hts _ lk133_1) (fun _ h9 => h9) rfl dX10_there_51 ?_
            refine lv_iload hx hb dX10_there_54 (lv_at hl 3 rfl) ?_
            obtain ⟨x6, hix6, ex6, hf⟩ := rd_b hf
            refine va_iald hx hb hK hP 7 0 rfl rfl hix6 dX10_there_56 (kI ex6 ?_)
            refine lv_ixor hx hb dX10_there_57 ?_
            refine lv_topi (fun x7 ex7 => ?_)
            have hf := bs ex7 hf
            refine lv_istore_n (lv' := [(3, .int x7), (0, .ref (h 0)), (2, .int k2), (4, .int y5)]) hx hb dX10_there_58 rfl hl (by decide) rfl (fun ls hl => ?_)
            obtain ⟨x8, ex8, hf⟩ := bn hf
            refine lv_iinc (v := x8) (lv' := [(4, .int x8), (3, .int x7), (0, .ref (h 0)), (2, .int k2)]) hx hb dX10_there_59 hl (k := 3) rfl (by rw [ex8]; rfl) (by decide) rfl (fun ls hl => ?_)
            refine lv_goto (tgt := 33) hx hb dX10_there_62 (by decide) ?_
            exact ih33 x7 x8 _ _ _ _ _ _ (lp_l hf hq33) hP hD hG hS (lv_sub hl [2, 3, 1, 0] rfl)
    exact L33 FU 0 0 _ _ _ _ _ _ ez33 hP hD hG hS (lv_sub hl [3, 2, 1, 0] rfl)
  refine lv_icmp_ne (tgt := 23) hx hb dX10_there_10 (by decide) (fun c12 => ?_) (fun c12 => ?_)
  · have hf := (if_neg c12).symm.trans hf
    refine lv_iload_n hx hb dX10_there_23 rfl (lv_at hl 0 rfl) ?_
    refine lv_bipush (v := 10) hx hb dX10_there_24 (by decide) ?_
    obtain ⟨hzx11, hf⟩ := dv_b hf
    refine lv_idiv hx hb dX10_there_26 hzx11 ?_
    refine lv_topi (fun x11 ex11 => ?_)
    rw [← ex11] at hf
    exact J27 x11 _ _ _ _ _ _ hf hP hD hG hS (lv_sub hl [1] rfl)
  · have hf := (if_pos c12).symm.trans hf
    refine lv_aload_n hx hb dX10_there_13 rfl (lv_at hl 1 rfl) ?_
    refine va_get (D := (dC, dI)) (ci := 10) (v := .ref (h 3)) (C := RX10) (T := TX10) (N := 9) hx hb hts hin10 hown hK hP 0 rfl rfl 0 (by decide) (hts _ lk10_10) (fun _ h9 => h9) rfl dX10_there_14 ?_
    refine va_get (D := (dC, dI)) (ci := 1) (v := .int (S.1 1307 0)) (C := RX1) (T := TX1) (N := 10) hx hb hts hin1 hown hK hP 3 rfl rfl 7 (by decide) (hts _ lk127_1) (fun _ h9 => h9) rfl dX10_there_17 ?_
    refine lv_goto (tgt := 27) hx hb dX10_there_20 (by decide) ?_
    exact J27 (S.1 1307 0) _ _ _ _ _ _ hf hP hD hG hS (lv_sub hl [1] rfl)

def f_X10_least_0 (S : CS) (p0 : Int32) (p1 : Int32) : Option (Int32 × CS) :=
  Option.bind (f_X1_hasSet_3 S p0) (fun r1 => (if r1 = 0 then (bi2 (f_X10_bad_0 S (-2)) (fun r2 S3 => some ((r2, S3)))) else ((if p1 < 0 then (bi2 (f_X10_bad_0 S (-2)) (fun r4 S5 => some ((r4, S5)))) else ((if p1 ≤ 2 then (Option.bind (f_X7_plan_33_3 S p0 0) (fun S6 => (if (S6.1 4301 0) = (-1) then (some (((-1), S6))) else ((if p1 = 0 then (some ((S6.1 4301 0, S6))) else ((if p1 = 1 then (some ((S6.1 4302 0, S6))) else (some ((S6.1 4303 0, S6)))))))))) else (bi2 (f_X10_bad_0 S (-2)) (fun r10 S11 => some ((r10, S11))))))))))
def rmX10_least_0 : Room := { frames := 6, cells := 0, slots := 0, locals := 149 }
abbrev RRX10_least_0 : Room := (headSpec wsX10_least rmX10_least_0).room
theorem in7_X10_least_0 : ∀ w ∈ wsX70, w ∈ wsX10_least := by decide +kernel
theorem in10_X10_least_0 : ∀ w ∈ wsX100, w ∈ wsX10_least := by decide +kernel
set_option maxHeartbeats 4000000 in
set_option maxRecDepth 100000 in
theorem c_X10_least_0 (l : Launch) (dC : Nat → ClassId) (dI : Nat → Nat → Nat) (t : Nat → ClassId) (ts aK aV : Nat → Nat) (A : Nat → Prop) (h : Nat → Nat) (tx : Nat) (sz : Nat) (hA0 : ∀ q : Nat, sz ≤ q → A q) (S : CS) (p0 : Int32) (p1 : Int32) (r : Int32) (S' : CS) (hf : f_X10_least_0 S p0 p1 = some (r, S')) : cCi l yX10_least wsX10_least rmX10_least_0 dC dI t ts aK aV A h tx tx sz [.ref (h 0), .int p0, .int p1] S r S' := by
  refine Met.ofW (cc := cX10_least) (maxL := 3) (ret := (some .int)) (by decide) rfl ?_
  intro p e s m args below meth c s₁ B hml hv
  obtain ⟨hargs, hsz, hE, hC, hK⟩ := hv
  have hx := B.exec
  have hb := B.bytes
  have hr := B.returns
  have hts := atoms_spec (ws := wsX10_least) B.pre
  have hown : s.vm.findClass RX10 = some m.cls := findClass_of_methodNamed B.named
  have hlocks := B.notSynchronized
  have hsz : s.heap.size = sz := hsz
  subst hsz
  have hin7 := in7_X10_least_0
  have hin10 := in10_X10_least_0
  have lk10_10 : Cond.fieldLink RX10 10 (TX10 0).1 (TX10 0).2.1 (TX10 0).2.2.1 ∈ wsX10_least := by decide +kernel
  have lk34_10 : Cond.fieldLink RX10 34 (TX10 4).1 (TX10 4).2.1 (TX10 4).2.2.1 ∈ wsX10_least := by decide +kernel
  have lk140_7 : Cond.fieldLink RX10 140 (TX7 1).1 (TX7 1).2.1 (TX7 1).2.2.1 ∈ wsX10_least := by decide +kernel
  have lk142_7 : Cond.fieldLink RX10 142 (TX7 2).1 (TX7 2).2.1 (TX7 2).2.2.1 ∈ wsX10_least := by decide +kernel
  have lk145_7 : Cond.fieldLink RX10 145 (TX7 3).1 (TX7 3).2.1 (TX7 3).2.2.1 ∈ wsX10_least := by decide +kernel
  have hA : ∀ q : Nat, s.heap.size ≤ q → A q := hA0
  obtain ⟨g, LP, pf, hP, hD, hG⟩ := hC
  have hS : va_S A s.heap s.heap [] := va_S.rf
  have hl := lv_entry ([.ref (h 0), .int p0, .int p1]) (n := 3) (Nat.le_of_ble_eq_true rfl)
  rw [show entryFrame m args 3 = entryFrame m ([.ref (h 0), .int p0, .int p1] : List Value).toArray 3 from by rw [hargs], lg_entry_eq]
  generalize (lg_sl ([.ref (h 0), .int p0, .int p1]) ++ List.replicate (3 - (lg_sl ([.ref (h 0), .int p0, .int p1])).length) Slot.unset).toArray = ls at hl ⊢
  have hl : lv_has ls 3 [(0, .ref (h 0)), (1, .int p0), (2, .int p1)] := hl
  unfold f_X10_least_0 at hf
  refine lv_aload_n hx hb dX10_least_0 rfl (lv_at hl 0 rfl) ?_
  refine va_get (D := (dC, dI)) (ci := 10) (v := .ref (h 3)) (C := RX10) (T := TX10) (N := 9) hx hb hts hin10 hown hK hP 0 rfl rfl 0 (by decide) (hts _ lk10_10) (fun _ h9 => h9) rfl dX10_least_1 ?_
  refine lv_iload_n hx hb dX10_least_4 rfl (lv_at hl 1 rfl) ?_
  obtain ⟨r1, er1, hf⟩ := bd hf
  refine klCi (rest := []) (As := [.int p0]) ⟨hx, hb, hml, hown, hts⟩ (c_X1_hasSet_3 l dC dI t ts aK aV A h tx s.heap.size (fun q hq => hA q (Nat.le_trans hS.1 hq)) S p0 r1 er1) (cwV 1 hts gX10_least_X1_hasSet rfl rfl rfl (by decide +kernel) ⟨Nat.le_of_ble_eq_true rfl, Nat.le_of_ble_eq_true rfl⟩) (va_recv hK hP (ci := 1) (q0 := 3) rfl rfl) rfl hl.1 rfl (Nat.le_of_ble_eq_true rfl) dX10_least_5 ⟨Nat.zero_le _, Nat.zero_le _⟩ hE hK ⟨g, LP, pf, hP, hD, hG⟩ hS (fun H locs hC hS => ?_)
  obtain ⟨g, LP, pf, hP, hD, hG⟩ := hC
  refine lv_if_eq (tgt := 20) hx hb dX10_least_8 (by decide) (fun c14 => ?_) (fun c14 => ?_)
  · have hf := (if_pos c14).symm.trans hf
    refine lv_aload_n hx hb dX10_least_20 rfl (lv_at hl 0 rfl) ?_
    refine lv_bipush (v := (-2)) hx hb dX10_least_21 (by decide) ?_
    obtain ⟨r2, S3, er2, hf⟩ := b2 hf
    refine klCi (rest := []) (As := [.int (-2)]) ⟨hx, hb, hml, hown, hts⟩ (c_X10_bad_0 l dC dI t ts aK aV A h tx H.size (fun q hq => hA q (Nat.le_trans hS.1 hq)) S (-2) r2 S3 er2) (cwV 1 hts gX10_least_X10_bad rfl rfl rfl (by decide +kernel) ⟨Nat.le_of_ble_eq_true rfl, Nat.le_of_ble_eq_true rfl⟩) (va_recv hK hP (ci := 10) (q0 := 0) rfl rfl) rfl hl.1 rfl (Nat.le_of_ble_eq_true rfl) dX10_least_23 ⟨Nat.zero_le _, Nat.zero_le _⟩ hE hK ⟨g, LP, pf, hP, hD, hG⟩ hS (fun H locs hC hS => ?_)
    obtain ⟨g, LP, pf, hP, hD, hG⟩ := hC
    exact rtCi hx hb hr hlocks ⟨g, LP, pf, hP, hD, hG⟩ hS hf dX10_least_26
  · have hf := (if_neg c14).symm.trans hf
    refine lv_iload_n hx hb dX10_least_11 rfl (lv_at hl 2 rfl) ?_
    refine lv_if_lt (tgt := 20) hx hb dX10_least_12 (by decide) (fun c13 => ?_) (fun c13 => ?_)
    · have hf := (if_pos c13).symm.trans hf
      refine lv_aload_n hx hb dX10_least_20 rfl (lv_at hl 0 rfl) ?_
      refine lv_bipush (v := (-2)) hx hb dX10_least_21 (by decide) ?_
      obtain ⟨r4, S5, er4, hf⟩ := b2 hf
      refine klCi (rest := []) (As := [.int (-2)]) ⟨hx, hb, hml, hown, hts⟩ (c_X10_bad_0 l dC dI t ts aK aV A h tx H.size (fun q hq => hA q (Nat.le_trans hS.1 hq)) S (-2) r4 S5 er4) (cwV 1 hts gX10_least_X10_bad rfl rfl rfl (by decide +kernel) ⟨Nat.le_of_ble_eq_true rfl, Nat.le_of_ble_eq_true rfl⟩) (va_recv hK hP (ci := 10) (q0 := 0) rfl rfl) rfl hl.1 rfl (Nat.le_of_ble_eq_true rfl) dX10_least_23 ⟨Nat.zero_le _, Nat.zero_le _⟩ hE hK ⟨g, LP, pf, hP, hD, hG⟩ hS (fun H locs hC hS => ?_)
      obtain ⟨g, LP, pf, hP, hD, hG⟩ := hC
      exact rtCi hx hb hr hlocks ⟨g, LP, pf, hP, hD, hG⟩ hS hf dX10_least_26
    · have hf := (if_neg c13).symm.trans hf
      refine lv_iload_n hx hb dX10_least_15 rfl (lv_at hl 2 rfl) ?_
      refine lv_iconst (v := 2) hx hb dX10_least_16 (by decide) ?_
      refine lv_icmp_le (tgt := 27) hx hb dX10_least_17 (by decide) (fun c12 => ?_) (fun c12 => ?_)
      · have hf := (if_pos c12).symm.trans hf
        refine lv_aload_n hx hb dX10_least_27 rfl (lv_at hl 0 rfl) ?_
        refine va_get (D := (dC, dI)) (ci := 10) (v := .ref (h 33)) (C := RX10) (T := TX10) (N := 9) hx hb hts hin10 hown hK hP 0 rfl rfl 4 (by decide) (hts _ lk34_10) (fun _ h9 => h9) rfl dX10_least_28 ?_
        refine lv_aload_n hx hb dX10_least_31 rfl (lv_at hl 0 rfl) ?_
        refine va_get (D := (dC, dI)) (ci := 10) (v := .ref (h 3)) (C := RX10) (T := TX10) (N := 9) hx hb hts hin10 hown hK hP 0 rfl rfl 0 (by decide) (hts _ lk10_10) (fun _ h9 => h9) rfl dX10_least_32 ?_
        refine lv_iload_n hx hb dX10_least_35 rfl (lv_at hl 1 rfl) ?_
        refine lv_iconst (v := 0) hx hb dX10_least_36 (by decide) ?_
        obtain ⟨S6, eS6, hf⟩ := bd hf
        refine klCv (rest := []) (As := [.ref (h 3), .int p0, .int 0]) ⟨hx, hb, hml, hown, hts⟩ (c_X7_plan_33_3 l dC dI t ts aK aV A h tx H.size (fun q hq => hA q (Nat.le_trans hS.1 hq)) S p0 0 S6 eS6) (cwV 3 hts gX10_least_X7_plan rfl rfl rfl (by decide +kernel) ⟨Nat.le_of_ble_eq_true rfl, Nat.le_of_ble_eq_true rfl⟩) (va_recv hK hP (ci := 7) (q0 := 33) rfl rfl) rfl hl.1 rfl (Nat.le_of_ble_eq_true rfl) dX10_least_37 ⟨Nat.zero_le _, Nat.zero_le _⟩ hE hK ⟨g, LP, pf, hP, hD, hG⟩ hS (fun H locs hC hS => ?_)
        obtain ⟨g, LP, pf, hP, hD, hG⟩ := hC
        refine lv_aload_n hx hb dX10_least_40 rfl (lv_at hl 0 rfl) ?_
        refine va_get (D := (dC, dI)) (ci := 10) (v := .ref (h 33)) (C := RX10) (T := TX10) (N := 9) hx hb hts hin10 hown hK hP 0 rfl rfl 4 (by decide) (hts _ lk34_10) (fun _ h9 => h9) rfl dX10_least_41 ?_
        refine va_get (D := (dC, dI)) (ci := 7) (v := .int (S6.1 4301 0)) (C := RX7) (T := TX7) (N := 12) hx hb hts hin7 hown hK hP 33 rfl rfl 1 (by decide) (hts _ lk140_7) (fun _ h9 => h9) rfl dX10_least_44 ?_
        refine lv_iconst (v := (-1)) hx hb dX10_least_47 (by decide) ?_
        refine lv_icmp_ne (tgt := 53) hx hb dX10_least_48 (by decide) (fun c9 => ?_) (fun c9 => ?_)
        · have hf := (if_neg c9).symm.trans hf
          refine lv_iload_n hx hb dX10_least_53 rfl (lv_at hl 2 rfl) ?_
          refine lv_if_ne (tgt := 67) hx hb dX10_least_54 (by decide) (fun c8 => ?_) (fun c8 => ?_)
          · have hf := (if_neg c8).symm.trans hf
            refine lv_iload_n hx hb dX10_least_67 rfl (lv_at hl 2 rfl) ?_
            refine lv_iconst (v := 1) hx hb dX10_least_68 (by decide) ?_
            refine lv_icmp_ne (tgt := 82) hx hb dX10_least_69 (by decide) (fun c7 => ?_) (fun c7 => ?_)
            · have hf := (if_neg c7).symm.trans hf
              refine lv_aload_n hx hb dX10_least_82 rfl (lv_at hl 0 rfl) ?_
              refine va_get (D := (dC, dI)) (ci := 10) (v := .ref (h 33)) (C := RX10) (T := TX10) (N := 9) hx hb hts hin10 hown hK hP 0 rfl rfl 4 (by decide) (hts _ lk34_10) (fun _ h9 => h9) rfl dX10_least_83 ?_
              refine va_get (D := (dC, dI)) (ci := 7) (v := .int (S6.1 4303 0)) (C := RX7) (T := TX7) (N := 12) hx hb hts hin7 hown hK hP 33 rfl rfl 3 (by decide) (hts _ lk145_7) (fun _ h9 => h9) rfl dX10_least_86 ?_
              exact rtCi hx hb hr hlocks ⟨g, LP, pf, hP, hD, hG⟩ hS hf dX10_least_89
            · have hf := (if_pos c7).symm.trans hf
              refine lv_aload_n hx hb dX10_least_72 rfl (lv_at hl 0 rfl) ?_
              refine va_get (D := (dC, dI)) (ci := 10) (v := .ref (h 33)) (C := RX10) (T := TX10) (N := 9) hx hb hts hin10 hown hK hP 0 rfl rfl 4 (by decide) (hts _ lk34_10) (fun _ h9 => h9) rfl dX10_least_73 ?_
              refine va_get (D := (dC, dI)) (ci := 7) (v := .int (S6.1 4302 0)) (C := RX7) (T := TX7) (N := 12) hx hb hts hin7 hown hK hP 33 rfl rfl 2 (by decide) (hts _ lk142_7) (fun _ h9 => h9) rfl dX10_least_76 ?_
              refine lv_goto (tgt := 89) hx hb dX10_least_79 (by decide) ?_
              exact rtCi hx hb hr hlocks ⟨g, LP, pf, hP, hD, hG⟩ hS hf dX10_least_89
          · have hf := (if_pos c8).symm.trans hf
            refine lv_aload_n hx hb dX10_least_57 rfl (lv_at hl 0 rfl) ?_
            refine va_get (D := (dC, dI)) (ci := 10) (v := .ref (h 33)) (C := RX10) (T := TX10) (N := 9) hx hb hts hin10 hown hK hP 0 rfl rfl 4 (by decide) (hts _ lk34_10) (fun _ h9 => h9) rfl dX10_least_58 ?_
            refine va_get (D := (dC, dI)) (ci := 7) (v := .int (S6.1 4301 0)) (C := RX7) (T := TX7) (N := 12) hx hb hts hin7 hown hK hP 33 rfl rfl 1 (by decide) (hts _ lk140_7) (fun _ h9 => h9) rfl dX10_least_61 ?_
            refine lv_goto (tgt := 89) hx hb dX10_least_64 (by decide) ?_
            exact rtCi hx hb hr hlocks ⟨g, LP, pf, hP, hD, hG⟩ hS hf dX10_least_89
        · have hf := (if_pos c9).symm.trans hf
          refine lv_iconst (v := (-1)) hx hb dX10_least_51 (by decide) ?_
          exact rtCi hx hb hr hlocks ⟨g, LP, pf, hP, hD, hG⟩ hS hf dX10_least_52
      · have hf := (if_neg c12).symm.trans hf
        refine lv_aload_n hx hb dX10_least_20 rfl (lv_at hl 0 rfl) ?_
        refine lv_bipush (v := (-2)) hx hb dX10_least_21 (by decide) ?_
        obtain ⟨r10, S11, er10, hf⟩ := b2 hf
        refine klCi (rest := []) (As := [.int (-2)]) ⟨hx, hb, hml, hown, hts⟩ (c_X10_bad_0 l dC dI t ts aK aV A h tx H.size (fun q hq => hA q (Nat.le_trans hS.1 hq)) S (-2) r10 S11 er10) (cwV 1 hts gX10_least_X10_bad rfl rfl rfl (by decide +kernel) ⟨Nat.le_of_ble_eq_true rfl, Nat.le_of_ble_eq_true rfl⟩) (va_recv hK hP (ci := 10) (q0 := 0) rfl rfl) rfl hl.1 rfl (Nat.le_of_ble_eq_true rfl) dX10_least_23 ⟨Nat.zero_le _, Nat.zero_le _⟩ hE hK ⟨g, LP, pf, hP, hD, hG⟩ hS (fun H locs hC hS => ?_)
        obtain ⟨g, LP, pf, hP, hD, hG⟩ := hC
        exact rtCi hx hb hr hlocks ⟨g, LP, pf, hP, hD, hG⟩ hS hf dX10_least_26

def f_X10_row_0 (S : CS) (p0 : Int32) (p1 : Int32) : Option (Int32 × CS) :=
  Option.bind (f_X1_hasSet_3 S p0) (fun r1 => (if r1 = 0 then (bi2 (f_X10_bad_0 S (-10)) (fun r2 S3 => some ((r2, S3)))) else ((if 0 ≤ p1 then (Option.bind (f_X7_plan_33_3 S p0 0) (fun S4 => (if (S4.1 4301 0) = (-1) then (some (((-5), S4))) else ((if (S4.1 4303 0) ≤ p1 then (some (((-5), S4))) else ((if p1 < 240 then (Option.bind (rdI 240 (S4.1 34) p1) (fun x5 => some ((x5, S4)))) else (some (((-5), S4)))))))))) else (bi2 (f_X10_bad_0 S (-10)) (fun r9 S10 => some ((r9, S10))))))))
def rmX10_row_0 : Room := { frames := 6, cells := 0, slots := 0, locals := 149 }
abbrev RRX10_row_0 : Room := (headSpec wsX10_row rmX10_row_0).room
theorem in7_X10_row_0 : ∀ w ∈ wsX70, w ∈ wsX10_row := by decide +kernel
theorem in10_X10_row_0 : ∀ w ∈ wsX100, w ∈ wsX10_row := by decide +kernel
set_option maxHeartbeats 4000000 in
set_option maxRecDepth 100000 in
theorem c_X10_row_0 (l : Launch) (dC : Nat → ClassId) (dI : Nat → Nat → Nat) (t : Nat → ClassId) (ts aK aV : Nat → Nat) (A : Nat → Prop) (h : Nat → Nat) (tx : Nat) (sz : Nat) (hA0 : ∀ q : Nat, sz ≤ q → A q) (S : CS) (p0 : Int32) (p1 : Int32) (r : Int32) (S' : CS) (hf : f_X10_row_0 S p0 p1 = some (r, S')) : cCi l yX10_row wsX10_row rmX10_row_0 dC dI t ts aK aV A h tx tx sz [.ref (h 0), .int p0, .int p1] S r S' := by
  refine Met.ofW (cc := cX10_row) (maxL := 3) (ret := (some .int)) (by decide) rfl ?_
  intro p e s m args below meth c s₁ B hml hv
  obtain ⟨hargs, hsz, hE, hC, hK⟩ := hv
  have hx := B.exec
  have hb := B.bytes
  have hr := B.returns
  have hts := atoms_spec (ws := wsX10_row) B.pre
  have hown : s.vm.findClass RX10 = some m.cls := findClass_of_methodNamed B.named
  have hlocks := B.notSynchronized
  have hsz : s.heap.size = sz := hsz
  subst hsz
  have hin7 := in7_X10_row_0
  have hin10 := in10_X10_row_0
  have lk10_10 : Cond.fieldLink RX10 10 (TX10 0).1 (TX10 0).2.1 (TX10 0).2.2.1 ∈ wsX10_row := by decide +kernel
  have lk34_10 : Cond.fieldLink RX10 34 (TX10 4).1 (TX10 4).2.1 (TX10 4).2.2.1 ∈ wsX10_row := by decide +kernel
  have lk140_7 : Cond.fieldLink RX10 140 (TX7 1).1 (TX7 1).2.1 (TX7 1).2.2.1 ∈ wsX10_row := by decide +kernel
  have lk145_7 : Cond.fieldLink RX10 145 (TX7 3).1 (TX7 3).2.1 (TX7 3).2.2.1 ∈ wsX10_row := by decide +kernel
  have lk148_7 : Cond.fieldLink RX10 148 (TX7 4).1 (TX7 4).2.1 (TX7 4).2.2.1 ∈ wsX10_row := by decide +kernel
  have hA : ∀ q : Nat, s.heap.size ≤ q → A q := hA0
  obtain ⟨g, LP, pf, hP, hD, hG⟩ := hC
  have hS : va_S A s.heap s.heap [] := va_S.rf
  have hl := lv_entry ([.ref (h 0), .int p0, .int p1]) (n := 3) (Nat.le_of_ble_eq_true rfl)
  rw [show entryFrame m args 3 = entryFrame m ([.ref (h 0), .int p0, .int p1] : List Value).toArray 3 from by rw [hargs], lg_entry_eq]
  generalize (lg_sl ([.ref (h 0), .int p0, .int p1]) ++ List.replicate (3 - (lg_sl ([.ref (h 0), .int p0, .int p1])).length) Slot.unset).toArray = ls at hl ⊢
  have hl : lv_has ls 3 [(0, .ref (h 0)), (1, .int p0), (2, .int p1)] := hl
  unfold f_X10_row_0 at hf
  refine lv_aload_n hx hb dX10_row_0 rfl (lv_at hl 0 rfl) ?_
  refine va_get (D := (dC, dI)) (ci := 10) (v := .ref (h 3)) (C := RX10) (T := TX10) (N := 9) hx hb hts hin10 hown hK hP 0 rfl rfl 0 (by decide) (hts _ lk10_10) (fun _ h9 => h9) rfl dX10_row_1 ?_
  refine lv_iload_n hx hb dX10_row_4 rfl (lv_at hl 1 rfl) ?_
  obtain ⟨r1, er1, hf⟩ := bd hf
  refine klCi (rest := []) (As := [.int p0]) ⟨hx, hb, hml, hown, hts⟩ (c_X1_hasSet_3 l dC dI t ts aK aV A h tx s.heap.size (fun q hq => hA q (Nat.le_trans hS.1 hq)) S p0 r1 er1) (cwV 1 hts gX10_row_X1_hasSet rfl rfl rfl (by decide +kernel) ⟨Nat.le_of_ble_eq_true rfl, Nat.le_of_ble_eq_true rfl⟩) (va_recv hK hP (ci := 1) (q0 := 3) rfl rfl) rfl hl.1 rfl (Nat.le_of_ble_eq_true rfl) dX10_row_5 ⟨Nat.zero_le _, Nat.zero_le _⟩ hE hK ⟨g, LP, pf, hP, hD, hG⟩ hS (fun H locs hC hS => ?_)
  obtain ⟨g, LP, pf, hP, hD, hG⟩ := hC
  refine lv_if_eq (tgt := 15) hx hb dX10_row_8 (by decide) (fun c12 => ?_) (fun c12 => ?_)
  · have hf := (if_pos c12).symm.trans hf
    refine lv_aload_n hx hb dX10_row_15 rfl (lv_at hl 0 rfl) ?_
    refine lv_bipush (v := (-10)) hx hb dX10_row_16 (by decide) ?_
    obtain ⟨r2, S3, er2, hf⟩ := b2 hf
    refine klCi (rest := []) (As := [.int (-10)]) ⟨hx, hb, hml, hown, hts⟩ (c_X10_bad_0 l dC dI t ts aK aV A h tx H.size (fun q hq => hA q (Nat.le_trans hS.1 hq)) S (-10) r2 S3 er2) (cwV 1 hts gX10_row_X10_bad rfl rfl rfl (by decide +kernel) ⟨Nat.le_of_ble_eq_true rfl, Nat.le_of_ble_eq_true rfl⟩) (va_recv hK hP (ci := 10) (q0 := 0) rfl rfl) rfl hl.1 rfl (Nat.le_of_ble_eq_true rfl) dX10_row_18 ⟨Nat.zero_le _, Nat.zero_le _⟩ hE hK ⟨g, LP, pf, hP, hD, hG⟩ hS (fun H locs hC hS => ?_)
    obtain ⟨g, LP, pf, hP, hD, hG⟩ := hC
    exact rtCi hx hb hr hlocks ⟨g, LP, pf, hP, hD, hG⟩ hS hf dX10_row_21
  · have hf := (if_neg c12).symm.trans hf
    refine lv_iload_n hx hb dX10_row_11 rfl (lv_at hl 2 rfl) ?_
    refine lv_if_ge (tgt := 22) hx hb dX10_row_12 (by decide) (fun c11 => ?_) (fun c11 => ?_)
    · have hf := (if_pos c11).symm.trans hf
      refine lv_aload_n hx hb dX10_row_22 rfl (lv_at hl 0 rfl) ?_
      refine va_get (D := (dC, dI)) (ci := 10) (v := .ref (h 33)) (C := RX10) (T := TX10) (N := 9) hx hb hts hin10 hown hK hP 0 rfl rfl 4 (by decide) (hts _ lk34_10) (fun _ h9 => h9) rfl dX10_row_23 ?_
      refine lv_aload_n hx hb dX10_row_26 rfl (lv_at hl 0 rfl) ?_
      refine va_get (D := (dC, dI)) (ci := 10) (v := .ref (h 3)) (C := RX10) (T := TX10) (N := 9) hx hb hts hin10 hown hK hP 0 rfl rfl 0 (by decide) (hts _ lk10_10) (fun _ h9 => h9) rfl dX10_row_27 ?_
      refine lv_iload_n hx hb dX10_row_30 rfl (lv_at hl 1 rfl) ?_
      refine lv_iconst (v := 0) hx hb dX10_row_31 (by decide) ?_
      obtain ⟨S4, eS4, hf⟩ := bd hf
      refine klCv (rest := []) (As := [.ref (h 3), .int p0, .int 0]) ⟨hx, hb, hml, hown, hts⟩ (c_X7_plan_33_3 l dC dI t ts aK aV A h tx H.size (fun q hq => hA q (Nat.le_trans hS.1 hq)) S p0 0 S4 eS4) (cwV 3 hts gX10_row_X7_plan rfl rfl rfl (by decide +kernel) ⟨Nat.le_of_ble_eq_true rfl, Nat.le_of_ble_eq_true rfl⟩) (va_recv hK hP (ci := 7) (q0 := 33) rfl rfl) rfl hl.1 rfl (Nat.le_of_ble_eq_true rfl) dX10_row_32 ⟨Nat.zero_le _, Nat.zero_le _⟩ hE hK ⟨g, LP, pf, hP, hD, hG⟩ hS (fun H locs hC hS => ?_)
      obtain ⟨g, LP, pf, hP, hD, hG⟩ := hC
      refine lv_aload_n hx hb dX10_row_35 rfl (lv_at hl 0 rfl) ?_
      refine va_get (D := (dC, dI)) (ci := 10) (v := .ref (h 33)) (C := RX10) (T := TX10) (N := 9) hx hb hts hin10 hown hK hP 0 rfl rfl 4 (by decide) (hts _ lk34_10) (fun _ h9 => h9) rfl dX10_row_36 ?_
      refine va_get (D := (dC, dI)) (ci := 7) (v := .int (S4.1 4301 0)) (C := RX7) (T := TX7) (N := 12) hx hb hts hin7 hown hK hP 33 rfl rfl 1 (by decide) (hts _ lk140_7) (fun _ h9 => h9) rfl dX10_row_39 ?_
      refine lv_iconst (v := (-1)) hx hb dX10_row_42 (by decide) ?_
      refine lv_icmp_eq (tgt := 64) hx hb dX10_row_43 (by decide) (fun c8 => ?_) (fun c8 => ?_)
      · have hf := (if_pos c8).symm.trans hf
        refine lv_bipush (v := (-5)) hx hb dX10_row_64 (by decide) ?_
        exact rtCi hx hb hr hlocks ⟨g, LP, pf, hP, hD, hG⟩ hS hf dX10_row_66
      · have hf := (if_neg c8).symm.trans hf
        refine lv_iload_n hx hb dX10_row_46 rfl (lv_at hl 2 rfl) ?_
        refine lv_aload_n hx hb dX10_row_47 rfl (lv_at hl 0 rfl) ?_
        refine va_get (D := (dC, dI)) (ci := 10) (v := .ref (h 33)) (C := RX10) (T := TX10) (N := 9) hx hb hts hin10 hown hK hP 0 rfl rfl 4 (by decide) (hts _ lk34_10) (fun _ h9 => h9) rfl dX10_row_48 ?_
        refine va_get (D := (dC, dI)) (ci := 7) (v := .int (S4.1 4303 0)) (C := RX7) (T := TX7) (N := 12) hx hb hts hin7 hown hK hP 33 rfl rfl 3 (by decide) (hts _ lk145_7) (fun _ h9 => h9) rfl dX10_row_51 ?_
        refine lv_icmp_ge (tgt := 64) hx hb dX10_row_54 (by decide) (fun c7 => ?_) (fun c7 => ?_)
        · have hf := (if_pos c7).symm.trans hf
          refine lv_bipush (v := (-5)) hx hb dX10_row_64 (by decide) ?_
          exact rtCi hx hb hr hlocks ⟨g, LP, pf, hP, hD, hG⟩ hS hf dX10_row_66
        · have hf := (if_neg c7).symm.trans hf
          refine lv_iload_n hx hb dX10_row_57 rfl (lv_at hl 2 rfl) ?_
          refine lv_sipush (v := 240) hx hb dX10_row_58 (by decide) ?_
          refine lv_icmp_lt (tgt := 67) hx hb dX10_row_61 (by decide) (fun c6 => ?_) (fun c6 => ?_)
          · have hf := (if_pos c6).symm.trans hf
            refine lv_aload_n hx hb dX10_row_67 rfl (lv_at hl 0 rfl) ?_
            refine va_get (D := (dC, dI)) (ci := 10) (v := .ref (h 33)) (C := RX10) (T := TX10) (N := 9) hx hb hts hin10 hown hK hP 0 rfl rfl 4 (by decide) (hts _ lk34_10) (fun _ h9 => h9) rfl dX10_row_68 ?_
            refine va_get (D := (dC, dI)) (ci := 7) (v := .ref (h 34)) (C := RX7) (T := TX7) (N := 12) hx hb hts hin7 hown hK hP 33 rfl rfl 4 (by decide) (hts _ lk148_7) (fun _ h9 => h9) rfl dX10_row_71 ?_
            refine lv_iload_n hx hb dX10_row_74 rfl (lv_at hl 2 rfl) ?_
            obtain ⟨x5, hix5, ex5, hf⟩ := rd_b hf
            refine va_iald hx hb hK hP 34 0 rfl rfl hix5 dX10_row_75 (kI ex5 ?_)
            exact rtCi hx hb hr hlocks ⟨g, LP, pf, hP, hD, hG⟩ hS hf dX10_row_76
          · have hf := (if_neg c6).symm.trans hf
            refine lv_bipush (v := (-5)) hx hb dX10_row_64 (by decide) ?_
            exact rtCi hx hb hr hlocks ⟨g, LP, pf, hP, hD, hG⟩ hS hf dX10_row_66
    · have hf := (if_neg c11).symm.trans hf
      refine lv_aload_n hx hb dX10_row_15 rfl (lv_at hl 0 rfl) ?_
      refine lv_bipush (v := (-10)) hx hb dX10_row_16 (by decide) ?_
      obtain ⟨r9, S10, er9, hf⟩ := b2 hf
      refine klCi (rest := []) (As := [.int (-10)]) ⟨hx, hb, hml, hown, hts⟩ (c_X10_bad_0 l dC dI t ts aK aV A h tx H.size (fun q hq => hA q (Nat.le_trans hS.1 hq)) S (-10) r9 S10 er9) (cwV 1 hts gX10_row_X10_bad rfl rfl rfl (by decide +kernel) ⟨Nat.le_of_ble_eq_true rfl, Nat.le_of_ble_eq_true rfl⟩) (va_recv hK hP (ci := 10) (q0 := 0) rfl rfl) rfl hl.1 rfl (Nat.le_of_ble_eq_true rfl) dX10_row_18 ⟨Nat.zero_le _, Nat.zero_le _⟩ hE hK ⟨g, LP, pf, hP, hD, hG⟩ hS (fun H locs hC hS => ?_)
      obtain ⟨g, LP, pf, hP, hD, hG⟩ := hC
      exact rtCi hx hb hr hlocks ⟨g, LP, pf, hP, hD, hG⟩ hS hf dX10_row_21

def j_X10_worth_0_69 (p0 : Int32) (S8 : CS) (k9 : Int32) : Option (Int32 × CS) :=
  Option.bind (some (S8.1 4302 0)) (fun x10 => Option.bind (f_X7_plan_33_3 S8 p0 0) (fun S11 => (if k9 = 0 then ((if (S11.1 4301 0) = (-1) then (Option.bind (some (siI S11 1007 (fun _ => (S11.1 1007 0) + 1))) (fun S13 => some (((-2000), S13)))) else (some ((x10 - (S11.1 4302 0), S11))))) else (Option.bind (some (siI S11 1007 (fun _ => (S11.1 1007 0) + 1))) (fun S12 => some (((-2000), S12)))))))
def f_X10_worth_0 (S : CS) (p0 : Int32) (p1 : Int32) : Option (Int32 × CS) :=
  Option.bind (f_X1_hasSet_3 S p0) (fun r1 => (if r1 = 0 then (bi2 (f_X10_bad_0 S (-1000)) (fun r2 S3 => some ((r2, S3)))) else (Option.bind (f_X1_hasPorter_3 S p1) (fun r4 => (if r4 = 0 then (bi2 (f_X10_bad_0 S (-1000)) (fun r5 S6 => some ((r5, S6)))) else (Option.bind (f_X10_hasPorterIn p0 p1) (fun r7 => (if r7 = 0 then (Option.bind (f_X7_plan_33_3 S p0 (1 <<< (p1 &&& 31))) (fun S8 => (if (S8.1 4301 0) = (-1) then (j_X10_worth_0_69 p0 S8 1) else (j_X10_worth_0_69 p0 S8 0)))) else (bi2 (f_X10_bad_0 S (-1000)) (fun r17 S18 => some ((r17, S18))))))))))))
def rmX10_worth_0 : Room := { frames := 6, cells := 0, slots := 0, locals := 149 }
abbrev RRX10_worth_0 : Room := (headSpec wsX10_worth rmX10_worth_0).room
theorem in7_X10_worth_0 : ∀ w ∈ wsX70, w ∈ wsX10_worth := by decide +kernel
theorem in10_X10_worth_0 : ∀ w ∈ wsX100, w ∈ wsX10_worth := by decide +kernel
set_option maxHeartbeats 4000000 in
set_option maxRecDepth 100000 in
theorem c_X10_worth_0 (l : Launch) (dC : Nat → ClassId) (dI : Nat → Nat → Nat) (t : Nat → ClassId) (ts aK aV : Nat → Nat) (A : Nat → Prop) (h : Nat → Nat) (tx : Nat) (sz : Nat) (hA0 : ∀ q : Nat, sz ≤ q → A q) (S : CS) (p0 : Int32) (p1 : Int32) (r : Int32) (S' : CS) (hf : f_X10_worth_0 S p0 p1 = some (r, S')) : cCi l yX10_worth wsX10_worth rmX10_worth_0 dC dI t ts aK aV A h tx tx sz [.ref (h 0), .int p0, .int p1] S r S' := by
  refine Met.ofW (cc := cX10_worth) (maxL := 5) (ret := (some .int)) (by decide) rfl ?_
  intro p e s m args below meth c s₁ B hml hv
  obtain ⟨hargs, hsz, hE, hC, hK⟩ := hv
  have hx := B.exec
  have hb := B.bytes
  have hr := B.returns
  have hts := atoms_spec (ws := wsX10_worth) B.pre
  have hown : s.vm.findClass RX10 = some m.cls := findClass_of_methodNamed B.named
  have hlocks := B.notSynchronized
  have hsz : s.heap.size = sz := hsz
  subst hsz
  have hin7 := in7_X10_worth_0
  have hin10 := in10_X10_worth_0
  have lk10_10 : Cond.fieldLink RX10 10 (TX10 0).1 (TX10 0).2.1 (TX10 0).2.2.1 ∈ wsX10_worth := by decide +kernel
  have lk34_10 : Cond.fieldLink RX10 34 (TX10 4).1 (TX10 4).2.1 (TX10 4).2.2.1 ∈ wsX10_worth := by decide +kernel
  have lk140_7 : Cond.fieldLink RX10 140 (TX7 1).1 (TX7 1).2.1 (TX7 1).2.2.1 ∈ wsX10_worth := by decide +kernel
  have lk142_7 : Cond.fieldLink RX10 142 (TX7 2).1 (TX7 2).2.1 (TX7 2).2.2.1 ∈ wsX10_worth := by decide +kernel
  have lk154_10 : Cond.fieldLink RX10 154 (TX10 7).1 (TX10 7).2.1 (TX10 7).2.2.1 ∈ wsX10_worth := by decide +kernel
  have hA : ∀ q : Nat, s.heap.size ≤ q → A q := hA0
  obtain ⟨g, LP, pf, hP, hD, hG⟩ := hC
  have hS : va_S A s.heap s.heap [] := va_S.rf
  have hl := lv_entry ([.ref (h 0), .int p0, .int p1]) (n := 5) (Nat.le_of_ble_eq_true rfl)
  rw [show entryFrame m args 5 = entryFrame m ([.ref (h 0), .int p0, .int p1] : List Value).toArray 5 from by rw [hargs], lg_entry_eq]
  generalize (lg_sl ([.ref (h 0), .int p0, .int p1]) ++ List.replicate (5 - (lg_sl ([.ref (h 0), .int p0, .int p1])).length) Slot.unset).toArray = ls at hl ⊢
  have hl : lv_has ls 5 [(0, .ref (h 0)), (1, .int p0), (2, .int p1)] := hl
  unfold f_X10_worth_0 at hf
  refine lv_aload_n hx hb dX10_worth_0 rfl (lv_at hl 0 rfl) ?_
  refine va_get (D := (dC, dI)) (ci := 10) (v := .ref (h 3)) (C := RX10) (T := TX10) (N := 9) hx hb hts hin10 hown hK hP 0 rfl rfl 0 (by decide) (hts _ lk10_10) (fun _ h9 => h9) rfl dX10_worth_1 ?_
  refine lv_iload_n hx hb dX10_worth_4 rfl (lv_at hl 1 rfl) ?_
  obtain ⟨r1, er1, hf⟩ := bd hf
  refine klCi (rest := []) (As := [.int p0]) ⟨hx, hb, hml, hown, hts⟩ (c_X1_hasSet_3 l dC dI t ts aK aV A h tx s.heap.size (fun q hq => hA q (Nat.le_trans hS.1 hq)) S p0 r1 er1) (cwV 1 hts gX10_worth_X1_hasSet rfl rfl rfl (by decide +kernel) ⟨Nat.le_of_ble_eq_true rfl, Nat.le_of_ble_eq_true rfl⟩) (va_recv hK hP (ci := 1) (q0 := 3) rfl rfl) rfl hl.1 rfl (Nat.le_of_ble_eq_true rfl) dX10_worth_5 ⟨Nat.zero_le _, Nat.zero_le _⟩ hE hK ⟨g, LP, pf, hP, hD, hG⟩ hS (fun H locs hC hS => ?_)
  obtain ⟨g, LP, pf, hP, hD, hG⟩ := hC
  refine lv_if_eq (tgt := 30) hx hb dX10_worth_8 (by decide) (fun c21 => ?_) (fun c21 => ?_)
  · have hf := (if_pos c21).symm.trans hf
    refine lv_aload_n hx hb dX10_worth_30 rfl (lv_at hl 0 rfl) ?_
    refine lv_sipush (v := (-1000)) hx hb dX10_worth_31 (by decide) ?_
    obtain ⟨r2, S3, er2, hf⟩ := b2 hf
    refine klCi (rest := []) (As := [.int (-1000)]) ⟨hx, hb, hml, hown, hts⟩ (c_X10_bad_0 l dC dI t ts aK aV A h tx H.size (fun q hq => hA q (Nat.le_trans hS.1 hq)) S (-1000) r2 S3 er2) (cwV 1 hts gX10_worth_X10_bad rfl rfl rfl (by decide +kernel) ⟨Nat.le_of_ble_eq_true rfl, Nat.le_of_ble_eq_true rfl⟩) (va_recv hK hP (ci := 10) (q0 := 0) rfl rfl) rfl hl.1 rfl (Nat.le_of_ble_eq_true rfl) dX10_worth_34 ⟨Nat.zero_le _, Nat.zero_le _⟩ hE hK ⟨g, LP, pf, hP, hD, hG⟩ hS (fun H locs hC hS => ?_)
    obtain ⟨g, LP, pf, hP, hD, hG⟩ := hC
    exact rtCi hx hb hr hlocks ⟨g, LP, pf, hP, hD, hG⟩ hS hf dX10_worth_37
  · have hf := (if_neg c21).symm.trans hf
    refine lv_aload_n hx hb dX10_worth_11 rfl (lv_at hl 0 rfl) ?_
    refine va_get (D := (dC, dI)) (ci := 10) (v := .ref (h 3)) (C := RX10) (T := TX10) (N := 9) hx hb hts hin10 hown hK hP 0 rfl rfl 0 (by decide) (hts _ lk10_10) (fun _ h9 => h9) rfl dX10_worth_12 ?_
    refine lv_iload_n hx hb dX10_worth_15 rfl (lv_at hl 2 rfl) ?_
    obtain ⟨r4, er4, hf⟩ := bd hf
    refine klCi (rest := []) (As := [.int p1]) ⟨hx, hb, hml, hown, hts⟩ (c_X1_hasPorter_3 l dC dI t ts aK aV A h tx H.size (fun q hq => hA q (Nat.le_trans hS.1 hq)) S p1 r4 er4) (cwV 1 hts gX10_worth_X1_hasPorter rfl rfl rfl (by decide +kernel) ⟨Nat.le_of_ble_eq_true rfl, Nat.le_of_ble_eq_true rfl⟩) (va_recv hK hP (ci := 1) (q0 := 3) rfl rfl) rfl hl.1 rfl (Nat.le_of_ble_eq_true rfl) dX10_worth_16 ⟨Nat.zero_le _, Nat.zero_le _⟩ hE hK ⟨g, LP, pf, hP, hD, hG⟩ hS (fun H locs hC hS => ?_)
    obtain ⟨g, LP, pf, hP, hD, hG⟩ := hC
    refine lv_if_eq (tgt := 30) hx hb dX10_worth_19 (by decide) (fun c20 => ?_) (fun c20 => ?_)
    · have hf := (if_pos c20).symm.trans hf
      refine lv_aload_n hx hb dX10_worth_30 rfl (lv_at hl 0 rfl) ?_
      refine lv_sipush (v := (-1000)) hx hb dX10_worth_31 (by decide) ?_
      obtain ⟨r5, S6, er5, hf⟩ := b2 hf
      refine klCi (rest := []) (As := [.int (-1000)]) ⟨hx, hb, hml, hown, hts⟩ (c_X10_bad_0 l dC dI t ts aK aV A h tx H.size (fun q hq => hA q (Nat.le_trans hS.1 hq)) S (-1000) r5 S6 er5) (cwV 1 hts gX10_worth_X10_bad rfl rfl rfl (by decide +kernel) ⟨Nat.le_of_ble_eq_true rfl, Nat.le_of_ble_eq_true rfl⟩) (va_recv hK hP (ci := 10) (q0 := 0) rfl rfl) rfl hl.1 rfl (Nat.le_of_ble_eq_true rfl) dX10_worth_34 ⟨Nat.zero_le _, Nat.zero_le _⟩ hE hK ⟨g, LP, pf, hP, hD, hG⟩ hS (fun H locs hC hS => ?_)
      obtain ⟨g, LP, pf, hP, hD, hG⟩ := hC
      exact rtCi hx hb hr hlocks ⟨g, LP, pf, hP, hD, hG⟩ hS hf dX10_worth_37
    · have hf := (if_neg c20).symm.trans hf
      refine lv_iload_n hx hb dX10_worth_22 rfl (lv_at hl 1 rfl) ?_
      refine lv_iload_n hx hb dX10_worth_23 rfl (lv_at hl 2 rfl) ?_
      obtain ⟨r7, er7, hf⟩ := bd hf
      refine klXi (rest := []) (As := [.int p0, .int p1]) ⟨hx, hb, hml, hown, hts⟩ (c_X10_hasPorterIn l H.size p0 p1 r7 er7) (fun _ _ _ _ _ => trivial) (fun _ _ _ => trivial) (va_cwS 2 hts gX10_worth_X10_hasPorterIn rfl rfl rfl (by decide +kernel) ⟨Nat.le_of_ble_eq_true rfl, Nat.le_of_ble_eq_true rfl⟩) rfl hl.1 rfl (Nat.le_of_ble_eq_true rfl) dX10_worth_24 ⟨Nat.zero_le _, Nat.zero_le _⟩ hS hA (fun H2 locs hk hS => ?_)
      have hP := kpP hP hk
      generalize H2 = H at hP hS ⊢
      refine lv_if_eq (tgt := 38) hx hb dX10_worth_27 (by decide) (fun c19 => ?_) (fun c19 => ?_)
      · have hf := (if_pos c19).symm.trans hf
        refine lv_aload_n hx hb dX10_worth_38 rfl (lv_at hl 0 rfl) ?_
        refine va_get (D := (dC, dI)) (ci := 10) (v := .ref (h 33)) (C := RX10) (T := TX10) (N := 9) hx hb hts hin10 hown hK hP 0 rfl rfl 4 (by decide) (hts _ lk34_10) (fun _ h9 => h9) rfl dX10_worth_39 ?_
        refine lv_aload_n hx hb dX10_worth_42 rfl (lv_at hl 0 rfl) ?_
        refine va_get (D := (dC, dI)) (ci := 10) (v := .ref (h 3)) (C := RX10) (T := TX10) (N := 9) hx hb hts hin10 hown hK hP 0 rfl rfl 0 (by decide) (hts _ lk10_10) (fun _ h9 => h9) rfl dX10_worth_43 ?_
        refine lv_iload_n hx hb dX10_worth_46 rfl (lv_at hl 1 rfl) ?_
        refine lv_iconst (v := 1) hx hb dX10_worth_47 (by decide) ?_
        refine lv_iload_n hx hb dX10_worth_48 rfl (lv_at hl 2 rfl) ?_
        refine lv_ishl hx hb dX10_worth_49 ?_
        obtain ⟨S8, eS8, hf⟩ := bd hf
        refine klCv (rest := []) (As := [.ref (h 3), .int p0, .int (1 <<< (p1 &&& 31))]) ⟨hx, hb, hml, hown, hts⟩ (c_X7_plan_33_3 l dC dI t ts aK aV A h tx H.size (fun q hq => hA q (Nat.le_trans hS.1 hq)) S p0 (1 <<< (p1 &&& 31)) S8 eS8) (cwV 3 hts gX10_worth_X7_plan rfl rfl rfl (by decide +kernel) ⟨Nat.le_of_ble_eq_true rfl, Nat.le_of_ble_eq_true rfl⟩) (va_recv hK hP (ci := 7) (q0 := 33) rfl rfl) rfl hl.1 rfl (Nat.le_of_ble_eq_true rfl) dX10_worth_50 ⟨Nat.zero_le _, Nat.zero_le _⟩ hE hK ⟨g, LP, pf, hP, hD, hG⟩ hS (fun H locs hC hS => ?_)
        obtain ⟨g, LP, pf, hP, hD, hG⟩ := hC
        refine lv_aload_n hx hb dX10_worth_53 rfl (lv_at hl 0 rfl) ?_
        refine va_get (D := (dC, dI)) (ci := 10) (v := .ref (h 33)) (C := RX10) (T := TX10) (N := 9) hx hb hts hin10 hown hK hP 0 rfl rfl 4 (by decide) (hts _ lk34_10) (fun _ h9 => h9) rfl dX10_worth_54 ?_
        refine va_get (D := (dC, dI)) (ci := 7) (v := .int (S8.1 4301 0)) (C := RX7) (T := TX7) (N := 12) hx hb hts hin7 hown hK hP 33 rfl rfl 1 (by decide) (hts _ lk140_7) (fun _ h9 => h9) rfl dX10_worth_57 ?_
        refine lv_iconst (v := (-1)) hx hb dX10_worth_60 (by decide) ?_
        have J69 : ∀ (k9 : Int32) (g : Nat → Nat → Option Nat) (LP : List Nat) (pf : Nat → va_E) (H : Heap) (locs : List Loc) (ls : Array Slot), j_X10_worth_0_69 p0 S8 k9 = some (r, S') → va_P (dC, dI) vwCl (wC t h tx g S8 ++ va_pl LP pf) H → va_D A (wC t h tx g S8 ++ va_pl LP pf) → rlC g LP pf S8 → va_S A s.heap H locs → lv_has ls 5 [(0, .ref (h 0)), (1, .int p0)] → W p l e RRX10_worth_0 s m args below meth c H locs 0 0 (MQ below (qcCi dC dI t A h tx r S') args s 0 0 A) (F0 m 69 ls [.int k9]) := by
          intro k9 g LP pf H locs ls hf hP hD hG hS hl
          unfold j_X10_worth_0_69 at hf
          refine lv_istore_n (lv' := [(3, .int k9), (0, .ref (h 0)), (1, .int p0)]) hx hb dX10_worth_69 rfl hl (by decide) rfl (fun ls hl => ?_)
          refine lv_aload_n hx hb dX10_worth_70 rfl (lv_at hl 1 rfl) ?_
          refine va_get (D := (dC, dI)) (ci := 10) (v := .ref (h 33)) (C := RX10) (T := TX10) (N := 9) hx hb hts hin10 hown hK hP 0 rfl rfl 4 (by decide) (hts _ lk34_10) (fun _ h9 => h9) rfl dX10_worth_71 ?_
          refine va_get (D := (dC, dI)) (ci := 7) (v := .int (S8.1 4302 0)) (C := RX7) (T := TX7) (N := 12) hx hb hts hin7 hown hK hP 33 rfl rfl 2 (by decide) (hts _ lk142_7) (fun _ h9 => h9) rfl dX10_worth_74 ?_
          refine lv_topi (fun x10 ex10 => ?_)
          have hf := bs ex10 hf
          refine lv_istore (lv' := [(4, .int x10), (3, .int k9), (0, .ref (h 0)), (1, .int p0)]) hx hb dX10_worth_77 hl (by decide) rfl (fun ls hl => ?_)
          refine lv_aload_n hx hb dX10_worth_79 rfl (lv_at hl 2 rfl) ?_
          refine va_get (D := (dC, dI)) (ci := 10) (v := .ref (h 33)) (C := RX10) (T := TX10) (N := 9) hx hb hts hin10 hown hK hP 0 rfl rfl 4 (by decide) (hts _ lk34_10) (fun _ h9 => h9) rfl dX10_worth_80 ?_
          refine lv_aload_n hx hb dX10_worth_83 rfl (lv_at hl 2 rfl) ?_
          refine va_get (D := (dC, dI)) (ci := 10) (v := .ref (h 3)) (C := RX10) (T := TX10) (N := 9) hx hb hts hin10 hown hK hP 0 rfl rfl 0 (by decide) (hts _ lk10_10) (fun _ h9 => h9) rfl dX10_worth_84 ?_
          refine lv_iload_n hx hb dX10_worth_87 rfl (lv_at hl 3 rfl) ?_
          refine lv_iconst (v := 0) hx hb dX10_worth_88 (by decide) ?_
          obtain ⟨S11, eS11, hf⟩ := bd hf
          refine klCv (rest := []) (As := [.ref (h 3), .int p0, .int 0]) ⟨hx, hb, hml, hown, hts⟩ (c_X7_plan_33_3 l dC dI t ts aK aV A h tx H.size (fun q hq => hA q (Nat.le_trans hS.1 hq)) S8 p0 0 S11 eS11) (cwV 3 hts gX10_worth_X7_plan rfl rfl rfl (by decide +kernel) ⟨Nat.le_of_ble_eq_true rfl, Nat.le_of_ble_eq_true rfl⟩) (va_recv hK hP (ci := 7) (q0 := 33) rfl rfl) rfl hl.1 rfl (Nat.le_of_ble_eq_true rfl) dX10_worth_89 ⟨Nat.zero_le _, Nat.zero_le _⟩ hE hK ⟨g, LP, pf, hP, hD, hG⟩ hS (fun H locs hC hS => ?_)
          obtain ⟨g, LP, pf, hP, hD, hG⟩ := hC
          refine lv_iload_n hx hb dX10_worth_92 rfl (lv_at hl 1 rfl) ?_
          refine lv_if_ne (tgt := 107) hx hb dX10_worth_93 (by decide) (fun c15 => ?_) (fun c15 => ?_)
          · have hf := (if_neg c15).symm.trans hf
            refine lv_aload_n hx hb dX10_worth_107 rfl (lv_at hl 2 rfl) ?_
            refine lv_dup hx hb dX10_worth_108 rfl ?_
            refine va_get (D := (dC, dI)) (ci := 10) (v := .int (S11.1 1007 0)) (C := RX10) (T := TX10) (N := 9) hx hb hts hin10 hown hK hP 0 rfl rfl 7 (by decide) (hts _ lk154_10) (fun _ h9 => h9) rfl dX10_worth_109 ?_
            refine lv_iconst (v := 1) hx hb dX10_worth_112 (by decide) ?_
            refine lv_iadd hx hb dX10_worth_113 ?_
            obtain ⟨S12, eS12, hf⟩ := bn hf
            refine va_put (D := (dC, dI)) (ci := 10) (v := .int ((S11.1 1007 0) + 1)) (ty := .int) (C := RX10) (T := TX10) (N := 9) hx hb hts hin10 tyX10 tyX10_ok nmX10 hown hK hP hD hS 0 rfl rfl 7 (by decide) (hts _ lk154_10) (fun _ h9 => h9) rfl (by decide +kernel) rfl rfl (Nat.le_of_ble_eq_true rfl) dX10_worth_114 (fun H locs hP hD hS => ?_)
            have hP : va_P (dC, dI) vwCl (wC t h tx g S12 ++ va_pl LP pf) H := by rw [eS12]; exact hP
            have hD : va_D A (wC t h tx g S12 ++ va_pl LP pf) := by rw [eS12]; exact hD
            have hG : rlC g LP pf S12 := by rw [eS12]; exact hG
            refine lv_sipush (v := (-2000)) hx hb dX10_worth_117 (by decide) ?_
            exact rtCi hx hb hr hlocks ⟨g, LP, pf, hP, hD, hG⟩ hS hf dX10_worth_120
          · have hf := (if_pos c15).symm.trans hf
            refine lv_aload_n hx hb dX10_worth_96 rfl (lv_at hl 2 rfl) ?_
            refine va_get (D := (dC, dI)) (ci := 10) (v := .ref (h 33)) (C := RX10) (T := TX10) (N := 9) hx hb hts hin10 hown hK hP 0 rfl rfl 4 (by decide) (hts _ lk34_10) (fun _ h9 => h9) rfl dX10_worth_97 ?_
            refine va_get (D := (dC, dI)) (ci := 7) (v := .int (S11.1 4301 0)) (C := RX7) (T := TX7) (N := 12) hx hb hts hin7 hown hK hP 33 rfl rfl 1 (by decide) (hts _ lk140_7) (fun _ h9 => h9) rfl dX10_worth_100 ?_
            refine lv_iconst (v := (-1)) hx hb dX10_worth_103 (by decide) ?_
            refine lv_icmp_ne (tgt := 121) hx hb dX10_worth_104 (by decide) (fun c14 => ?_) (fun c14 => ?_)
            · have hf := (if_neg c14).symm.trans hf
              refine lv_iload hx hb dX10_worth_121 (lv_at hl 0 rfl) ?_
              refine lv_aload_n hx hb dX10_worth_123 rfl (lv_at hl 2 rfl) ?_
              refine va_get (D := (dC, dI)) (ci := 10) (v := .ref (h 33)) (C := RX10) (T := TX10) (N := 9) hx hb hts hin10 hown hK hP 0 rfl rfl 4 (by decide) (hts _ lk34_10) (fun _ h9 => h9) rfl dX10_worth_124 ?_
              refine va_get (D := (dC, dI)) (ci := 7) (v := .int (S11.1 4302 0)) (C := RX7) (T := TX7) (N := 12) hx hb hts hin7 hown hK hP 33 rfl rfl 2 (by decide) (hts _ lk142_7) (fun _ h9 => h9) rfl dX10_worth_127 ?_
              refine lv_isub hx hb dX10_worth_130 ?_
              exact rtCi hx hb hr hlocks ⟨g, LP, pf, hP, hD, hG⟩ hS hf dX10_worth_131
            · have hf := (if_pos c14).symm.trans hf
              refine lv_aload_n hx hb dX10_worth_107 rfl (lv_at hl 2 rfl) ?_
              refine lv_dup hx hb dX10_worth_108 rfl ?_
              refine va_get (D := (dC, dI)) (ci := 10) (v := .int (S11.1 1007 0)) (C := RX10) (T := TX10) (N := 9) hx hb hts hin10 hown hK hP 0 rfl rfl 7 (by decide) (hts _ lk154_10) (fun _ h9 => h9) rfl dX10_worth_109 ?_
              refine lv_iconst (v := 1) hx hb dX10_worth_112 (by decide) ?_
              refine lv_iadd hx hb dX10_worth_113 ?_
              obtain ⟨S13, eS13, hf⟩ := bn hf
              refine va_put (D := (dC, dI)) (ci := 10) (v := .int ((S11.1 1007 0) + 1)) (ty := .int) (C := RX10) (T := TX10) (N := 9) hx hb hts hin10 tyX10 tyX10_ok nmX10 hown hK hP hD hS 0 rfl rfl 7 (by decide) (hts _ lk154_10) (fun _ h9 => h9) rfl (by decide +kernel) rfl rfl (Nat.le_of_ble_eq_true rfl) dX10_worth_114 (fun H locs hP hD hS => ?_)
              have hP : va_P (dC, dI) vwCl (wC t h tx g S13 ++ va_pl LP pf) H := by rw [eS13]; exact hP
              have hD : va_D A (wC t h tx g S13 ++ va_pl LP pf) := by rw [eS13]; exact hD
              have hG : rlC g LP pf S13 := by rw [eS13]; exact hG
              refine lv_sipush (v := (-2000)) hx hb dX10_worth_117 (by decide) ?_
              exact rtCi hx hb hr hlocks ⟨g, LP, pf, hP, hD, hG⟩ hS hf dX10_worth_120
        refine lv_icmp_ne (tgt := 68) hx hb dX10_worth_61 (by decide) (fun c16 => ?_) (fun c16 => ?_)
        · have hf := (if_neg c16).symm.trans hf
          refine lv_iconst (v := 0) hx hb dX10_worth_68 (by decide) ?_
          exact J69 0 _ _ _ _ _ _ hf hP hD hG hS (lv_sub hl [0, 1] rfl)
        · have hf := (if_pos c16).symm.trans hf
          refine lv_iconst (v := 1) hx hb dX10_worth_64 (by decide) ?_
          refine lv_goto (tgt := 69) hx hb dX10_worth_65 (by decide) ?_
          exact J69 1 _ _ _ _ _ _ hf hP hD hG hS (lv_sub hl [0, 1] rfl)
      · have hf := (if_neg c19).symm.trans hf
        refine lv_aload_n hx hb dX10_worth_30 rfl (lv_at hl 0 rfl) ?_
        refine lv_sipush (v := (-1000)) hx hb dX10_worth_31 (by decide) ?_
        obtain ⟨r17, S18, er17, hf⟩ := b2 hf
        refine klCi (rest := []) (As := [.int (-1000)]) ⟨hx, hb, hml, hown, hts⟩ (c_X10_bad_0 l dC dI t ts aK aV A h tx H.size (fun q hq => hA q (Nat.le_trans hS.1 hq)) S (-1000) r17 S18 er17) (cwV 1 hts gX10_worth_X10_bad rfl rfl rfl (by decide +kernel) ⟨Nat.le_of_ble_eq_true rfl, Nat.le_of_ble_eq_true rfl⟩) (va_recv hK hP (ci := 10) (q0 := 0) rfl rfl) rfl hl.1 rfl (Nat.le_of_ble_eq_true rfl) dX10_worth_34 ⟨Nat.zero_le _, Nat.zero_le _⟩ hE hK ⟨g, LP, pf, hP, hD, hG⟩ hS (fun H locs hC hS => ?_)
        obtain ⟨g, LP, pf, hP, hD, hG⟩ := hC
        exact rtCi hx hb hr hlocks ⟨g, LP, pf, hP, hD, hG⟩ hS hf dX10_worth_37

def j_X10_turns_0_67 (S : CS) (r7 : Int32) (r8 : Int32) : Option (Int32 × CS) :=
  (if r8 = (-1) then (some ((1, S))) else ((if r7 = (-1) then (some ((2, S))) else ((if r8 < r7 then (some ((2, S))) else (some ((1, S))))))))
def f_X10_turns_0 (S : CS) (p0 : Int32) (p1 : Int32) : Option (Int32 × CS) :=
  Option.bind (f_X1_hasSet_3 S p0) (fun r1 => (if r1 = 0 then (bi2 (f_X10_bad_0 S (-2)) (fun r2 S3 => some ((r2, S3)))) else (Option.bind (f_X1_hasSet_3 S p1) (fun r4 => (if r4 = 0 then (bi2 (f_X10_bad_0 S (-2)) (fun r5 S6 => some ((r5, S6)))) else ((if (p0 &&& p1) = 0 then (Option.bind (f_X1_turnsUntilOver_3 S p0) (fun r7 => Option.bind (f_X1_turnsUntilOver_3 S p1) (fun r8 => (if r7 = (-1) then ((if r8 = (-1) then (some ((0, S))) else (j_X10_turns_0_67 S r7 r8))) else (j_X10_turns_0_67 S r7 r8))))) else (bi2 (f_X10_bad_0 S (-2)) (fun r14 S15 => some ((r14, S15)))))))))))
def rmX10_turns_0 : Room := { frames := 5, cells := 0, slots := 0, locals := 122 }
abbrev RRX10_turns_0 : Room := (headSpec wsX10_turns rmX10_turns_0).room
theorem in10_X10_turns_0 : ∀ w ∈ wsX100, w ∈ wsX10_turns := by decide +kernel
set_option maxHeartbeats 4000000 in
set_option maxRecDepth 100000 in
theorem c_X10_turns_0 (l : Launch) (dC : Nat → ClassId) (dI : Nat → Nat → Nat) (t : Nat → ClassId) (ts aK aV : Nat → Nat) (A : Nat → Prop) (h : Nat → Nat) (tx : Nat) (sz : Nat) (hA0 : ∀ q : Nat, sz ≤ q → A q) (S : CS) (p0 : Int32) (p1 : Int32) (r : Int32) (S' : CS) (hf : f_X10_turns_0 S p0 p1 = some (r, S')) : cCi l yX10_turns wsX10_turns rmX10_turns_0 dC dI t ts aK aV A h tx tx sz [.ref (h 0), .int p0, .int p1] S r S' := by
  refine Met.ofW (cc := cX10_turns) (maxL := 5) (ret := (some .int)) (by decide) rfl ?_
  intro p e s m args below meth c s₁ B hml hv
  obtain ⟨hargs, hsz, hE, hC, hK⟩ := hv
  have hx := B.exec
  have hb := B.bytes
  have hr := B.returns
  have hts := atoms_spec (ws := wsX10_turns) B.pre
  have hown : s.vm.findClass RX10 = some m.cls := findClass_of_methodNamed B.named
  have hlocks := B.notSynchronized
  have hsz : s.heap.size = sz := hsz
  subst hsz
  have hin10 := in10_X10_turns_0
  have lk10_10 : Cond.fieldLink RX10 10 (TX10 0).1 (TX10 0).2.1 (TX10 0).2.2.1 ∈ wsX10_turns := by decide +kernel
  have hA : ∀ q : Nat, s.heap.size ≤ q → A q := hA0
  obtain ⟨g, LP, pf, hP, hD, hG⟩ := hC
  have hS : va_S A s.heap s.heap [] := va_S.rf
  have hl := lv_entry ([.ref (h 0), .int p0, .int p1]) (n := 5) (Nat.le_of_ble_eq_true rfl)
  rw [show entryFrame m args 5 = entryFrame m ([.ref (h 0), .int p0, .int p1] : List Value).toArray 5 from by rw [hargs], lg_entry_eq]
  generalize (lg_sl ([.ref (h 0), .int p0, .int p1]) ++ List.replicate (5 - (lg_sl ([.ref (h 0), .int p0, .int p1])).length) Slot.unset).toArray = ls at hl ⊢
  have hl : lv_has ls 5 [(0, .ref (h 0)), (1, .int p0), (2, .int p1)] := hl
  unfold f_X10_turns_0 at hf
  refine lv_aload_n hx hb dX10_turns_0 rfl (lv_at hl 0 rfl) ?_
  refine va_get (D := (dC, dI)) (ci := 10) (v := .ref (h 3)) (C := RX10) (T := TX10) (N := 9) hx hb hts hin10 hown hK hP 0 rfl rfl 0 (by decide) (hts _ lk10_10) (fun _ h9 => h9) rfl dX10_turns_1 ?_
  refine lv_iload_n hx hb dX10_turns_4 rfl (lv_at hl 1 rfl) ?_
  obtain ⟨r1, er1, hf⟩ := bd hf
  refine klCi (rest := []) (As := [.int p0]) ⟨hx, hb, hml, hown, hts⟩ (c_X1_hasSet_3 l dC dI t ts aK aV A h tx s.heap.size (fun q hq => hA q (Nat.le_trans hS.1 hq)) S p0 r1 er1) (cwV 1 hts gX10_turns_X1_hasSet rfl rfl rfl (by decide +kernel) ⟨Nat.le_of_ble_eq_true rfl, Nat.le_of_ble_eq_true rfl⟩) (va_recv hK hP (ci := 1) (q0 := 3) rfl rfl) rfl hl.1 rfl (Nat.le_of_ble_eq_true rfl) dX10_turns_5 ⟨Nat.zero_le _, Nat.zero_le _⟩ hE hK ⟨g, LP, pf, hP, hD, hG⟩ hS (fun H locs hC hS => ?_)
  obtain ⟨g, LP, pf, hP, hD, hG⟩ := hC
  refine lv_if_eq (tgt := 28) hx hb dX10_turns_8 (by decide) (fun c18 => ?_) (fun c18 => ?_)
  · have hf := (if_pos c18).symm.trans hf
    refine lv_aload_n hx hb dX10_turns_28 rfl (lv_at hl 0 rfl) ?_
    refine lv_bipush (v := (-2)) hx hb dX10_turns_29 (by decide) ?_
    obtain ⟨r2, S3, er2, hf⟩ := b2 hf
    refine klCi (rest := []) (As := [.int (-2)]) ⟨hx, hb, hml, hown, hts⟩ (c_X10_bad_0 l dC dI t ts aK aV A h tx H.size (fun q hq => hA q (Nat.le_trans hS.1 hq)) S (-2) r2 S3 er2) (cwV 1 hts gX10_turns_X10_bad rfl rfl rfl (by decide +kernel) ⟨Nat.le_of_ble_eq_true rfl, Nat.le_of_ble_eq_true rfl⟩) (va_recv hK hP (ci := 10) (q0 := 0) rfl rfl) rfl hl.1 rfl (Nat.le_of_ble_eq_true rfl) dX10_turns_31 ⟨Nat.zero_le _, Nat.zero_le _⟩ hE hK ⟨g, LP, pf, hP, hD, hG⟩ hS (fun H locs hC hS => ?_)
    obtain ⟨g, LP, pf, hP, hD, hG⟩ := hC
    exact rtCi hx hb hr hlocks ⟨g, LP, pf, hP, hD, hG⟩ hS hf dX10_turns_34
  · have hf := (if_neg c18).symm.trans hf
    refine lv_aload_n hx hb dX10_turns_11 rfl (lv_at hl 0 rfl) ?_
    refine va_get (D := (dC, dI)) (ci := 10) (v := .ref (h 3)) (C := RX10) (T := TX10) (N := 9) hx hb hts hin10 hown hK hP 0 rfl rfl 0 (by decide) (hts _ lk10_10) (fun _ h9 => h9) rfl dX10_turns_12 ?_
    refine lv_iload_n hx hb dX10_turns_15 rfl (lv_at hl 2 rfl) ?_
    obtain ⟨r4, er4, hf⟩ := bd hf
    refine klCi (rest := []) (As := [.int p1]) ⟨hx, hb, hml, hown, hts⟩ (c_X1_hasSet_3 l dC dI t ts aK aV A h tx H.size (fun q hq => hA q (Nat.le_trans hS.1 hq)) S p1 r4 er4) (cwV 1 hts gX10_turns_X1_hasSet rfl rfl rfl (by decide +kernel) ⟨Nat.le_of_ble_eq_true rfl, Nat.le_of_ble_eq_true rfl⟩) (va_recv hK hP (ci := 1) (q0 := 3) rfl rfl) rfl hl.1 rfl (Nat.le_of_ble_eq_true rfl) dX10_turns_16 ⟨Nat.zero_le _, Nat.zero_le _⟩ hE hK ⟨g, LP, pf, hP, hD, hG⟩ hS (fun H locs hC hS => ?_)
    obtain ⟨g, LP, pf, hP, hD, hG⟩ := hC
    refine lv_if_eq (tgt := 28) hx hb dX10_turns_19 (by decide) (fun c17 => ?_) (fun c17 => ?_)
    · have hf := (if_pos c17).symm.trans hf
      refine lv_aload_n hx hb dX10_turns_28 rfl (lv_at hl 0 rfl) ?_
      refine lv_bipush (v := (-2)) hx hb dX10_turns_29 (by decide) ?_
      obtain ⟨r5, S6, er5, hf⟩ := b2 hf
      refine klCi (rest := []) (As := [.int (-2)]) ⟨hx, hb, hml, hown, hts⟩ (c_X10_bad_0 l dC dI t ts aK aV A h tx H.size (fun q hq => hA q (Nat.le_trans hS.1 hq)) S (-2) r5 S6 er5) (cwV 1 hts gX10_turns_X10_bad rfl rfl rfl (by decide +kernel) ⟨Nat.le_of_ble_eq_true rfl, Nat.le_of_ble_eq_true rfl⟩) (va_recv hK hP (ci := 10) (q0 := 0) rfl rfl) rfl hl.1 rfl (Nat.le_of_ble_eq_true rfl) dX10_turns_31 ⟨Nat.zero_le _, Nat.zero_le _⟩ hE hK ⟨g, LP, pf, hP, hD, hG⟩ hS (fun H locs hC hS => ?_)
      obtain ⟨g, LP, pf, hP, hD, hG⟩ := hC
      exact rtCi hx hb hr hlocks ⟨g, LP, pf, hP, hD, hG⟩ hS hf dX10_turns_34
    · have hf := (if_neg c17).symm.trans hf
      refine lv_iload_n hx hb dX10_turns_22 rfl (lv_at hl 1 rfl) ?_
      refine lv_iload_n hx hb dX10_turns_23 rfl (lv_at hl 2 rfl) ?_
      refine lv_iand hx hb dX10_turns_24 ?_
      refine lv_if_eq (tgt := 35) hx hb dX10_turns_25 (by decide) (fun c16 => ?_) (fun c16 => ?_)
      · have hf := (if_pos c16).symm.trans hf
        refine lv_aload_n hx hb dX10_turns_35 rfl (lv_at hl 0 rfl) ?_
        refine va_get (D := (dC, dI)) (ci := 10) (v := .ref (h 3)) (C := RX10) (T := TX10) (N := 9) hx hb hts hin10 hown hK hP 0 rfl rfl 0 (by decide) (hts _ lk10_10) (fun _ h9 => h9) rfl dX10_turns_36 ?_
        refine lv_iload_n hx hb dX10_turns_39 rfl (lv_at hl 1 rfl) ?_
        obtain ⟨r7, er7, hf⟩ := bd hf
        refine klCi (rest := []) (As := [.int p0]) ⟨hx, hb, hml, hown, hts⟩ (c_X1_turnsUntilOver_3 l dC dI t ts aK aV A h tx H.size (fun q hq => hA q (Nat.le_trans hS.1 hq)) S p0 r7 er7) (cwV 1 hts gX10_turns_X1_turnsUntilOver rfl rfl rfl (by decide +kernel) ⟨Nat.le_of_ble_eq_true rfl, Nat.le_of_ble_eq_true rfl⟩) (va_recv hK hP (ci := 1) (q0 := 3) rfl rfl) rfl hl.1 rfl (Nat.le_of_ble_eq_true rfl) dX10_turns_40 ⟨Nat.zero_le _, Nat.zero_le _⟩ hE hK ⟨g, LP, pf, hP, hD, hG⟩ hS (fun H locs hC hS => ?_)
        obtain ⟨g, LP, pf, hP, hD, hG⟩ := hC
        refine lv_istore_n (lv' := [(3, .int r7), (0, .ref (h 0)), (1, .int p0), (2, .int p1)]) hx hb dX10_turns_43 rfl hl (by decide) rfl (fun ls hl => ?_)
        refine lv_aload_n hx hb dX10_turns_44 rfl (lv_at hl 1 rfl) ?_
        refine va_get (D := (dC, dI)) (ci := 10) (v := .ref (h 3)) (C := RX10) (T := TX10) (N := 9) hx hb hts hin10 hown hK hP 0 rfl rfl 0 (by decide) (hts _ lk10_10) (fun _ h9 => h9) rfl dX10_turns_45 ?_
        refine lv_iload_n hx hb dX10_turns_48 rfl (lv_at hl 3 rfl) ?_
        obtain ⟨r8, er8, hf⟩ := bd hf
        refine klCi (rest := []) (As := [.int p1]) ⟨hx, hb, hml, hown, hts⟩ (c_X1_turnsUntilOver_3 l dC dI t ts aK aV A h tx H.size (fun q hq => hA q (Nat.le_trans hS.1 hq)) S p1 r8 er8) (cwV 1 hts gX10_turns_X1_turnsUntilOver rfl rfl rfl (by decide +kernel) ⟨Nat.le_of_ble_eq_true rfl, Nat.le_of_ble_eq_true rfl⟩) (va_recv hK hP (ci := 1) (q0 := 3) rfl rfl) rfl hl.1 rfl (Nat.le_of_ble_eq_true rfl) dX10_turns_49 ⟨Nat.zero_le _, Nat.zero_le _⟩ hE hK ⟨g, LP, pf, hP, hD, hG⟩ hS (fun H locs hC hS => ?_)
        obtain ⟨g, LP, pf, hP, hD, hG⟩ := hC
        refine lv_istore (lv' := [(4, .int r8), (3, .int r7), (0, .ref (h 0)), (1, .int p0), (2, .int p1)]) hx hb dX10_turns_52 hl (by decide) rfl (fun ls hl => ?_)
        refine lv_iload_n hx hb dX10_turns_54 rfl (lv_at hl 1 rfl) ?_
        refine lv_iconst (v := (-1)) hx hb dX10_turns_55 (by decide) ?_
        have J67 : ∀  (g : Nat → Nat → Option Nat) (LP : List Nat) (pf : Nat → va_E) (H : Heap) (locs : List Loc) (ls : Array Slot), j_X10_turns_0_67 S r7 r8 = some (r, S') → va_P (dC, dI) vwCl (wC t h tx g S ++ va_pl LP pf) H → va_D A (wC t h tx g S ++ va_pl LP pf) → rlC g LP pf S → va_S A s.heap H locs → lv_has ls 5 [(3, .int r7), (4, .int r8)] → W p l e RRX10_turns_0 s m args below meth c H locs 0 0 (MQ below (qcCi dC dI t A h tx r S') args s 0 0 A) (F0 m 67 ls []) := by
          intro  g LP pf H locs ls hf hP hD hG hS hl
          unfold j_X10_turns_0_67 at hf
          refine lv_iload hx hb dX10_turns_67 (lv_at hl 1 rfl) ?_
          refine lv_iconst (v := (-1)) hx hb dX10_turns_69 (by decide) ?_
          refine lv_icmp_ne (tgt := 75) hx hb dX10_turns_70 (by decide) (fun c11 => ?_) (fun c11 => ?_)
          · have hf := (if_neg c11).symm.trans hf
            refine lv_iload_n hx hb dX10_turns_75 rfl (lv_at hl 0 rfl) ?_
            refine lv_iconst (v := (-1)) hx hb dX10_turns_76 (by decide) ?_
            refine lv_icmp_eq (tgt := 90) hx hb dX10_turns_77 (by decide) (fun c10 => ?_) (fun c10 => ?_)
            · have hf := (if_pos c10).symm.trans hf
              refine lv_iconst (v := 2) hx hb dX10_turns_90 (by decide) ?_
              exact rtCi hx hb hr hlocks ⟨g, LP, pf, hP, hD, hG⟩ hS hf dX10_turns_91
            · have hf := (if_neg c10).symm.trans hf
              refine lv_iload_n hx hb dX10_turns_80 rfl (lv_at hl 0 rfl) ?_
              refine lv_iload hx hb dX10_turns_81 (lv_at hl 1 rfl) ?_
              refine lv_icmp_gt (tgt := 90) hx hb dX10_turns_83 (by decide) (fun c9 => ?_) (fun c9 => ?_)
              · have hf := (if_pos c9).symm.trans hf
                refine lv_iconst (v := 2) hx hb dX10_turns_90 (by decide) ?_
                exact rtCi hx hb hr hlocks ⟨g, LP, pf, hP, hD, hG⟩ hS hf dX10_turns_91
              · have hf := (if_neg c9).symm.trans hf
                refine lv_iconst (v := 1) hx hb dX10_turns_86 (by decide) ?_
                refine lv_goto (tgt := 91) hx hb dX10_turns_87 (by decide) ?_
                exact rtCi hx hb hr hlocks ⟨g, LP, pf, hP, hD, hG⟩ hS hf dX10_turns_91
          · have hf := (if_pos c11).symm.trans hf
            refine lv_iconst (v := 1) hx hb dX10_turns_73 (by decide) ?_
            exact rtCi hx hb hr hlocks ⟨g, LP, pf, hP, hD, hG⟩ hS hf dX10_turns_74
        refine lv_icmp_ne (tgt := 67) hx hb dX10_turns_56 (by decide) (fun c13 => ?_) (fun c13 => ?_)
        · have hf := (if_neg c13).symm.trans hf
          exact J67  _ _ _ _ _ _ hf hP hD hG hS (lv_sub hl [1, 0] rfl)
        · have hf := (if_pos c13).symm.trans hf
          refine lv_iload hx hb dX10_turns_59 (lv_at hl 0 rfl) ?_
          refine lv_iconst (v := (-1)) hx hb dX10_turns_61 (by decide) ?_
          refine lv_icmp_ne (tgt := 67) hx hb dX10_turns_62 (by decide) (fun c12 => ?_) (fun c12 => ?_)
          · have hf := (if_neg c12).symm.trans hf
            exact J67  _ _ _ _ _ _ hf hP hD hG hS (lv_sub hl [1, 0] rfl)
          · have hf := (if_pos c12).symm.trans hf
            refine lv_iconst (v := 0) hx hb dX10_turns_65 (by decide) ?_
            exact rtCi hx hb hr hlocks ⟨g, LP, pf, hP, hD, hG⟩ hS hf dX10_turns_66
      · have hf := (if_neg c16).symm.trans hf
        refine lv_aload_n hx hb dX10_turns_28 rfl (lv_at hl 0 rfl) ?_
        refine lv_bipush (v := (-2)) hx hb dX10_turns_29 (by decide) ?_
        obtain ⟨r14, S15, er14, hf⟩ := b2 hf
        refine klCi (rest := []) (As := [.int (-2)]) ⟨hx, hb, hml, hown, hts⟩ (c_X10_bad_0 l dC dI t ts aK aV A h tx H.size (fun q hq => hA q (Nat.le_trans hS.1 hq)) S (-2) r14 S15 er14) (cwV 1 hts gX10_turns_X10_bad rfl rfl rfl (by decide +kernel) ⟨Nat.le_of_ble_eq_true rfl, Nat.le_of_ble_eq_true rfl⟩) (va_recv hK hP (ci := 10) (q0 := 0) rfl rfl) rfl hl.1 rfl (Nat.le_of_ble_eq_true rfl) dX10_turns_31 ⟨Nat.zero_le _, Nat.zero_le _⟩ hE hK ⟨g, LP, pf, hP, hD, hG⟩ hS (fun H locs hC hS => ?_)
        obtain ⟨g, LP, pf, hP, hD, hG⟩ := hC
        exact rtCi hx hb hr hlocks ⟨g, LP, pf, hP, hD, hG⟩ hS hf dX10_turns_34

def f_X10_load_0 (S : CS) (p0 : Int32) : Option (Int32 × CS) :=
  (if p0 < 1 then (bi2 (f_X10_bad_0 S (-2)) (fun r1 S2 => some ((r1, S2)))) else ((if p0 ≤ 20 then ((if (S.1 1309 0) < 5 then (Option.bind (f_X10_changed_0 S) (fun S3 => Option.bind (f_X1_addLoad_3 S3 p0) (fun S4 => some (((S4.1 1309 0) - 1, S4))))) else (bi2 (f_X10_full_0 S) (fun r5 S6 => some ((r5, S6)))))) else (bi2 (f_X10_bad_0 S (-2)) (fun r8 S9 => some ((r8, S9)))))))
def rmX10_load_0 : Room := { frames := 1, cells := 0, slots := 0, locals := 21 }
abbrev RRX10_load_0 : Room := (headSpec wsX10_load rmX10_load_0).room
theorem in1_X10_load_0 : ∀ w ∈ wsX10, w ∈ wsX10_load := by decide +kernel
theorem in10_X10_load_0 : ∀ w ∈ wsX100, w ∈ wsX10_load := by decide +kernel
set_option maxHeartbeats 4000000 in
set_option maxRecDepth 100000 in
theorem c_X10_load_0 (l : Launch) (dC : Nat → ClassId) (dI : Nat → Nat → Nat) (t : Nat → ClassId) (ts aK aV : Nat → Nat) (A : Nat → Prop) (h : Nat → Nat) (tx : Nat) (sz : Nat) (hA0 : ∀ q : Nat, sz ≤ q → A q) (S : CS) (p0 : Int32) (r : Int32) (S' : CS) (hf : f_X10_load_0 S p0 = some (r, S')) : cCi l yX10_load wsX10_load rmX10_load_0 dC dI t ts aK aV A h tx tx sz [.ref (h 0), .int p0] S r S' := by
  refine Met.ofW (cc := cX10_load) (maxL := 2) (ret := (some .int)) (by decide) rfl ?_
  intro p e s m args below meth c s₁ B hml hv
  obtain ⟨hargs, hsz, hE, hC, hK⟩ := hv
  have hx := B.exec
  have hb := B.bytes
  have hr := B.returns
  have hts := atoms_spec (ws := wsX10_load) B.pre
  have hown : s.vm.findClass RX10 = some m.cls := findClass_of_methodNamed B.named
  have hlocks := B.notSynchronized
  have hsz : s.heap.size = sz := hsz
  subst hsz
  have hin1 := in1_X10_load_0
  have hin10 := in10_X10_load_0
  have lk10_10 : Cond.fieldLink RX10 10 (TX10 0).1 (TX10 0).2.1 (TX10 0).2.2.1 ∈ wsX10_load := by decide +kernel
  have lk160_1 : Cond.fieldLink RX10 160 (TX1 9).1 (TX1 9).2.1 (TX1 9).2.2.1 ∈ wsX10_load := by decide +kernel
  have hA : ∀ q : Nat, s.heap.size ≤ q → A q := hA0
  obtain ⟨g, LP, pf, hP, hD, hG⟩ := hC
  have hS : va_S A s.heap s.heap [] := va_S.rf
  have hl := lv_entry ([.ref (h 0), .int p0]) (n := 2) (Nat.le_of_ble_eq_true rfl)
  rw [show entryFrame m args 2 = entryFrame m ([.ref (h 0), .int p0] : List Value).toArray 2 from by rw [hargs], lg_entry_eq]
  generalize (lg_sl ([.ref (h 0), .int p0]) ++ List.replicate (2 - (lg_sl ([.ref (h 0), .int p0])).length) Slot.unset).toArray = ls at hl ⊢
  have hl : lv_has ls 2 [(0, .ref (h 0)), (1, .int p0)] := hl
  unfold f_X10_load_0 at hf
  refine lv_iload_n hx hb dX10_load_0 rfl (lv_at hl 1 rfl) ?_
  refine lv_iconst (v := 1) hx hb dX10_load_1 (by decide) ?_
  refine lv_icmp_lt (tgt := 11) hx hb dX10_load_2 (by decide) (fun c11 => ?_) (fun c11 => ?_)
  · have hf := (if_pos c11).symm.trans hf
    refine lv_aload_n hx hb dX10_load_11 rfl (lv_at hl 0 rfl) ?_
    refine lv_bipush (v := (-2)) hx hb dX10_load_12 (by decide) ?_
    obtain ⟨r1, S2, er1, hf⟩ := b2 hf
    refine klCi (rest := []) (As := [.int (-2)]) ⟨hx, hb, hml, hown, hts⟩ (c_X10_bad_0 l dC dI t ts aK aV A h tx s.heap.size (fun q hq => hA q (Nat.le_trans hS.1 hq)) S (-2) r1 S2 er1) (cwV 1 hts gX10_load_X10_bad rfl rfl rfl (by decide +kernel) ⟨Nat.le_of_ble_eq_true rfl, Nat.le_of_ble_eq_true rfl⟩) (va_recv hK hP (ci := 10) (q0 := 0) rfl rfl) rfl hl.1 rfl (Nat.le_of_ble_eq_true rfl) dX10_load_14 ⟨Nat.zero_le _, Nat.zero_le _⟩ hE hK ⟨g, LP, pf, hP, hD, hG⟩ hS (fun H locs hC hS => ?_)
    obtain ⟨g, LP, pf, hP, hD, hG⟩ := hC
    exact rtCi hx hb hr hlocks ⟨g, LP, pf, hP, hD, hG⟩ hS hf dX10_load_17
  · have hf := (if_neg c11).symm.trans hf
    refine lv_iload_n hx hb dX10_load_5 rfl (lv_at hl 1 rfl) ?_
    refine lv_bipush (v := 20) hx hb dX10_load_6 (by decide) ?_
    refine lv_icmp_le (tgt := 18) hx hb dX10_load_8 (by decide) (fun c10 => ?_) (fun c10 => ?_)
    · have hf := (if_pos c10).symm.trans hf
      refine lv_aload_n hx hb dX10_load_18 rfl (lv_at hl 0 rfl) ?_
      refine va_get (D := (dC, dI)) (ci := 10) (v := .ref (h 3)) (C := RX10) (T := TX10) (N := 9) hx hb hts hin10 hown hK hP 0 rfl rfl 0 (by decide) (hts _ lk10_10) (fun _ h9 => h9) rfl dX10_load_19 ?_
      refine va_get (D := (dC, dI)) (ci := 1) (v := .int (S.1 1309 0)) (C := RX1) (T := TX1) (N := 10) hx hb hts hin1 hown hK hP 3 rfl rfl 9 (by decide) (hts _ lk160_1) (fun _ h9 => h9) rfl dX10_load_22 ?_
      refine lv_iconst (v := 5) hx hb dX10_load_25 (by decide) ?_
      refine lv_icmp_lt (tgt := 34) hx hb dX10_load_26 (by decide) (fun c7 => ?_) (fun c7 => ?_)
      · have hf := (if_pos c7).symm.trans hf
        refine lv_aload_n hx hb dX10_load_34 rfl (lv_at hl 0 rfl) ?_
        obtain ⟨S3, eS3, hf⟩ := bd hf
        refine klCv (rest := []) (As := []) ⟨hx, hb, hml, hown, hts⟩ (c_X10_changed_0 l dC dI t ts aK aV A h tx s.heap.size (fun q hq => hA q (Nat.le_trans hS.1 hq)) S S3 eS3) (cwV 0 hts gX10_load_X10_changed rfl rfl rfl (by decide +kernel) ⟨Nat.le_of_ble_eq_true rfl, Nat.le_of_ble_eq_true rfl⟩) (va_recv hK hP (ci := 10) (q0 := 0) rfl rfl) rfl hl.1 rfl (Nat.le_of_ble_eq_true rfl) dX10_load_35 ⟨Nat.zero_le _, Nat.zero_le _⟩ hE hK ⟨g, LP, pf, hP, hD, hG⟩ hS (fun H locs hC hS => ?_)
        obtain ⟨g, LP, pf, hP, hD, hG⟩ := hC
        refine lv_aload_n hx hb dX10_load_38 rfl (lv_at hl 0 rfl) ?_
        refine va_get (D := (dC, dI)) (ci := 10) (v := .ref (h 3)) (C := RX10) (T := TX10) (N := 9) hx hb hts hin10 hown hK hP 0 rfl rfl 0 (by decide) (hts _ lk10_10) (fun _ h9 => h9) rfl dX10_load_39 ?_
        refine lv_iload_n hx hb dX10_load_42 rfl (lv_at hl 1 rfl) ?_
        obtain ⟨S4, eS4, hf⟩ := bd hf
        refine klCv (rest := []) (As := [.int p0]) ⟨hx, hb, hml, hown, hts⟩ (c_X1_addLoad_3 l dC dI t ts aK aV A h tx H.size (fun q hq => hA q (Nat.le_trans hS.1 hq)) S3 p0 S4 eS4) (cwV 1 hts gX10_load_X1_addLoad rfl rfl rfl (by decide +kernel) ⟨Nat.le_of_ble_eq_true rfl, Nat.le_of_ble_eq_true rfl⟩) (va_recv hK hP (ci := 1) (q0 := 3) rfl rfl) rfl hl.1 rfl (Nat.le_of_ble_eq_true rfl) dX10_load_43 ⟨Nat.zero_le _, Nat.zero_le _⟩ hE hK ⟨g, LP, pf, hP, hD, hG⟩ hS (fun H locs hC hS => ?_)
        obtain ⟨g, LP, pf, hP, hD, hG⟩ := hC
        refine lv_aload_n hx hb dX10_load_46 rfl (lv_at hl 0 rfl) ?_
        refine va_get (D := (dC, dI)) (ci := 10) (v := .ref (h 3)) (C := RX10) (T := TX10) (N := 9) hx hb hts hin10 hown hK hP 0 rfl rfl 0 (by decide) (hts _ lk10_10) (fun _ h9 => h9) rfl dX10_load_47 ?_
        refine va_get (D := (dC, dI)) (ci := 1) (v := .int (S4.1 1309 0)) (C := RX1) (T := TX1) (N := 10) hx hb hts hin1 hown hK hP 3 rfl rfl 9 (by decide) (hts _ lk160_1) (fun _ h9 => h9) rfl dX10_load_50 ?_
        refine lv_iconst (v := 1) hx hb dX10_load_53 (by decide) ?_
        refine lv_isub hx hb dX10_load_54 ?_
        exact rtCi hx hb hr hlocks ⟨g, LP, pf, hP, hD, hG⟩ hS hf dX10_load_55
      · have hf := (if_neg c7).symm.trans hf
        refine lv_aload_n hx hb dX10_load_29 rfl (lv_at hl 0 rfl) ?_
        obtain ⟨r5, S6, er5, hf⟩ := b2 hf
        refine klCi (rest := []) (As := []) ⟨hx, hb, hml, hown, hts⟩ (c_X10_full_0 l dC dI t ts aK aV A h tx s.heap.size (fun q hq => hA q (Nat.le_trans hS.1 hq)) S r5 S6 er5) (cwV 0 hts gX10_load_X10_full rfl rfl rfl (by decide +kernel) ⟨Nat.le_of_ble_eq_true rfl, Nat.le_of_ble_eq_true rfl⟩) (va_recv hK hP (ci := 10) (q0 := 0) rfl rfl) rfl hl.1 rfl (Nat.le_of_ble_eq_true rfl) dX10_load_30 ⟨Nat.zero_le _, Nat.zero_le _⟩ hE hK ⟨g, LP, pf, hP, hD, hG⟩ hS (fun H locs hC hS => ?_)
        obtain ⟨g, LP, pf, hP, hD, hG⟩ := hC
        exact rtCi hx hb hr hlocks ⟨g, LP, pf, hP, hD, hG⟩ hS hf dX10_load_33
    · have hf := (if_neg c10).symm.trans hf
      refine lv_aload_n hx hb dX10_load_11 rfl (lv_at hl 0 rfl) ?_
      refine lv_bipush (v := (-2)) hx hb dX10_load_12 (by decide) ?_
      obtain ⟨r8, S9, er8, hf⟩ := b2 hf
      refine klCi (rest := []) (As := [.int (-2)]) ⟨hx, hb, hml, hown, hts⟩ (c_X10_bad_0 l dC dI t ts aK aV A h tx s.heap.size (fun q hq => hA q (Nat.le_trans hS.1 hq)) S (-2) r8 S9 er8) (cwV 1 hts gX10_load_X10_bad rfl rfl rfl (by decide +kernel) ⟨Nat.le_of_ble_eq_true rfl, Nat.le_of_ble_eq_true rfl⟩) (va_recv hK hP (ci := 10) (q0 := 0) rfl rfl) rfl hl.1 rfl (Nat.le_of_ble_eq_true rfl) dX10_load_14 ⟨Nat.zero_le _, Nat.zero_le _⟩ hE hK ⟨g, LP, pf, hP, hD, hG⟩ hS (fun H locs hC hS => ?_)
      obtain ⟨g, LP, pf, hP, hD, hG⟩ := hC
      exact rtCi hx hb hr hlocks ⟨g, LP, pf, hP, hD, hG⟩ hS hf dX10_load_17

def f_X10_unload_0 (S : CS)  : Option (Int32 × CS) :=
  Option.bind (some (S.1 1309 0)) (fun x1 => Option.bind (f_X10_changed_0 S) (fun S2 => Option.bind (some (siI S2 1309 (fun _ => 0))) (fun S3 => some ((x1, S3)))))
def rmX10_unload_0 : Room := { frames := 1, cells := 0, slots := 0, locals := 20 }
abbrev RRX10_unload_0 : Room := (headSpec wsX10_unload rmX10_unload_0).room
theorem in1_X10_unload_0 : ∀ w ∈ wsX10, w ∈ wsX10_unload := by decide +kernel
theorem in10_X10_unload_0 : ∀ w ∈ wsX100, w ∈ wsX10_unload := by decide +kernel
set_option maxHeartbeats 4000000 in
set_option maxRecDepth 100000 in
theorem c_X10_unload_0 (l : Launch) (dC : Nat → ClassId) (dI : Nat → Nat → Nat) (t : Nat → ClassId) (ts aK aV : Nat → Nat) (A : Nat → Prop) (h : Nat → Nat) (tx : Nat) (sz : Nat) (hA0 : ∀ q : Nat, sz ≤ q → A q) (S : CS)  (r : Int32) (S' : CS) (hf : f_X10_unload_0 S = some (r, S')) : cCi l yX10_unload wsX10_unload rmX10_unload_0 dC dI t ts aK aV A h tx tx sz [.ref (h 0)] S r S' := by
  refine Met.ofW (cc := cX10_unload) (maxL := 2) (ret := (some .int)) (by decide) rfl ?_
  intro p e s m args below meth c s₁ B hml hv
  obtain ⟨hargs, hsz, hE, hC, hK⟩ := hv
  have hx := B.exec
  have hb := B.bytes
  have hr := B.returns
  have hts := atoms_spec (ws := wsX10_unload) B.pre
  have hown : s.vm.findClass RX10 = some m.cls := findClass_of_methodNamed B.named
  have hlocks := B.notSynchronized
  have hsz : s.heap.size = sz := hsz
  subst hsz
  have hin1 := in1_X10_unload_0
  have hin10 := in10_X10_unload_0
  have lk10_10 : Cond.fieldLink RX10 10 (TX10 0).1 (TX10 0).2.1 (TX10 0).2.2.1 ∈ wsX10_unload := by decide +kernel
  have lk160_1 : Cond.fieldLink RX10 160 (TX1 9).1 (TX1 9).2.1 (TX1 9).2.2.1 ∈ wsX10_unload := by decide +kernel
  have hA : ∀ q : Nat, s.heap.size ≤ q → A q := hA0
  obtain ⟨g, LP, pf, hP, hD, hG⟩ := hC
  have hS : va_S A s.heap s.heap [] := va_S.rf
  have hl := lv_entry ([.ref (h 0)]) (n := 2) (Nat.le_of_ble_eq_true rfl)
  rw [show entryFrame m args 2 = entryFrame m ([.ref (h 0)] : List Value).toArray 2 from by rw [hargs], lg_entry_eq]
  generalize (lg_sl ([.ref (h 0)]) ++ List.replicate (2 - (lg_sl ([.ref (h 0)])).length) Slot.unset).toArray = ls at hl ⊢
  have hl : lv_has ls 2 [(0, .ref (h 0))] := hl
  unfold f_X10_unload_0 at hf
  refine lv_aload_n hx hb dX10_unload_0 rfl (lv_at hl 0 rfl) ?_
  refine va_get (D := (dC, dI)) (ci := 10) (v := .ref (h 3)) (C := RX10) (T := TX10) (N := 9) hx hb hts hin10 hown hK hP 0 rfl rfl 0 (by decide) (hts _ lk10_10) (fun _ h9 => h9) rfl dX10_unload_1 ?_
  refine va_get (D := (dC, dI)) (ci := 1) (v := .int (S.1 1309 0)) (C := RX1) (T := TX1) (N := 10) hx hb hts hin1 hown hK hP 3 rfl rfl 9 (by decide) (hts _ lk160_1) (fun _ h9 => h9) rfl dX10_unload_4 ?_
  refine lv_topi (fun x1 ex1 => ?_)
  have hf := bs ex1 hf
  refine lv_istore_n (lv' := [(1, .int x1), (0, .ref (h 0))]) hx hb dX10_unload_7 rfl hl (by decide) rfl (fun ls hl => ?_)
  refine lv_aload_n hx hb dX10_unload_8 rfl (lv_at hl 1 rfl) ?_
  obtain ⟨S2, eS2, hf⟩ := bd hf
  refine klCv (rest := []) (As := []) ⟨hx, hb, hml, hown, hts⟩ (c_X10_changed_0 l dC dI t ts aK aV A h tx s.heap.size (fun q hq => hA q (Nat.le_trans hS.1 hq)) S S2 eS2) (cwV 0 hts gX10_unload_X10_changed rfl rfl rfl (by decide +kernel) ⟨Nat.le_of_ble_eq_true rfl, Nat.le_of_ble_eq_true rfl⟩) (va_recv hK hP (ci := 10) (q0 := 0) rfl rfl) rfl hl.1 rfl (Nat.le_of_ble_eq_true rfl) dX10_unload_9 ⟨Nat.zero_le _, Nat.zero_le _⟩ hE hK ⟨g, LP, pf, hP, hD, hG⟩ hS (fun H locs hC hS => ?_)
  obtain ⟨g, LP, pf, hP, hD, hG⟩ := hC
  refine lv_aload_n hx hb dX10_unload_12 rfl (lv_at hl 1 rfl) ?_
  refine va_get (D := (dC, dI)) (ci := 10) (v := .ref (h 3)) (C := RX10) (T := TX10) (N := 9) hx hb hts hin10 hown hK hP 0 rfl rfl 0 (by decide) (hts _ lk10_10) (fun _ h9 => h9) rfl dX10_unload_13 ?_
  refine lv_iconst (v := 0) hx hb dX10_unload_16 (by decide) ?_
  obtain ⟨S3, eS3, hf⟩ := bn hf
  refine va_put (D := (dC, dI)) (ci := 1) (v := .int 0) (ty := .int) (C := RX1) (T := TX1) (N := 10) hx hb hts hin1 tyX1 tyX1_ok nmX1 hown hK hP hD hS 3 rfl rfl 9 (by decide) (hts _ lk160_1) (fun _ h9 => h9) rfl (by decide +kernel) rfl rfl (Nat.le_of_ble_eq_true rfl) dX10_unload_17 (fun H locs hP hD hS => ?_)
  have hP : va_P (dC, dI) vwCl (wC t h tx g S3 ++ va_pl LP pf) H := by rw [eS3]; exact hP
  have hD : va_D A (wC t h tx g S3 ++ va_pl LP pf) := by rw [eS3]; exact hD
  have hG : rlC g LP pf S3 := by rw [eS3]; exact hG
  refine lv_iload_n hx hb dX10_unload_20 rfl (lv_at hl 0 rfl) ?_
  exact rtCi hx hb hr hlocks ⟨g, LP, pf, hP, hD, hG⟩ hS hf dX10_unload_21

def b_X10_fell_0_54 (S : CS) (p0 : Int32) (p1 : Int32) (p2 : Int32) (y8 : Int32) (y11 : Int32) (y12 : Int32) : Option ((Int32 × Int32) ⊕ ((Int32 × Int32) ⊕ (Int32 × CS))) :=
  (if (S.1 1306 0) ≤ y12 then (Option.bind (some (y8 + 1)) (fun x13 => some (Sum.inr (Sum.inl (y11, x13))))) else (Option.bind (some ((1 <<< (y8 &&& 31)) ||| (1 <<< (y12 &&& 31)))) (fun x14 => Option.bind (f_X10_isOnOneSide x14 p0) (fun r15 => (if r15 = 0 then (Option.bind (some (y12 + 1)) (fun x16 => some (Sum.inl (y11, x16)))) else (Option.bind (f_X1_whyNot_3 S x14 p1 0) (fun r17 => (if r17 = 5 then ((if y11 = p2 then (some (Sum.inr (Sum.inr (((10 * y8) + y12, S))))) else (Option.bind (some (y11 + 1)) (fun x19 => Option.bind (some (y12 + 1)) (fun x20 => some (Sum.inl (x19, x20))))))) else (Option.bind (some (y12 + 1)) (fun x18 => some (Sum.inl (y11, x18))))))))))))
def b_X10_fell_0_36 (S : CS) (p0 : Int32) (p1 : Int32) (p2 : Int32) (y7 : Int32) (y8 : Int32) : Option ((Int32 × Int32) ⊕ (Int32 × CS)) :=
  (if (S.1 1306 0) ≤ y8 then ((if p2 = (-1) then (some (Sum.inr ((y7, S)))) else (some (Sum.inr (((-5), S)))))) else (Option.bind (some (y8 + 1)) (fun x10 => lp (fun s => b_X10_fell_0_54 S p0 p1 p2 y8 s.1 s.2) FU (y7, x10))))
def f_X10_fell_0 (S : CS) (p0 : Int32) (p1 : Int32) (p2 : Int32) : Option (Int32 × CS) :=
  Option.bind (f_X1_hasSet_3 S p0) (fun r1 => (if r1 = 0 then (bi2 (f_X10_bad_0 S (-10)) (fun r2 S3 => some ((r2, S3)))) else (Option.bind (f_X10_isMinute p1) (fun r4 => (if r4 = 0 then (bi2 (f_X10_bad_0 S (-10)) (fun r5 S6 => some ((r5, S6)))) else ((if (-1) ≤ p2 then (lp (fun s => b_X10_fell_0_36 S p0 p1 p2 s.1 s.2) FU (0, 0)) else (bi2 (f_X10_bad_0 S (-10)) (fun r26 S27 => some ((r26, S27)))))))))))
def rmX10_fell_0 : Room := { frames := 4, cells := 0, slots := 0, locals := 92 }
abbrev RRX10_fell_0 : Room := (headSpec wsX10_fell rmX10_fell_0).room
theorem in1_X10_fell_0 : ∀ w ∈ wsX10, w ∈ wsX10_fell := by decide +kernel
theorem in10_X10_fell_0 : ∀ w ∈ wsX100, w ∈ wsX10_fell := by decide +kernel
set_option maxHeartbeats 4000000 in
set_option maxRecDepth 100000 in
theorem c_X10_fell_0 (l : Launch) (dC : Nat → ClassId) (dI : Nat → Nat → Nat) (t : Nat → ClassId) (ts aK aV : Nat → Nat) (A : Nat → Prop) (h : Nat → Nat) (tx : Nat) (sz : Nat) (hA0 : ∀ q : Nat, sz ≤ q → A q) (S : CS) (p0 : Int32) (p1 : Int32) (p2 : Int32) (r : Int32) (S' : CS) (hf : f_X10_fell_0 S p0 p1 p2 = some (r, S')) : cCi l yX10_fell wsX10_fell rmX10_fell_0 dC dI t ts aK aV A h tx tx sz [.ref (h 0), .int p0, .int p1, .int p2] S r S' := by
  refine Met.ofW (cc := cX10_fell) (maxL := 8) (ret := (some .int)) (by decide) rfl ?_
  intro p e s m args below meth c s₁ B hml hv
  obtain ⟨hargs, hsz, hE, hC, hK⟩ := hv
  have hx := B.exec
  have hb := B.bytes
  have hr := B.returns
  have hts := atoms_spec (ws := wsX10_fell) B.pre
  have hown : s.vm.findClass RX10 = some m.cls := findClass_of_methodNamed B.named
  have hlocks := B.notSynchronized
  have hsz : s.heap.size = sz := hsz
  subst hsz
  have hin1 := in1_X10_fell_0
  have hin10 := in10_X10_fell_0
  have lk10_10 : Cond.fieldLink RX10 10 (TX10 0).1 (TX10 0).2.1 (TX10 0).2.2.1 ∈ wsX10_fell := by decide +kernel
  have lk53_1 : Cond.fieldLink RX10 53 (TX1 6).1 (TX1 6).2.1 (TX1 6).2.2.1 ∈ wsX10_fell := by decide +kernel
  have hA : ∀ q : Nat, s.heap.size ≤ q → A q := hA0
  obtain ⟨g, LP, pf, hP, hD, hG⟩ := hC
  have hS : va_S A s.heap s.heap [] := va_S.rf
  have hl := lv_entry ([.ref (h 0), .int p0, .int p1, .int p2]) (n := 8) (Nat.le_of_ble_eq_true rfl)
  rw [show entryFrame m args 8 = entryFrame m ([.ref (h 0), .int p0, .int p1, .int p2] : List Value).toArray 8 from by rw [hargs], lg_entry_eq]
  generalize (lg_sl ([.ref (h 0), .int p0, .int p1, .int p2]) ++ List.replicate (8 - (lg_sl ([.ref (h 0), .int p0, .int p1, .int p2])).length) Slot.unset).toArray = ls at hl ⊢
  have hl : lv_has ls 8 [(0, .ref (h 0)), (1, .int p0), (2, .int p1), (3, .int p2)] := hl
  unfold f_X10_fell_0 at hf
  refine lv_aload_n hx hb dX10_fell_0 rfl (lv_at hl 0 rfl) ?_
  refine va_get (D := (dC, dI)) (ci := 10) (v := .ref (h 3)) (C := RX10) (T := TX10) (N := 9) hx hb hts hin10 hown hK hP 0 rfl rfl 0 (by decide) (hts _ lk10_10) (fun _ h9 => h9) rfl dX10_fell_1 ?_
  refine lv_iload_n hx hb dX10_fell_4 rfl (lv_at hl 1 rfl) ?_
  obtain ⟨r1, er1, hf⟩ := bd hf
  refine klCi (rest := []) (As := [.int p0]) ⟨hx, hb, hml, hown, hts⟩ (c_X1_hasSet_3 l dC dI t ts aK aV A h tx s.heap.size (fun q hq => hA q (Nat.le_trans hS.1 hq)) S p0 r1 er1) (cwV 1 hts gX10_fell_X1_hasSet rfl rfl rfl (by decide +kernel) ⟨Nat.le_of_ble_eq_true rfl, Nat.le_of_ble_eq_true rfl⟩) (va_recv hK hP (ci := 1) (q0 := 3) rfl rfl) rfl hl.1 rfl (Nat.le_of_ble_eq_true rfl) dX10_fell_5 ⟨Nat.zero_le _, Nat.zero_le _⟩ hE hK ⟨g, LP, pf, hP, hD, hG⟩ hS (fun H locs hC hS => ?_)
  obtain ⟨g, LP, pf, hP, hD, hG⟩ := hC
  refine lv_if_eq (tgt := 23) hx hb dX10_fell_8 (by decide) (fun c30 => ?_) (fun c30 => ?_)
  · have hf := (if_pos c30).symm.trans hf
    refine lv_aload_n hx hb dX10_fell_23 rfl (lv_at hl 0 rfl) ?_
    refine lv_bipush (v := (-10)) hx hb dX10_fell_24 (by decide) ?_
    obtain ⟨r2, S3, er2, hf⟩ := b2 hf
    refine klCi (rest := []) (As := [.int (-10)]) ⟨hx, hb, hml, hown, hts⟩ (c_X10_bad_0 l dC dI t ts aK aV A h tx H.size (fun q hq => hA q (Nat.le_trans hS.1 hq)) S (-10) r2 S3 er2) (cwV 1 hts gX10_fell_X10_bad rfl rfl rfl (by decide +kernel) ⟨Nat.le_of_ble_eq_true rfl, Nat.le_of_ble_eq_true rfl⟩) (va_recv hK hP (ci := 10) (q0 := 0) rfl rfl) rfl hl.1 rfl (Nat.le_of_ble_eq_true rfl) dX10_fell_26 ⟨Nat.zero_le _, Nat.zero_le _⟩ hE hK ⟨g, LP, pf, hP, hD, hG⟩ hS (fun H locs hC hS => ?_)
    obtain ⟨g, LP, pf, hP, hD, hG⟩ := hC
    exact rtCi hx hb hr hlocks ⟨g, LP, pf, hP, hD, hG⟩ hS hf dX10_fell_29
  · have hf := (if_neg c30).symm.trans hf
    refine lv_iload_n hx hb dX10_fell_11 rfl (lv_at hl 2 rfl) ?_
    obtain ⟨r4, er4, hf⟩ := bd hf
    refine klXi (rest := []) (As := [.int p1]) ⟨hx, hb, hml, hown, hts⟩ (c_X10_isMinute l H.size p1 r4 er4) (fun _ _ _ _ _ => trivial) (fun _ _ _ => trivial) (va_cwS 1 hts gX10_fell_X10_isMinute rfl rfl rfl (by decide +kernel) ⟨Nat.le_of_ble_eq_true rfl, Nat.le_of_ble_eq_true rfl⟩) rfl hl.1 rfl (Nat.le_of_ble_eq_true rfl) dX10_fell_12 ⟨Nat.zero_le _, Nat.zero_le _⟩ hS hA (fun H2 locs hk hS => ?_)
    have hP := kpP hP hk
    generalize H2 = H at hP hS ⊢
    refine lv_if_eq (tgt := 23) hx hb dX10_fell_15 (by decide) (fun c29 => ?_) (fun c29 => ?_)
    · have hf := (if_pos c29).symm.trans hf
      refine lv_aload_n hx hb dX10_fell_23 rfl (lv_at hl 0 rfl) ?_
      refine lv_bipush (v := (-10)) hx hb dX10_fell_24 (by decide) ?_
      obtain ⟨r5, S6, er5, hf⟩ := b2 hf
      refine klCi (rest := []) (As := [.int (-10)]) ⟨hx, hb, hml, hown, hts⟩ (c_X10_bad_0 l dC dI t ts aK aV A h tx H.size (fun q hq => hA q (Nat.le_trans hS.1 hq)) S (-10) r5 S6 er5) (cwV 1 hts gX10_fell_X10_bad rfl rfl rfl (by decide +kernel) ⟨Nat.le_of_ble_eq_true rfl, Nat.le_of_ble_eq_true rfl⟩) (va_recv hK hP (ci := 10) (q0 := 0) rfl rfl) rfl hl.1 rfl (Nat.le_of_ble_eq_true rfl) dX10_fell_26 ⟨Nat.zero_le _, Nat.zero_le _⟩ hE hK ⟨g, LP, pf, hP, hD, hG⟩ hS (fun H locs hC hS => ?_)
      obtain ⟨g, LP, pf, hP, hD, hG⟩ := hC
      exact rtCi hx hb hr hlocks ⟨g, LP, pf, hP, hD, hG⟩ hS hf dX10_fell_29
    · have hf := (if_neg c29).symm.trans hf
      refine lv_iload_n hx hb dX10_fell_18 rfl (lv_at hl 3 rfl) ?_
      refine lv_iconst (v := (-1)) hx hb dX10_fell_19 (by decide) ?_
      refine lv_icmp_ge (tgt := 30) hx hb dX10_fell_20 (by decide) (fun c28 => ?_) (fun c28 => ?_)
      · have hf := (if_pos c28).symm.trans hf
        refine lv_iconst (v := 0) hx hb dX10_fell_30 (by decide) ?_
        refine lv_istore (lv' := [(4, .int 0), (0, .ref (h 0)), (1, .int p0), (2, .int p1), (3, .int p2)]) hx hb dX10_fell_31 hl (by decide) rfl (fun ls hl => ?_)
        refine lv_iconst (v := 0) hx hb dX10_fell_33 (by decide) ?_
        refine lv_istore (lv' := [(5, .int 0), (4, .int 0), (0, .ref (h 0)), (1, .int p0), (2, .int p1), (3, .int p2)]) hx hb dX10_fell_34 hl (by decide) rfl (fun ls hl => ?_)
        have L36 : ∀ (n : Nat) (y7 : Int32) (y8 : Int32) (g : Nat → Nat → Option Nat) (LP : List Nat) (pf : Nat → va_E) (H : Heap) (locs : List Loc) (ls : Array Slot), lp (fun s => b_X10_fell_0_36 S p0 p1 p2 s.1 s.2) n (y7, y8) = some (r, S') → va_P (dC, dI) vwCl (wC t h tx g S ++ va_pl LP pf) H → va_D A (wC t h tx g S ++ va_pl LP pf) → rlC g LP pf S → va_S A s.heap H locs → lv_has ls 8 [(0, .ref (h 0)), (1, .int p0), (2, .int p1), (3, .int p2), (4, .int y7), (5, .int y8)] → W p l e RRX10_fell_0 s m args below meth c H locs 0 0 (MQ below (qcCi dC dI t A h tx r S') args s 0 0 A) (F0 m 36 ls []) := by
          intro n
          induction n with
          | zero => intro y7 y8 g LP pf H locs ls hf; exact lp_z hf
          | succ n ih36 =>
            intro y7 y8 g LP pf H locs ls hf hP hD hG hS hl
            obtain ⟨q36, hf, hq36⟩ := lp_i hf
            have hf : b_X10_fell_0_36 S p0 p1 p2 y7 y8 = some q36 := hf
            unfold b_X10_fell_0_36 at hf
            refine lv_iload hx hb dX10_fell_36 (lv_at hl 5 rfl) ?_
            refine lv_aload_n hx hb dX10_fell_38 rfl (lv_at hl 0 rfl) ?_
            refine va_get (D := (dC, dI)) (ci := 10) (v := .ref (h 3)) (C := RX10) (T := TX10) (N := 9) hx hb hts hin10 hown hK hP 0 rfl rfl 0 (by decide) (hts _ lk10_10) (fun _ h9 => h9) rfl dX10_fell_39 ?_
            refine va_get (D := (dC, dI)) (ci := 1) (v := .int (S.1 1306 0)) (C := RX1) (T := TX1) (N := 10) hx hb hts hin1 hown hK hP 3 rfl rfl 6 (by decide) (hts _ lk53_1) (fun _ h9 => h9) rfl dX10_fell_42 ?_
            refine lv_icmp_ge (tgt := 131) hx hb dX10_fell_45 (by decide) (fun c25 => ?_) (fun c25 => ?_)
            · have hf := (if_pos c25).symm.trans hf
              refine lv_iload_n hx hb dX10_fell_131 rfl (lv_at hl 3 rfl) ?_
              refine lv_iconst (v := (-1)) hx hb dX10_fell_132 (by decide) ?_
              refine lv_icmp_ne (tgt := 141) hx hb dX10_fell_133 (by decide) (fun c9 => ?_) (fun c9 => ?_)
              · have hf := (if_neg c9).symm.trans hf
                refine lv_bipush (v := (-5)) hx hb dX10_fell_141 (by decide) ?_
                have hf := lp_r hf hq36
                exact rtCi hx hb hr hlocks ⟨g, LP, pf, hP, hD, hG⟩ hS hf dX10_fell_143
              · have hf := (if_pos c9).symm.trans hf
                refine lv_iload hx hb dX10_fell_136 (lv_at hl 4 rfl) ?_
                refine lv_goto (tgt := 143) hx hb dX10_fell_138 (by decide) ?_
                have hf := lp_r hf hq36
                exact rtCi hx hb hr hlocks ⟨g, LP, pf, hP, hD, hG⟩ hS hf dX10_fell_143
            · have hf := (if_neg c25).symm.trans hf
              refine lv_iload hx hb dX10_fell_48 (lv_at hl 5 rfl) ?_
              refine lv_iconst (v := 1) hx hb dX10_fell_50 (by decide) ?_
              refine lv_iadd hx hb dX10_fell_51 ?_
              refine lv_topi (fun x10 ex10 => ?_)
              have hf := bs ex10 hf
              refine lv_istore (lv' := [(6, .int x10), (0, .ref (h 0)), (1, .int p0), (2, .int p1), (3, .int p2), (4, .int y7), (5, .int y8)]) hx hb dX10_fell_52 hl (by decide) rfl (fun ls hl => ?_)
              have L54 : ∀ (n : Nat) (y11 : Int32) (y12 : Int32) (g : Nat → Nat → Option Nat) (LP : List Nat) (pf : Nat → va_E) (H : Heap) (locs : List Loc) (ls : Array Slot), lp (fun s => b_X10_fell_0_54 S p0 p1 p2 y8 s.1 s.2) n (y11, y12) = some q36 → va_P (dC, dI) vwCl (wC t h tx g S ++ va_pl LP pf) H → va_D A (wC t h tx g S ++ va_pl LP pf) → rlC g LP pf S → va_S A s.heap H locs → lv_has ls 8 [(0, .ref (h 0)), (1, .int p0), (2, .int p1), (3, .int p2), (4, .int y11), (5, .int y8), (6, .int y12)] → W p l e RRX10_fell_0 s m args below meth c H locs 0 0 (MQ below (qcCi dC dI t A h tx r S') args s 0 0 A) (F0 m 54 ls []) := by
                intro n
                induction n with
                | zero => intro y11 y12 g LP pf H locs ls hf; exact lp_z hf
                | succ n ih54 =>
                  intro y11 y12 g LP pf H locs ls hf hP hD hG hS hl
                  obtain ⟨q54, hf, hq54⟩ := lp_i hf
                  have hf : b_X10_fell_0_54 S p0 p1 p2 y8 y11 y12 = some q54 := hf
                  unfold b_X10_fell_0_54 at hf
                  refine lv_iload hx hb dX10_fell_54 (lv_at hl 6 rfl) ?_
                  refine lv_aload_n hx hb dX10_fell_56 rfl (lv_at hl 0 rfl) ?_
                  refine va_get (D := (dC, dI)) (ci := 10) (v := .ref (h 3)) (C := RX10) (T := TX10) (N := 9) hx hb hts hin10 hown hK hP 0 rfl rfl 0 (by decide) (hts _ lk10_10) (fun _ h9 => h9) rfl dX10_fell_57 ?_
                  refine va_get (D := (dC, dI)) (ci := 1) (v := .int (S.1 1306 0)) (C := RX1) (T := TX1) (N := 10) hx hb hts hin1 hown hK hP 3 rfl rfl 6 (by decide) (hts _ lk53_1) (fun _ h9 => h9) rfl dX10_fell_60 ?_
                  refine lv_icmp_ge (tgt := 125) hx hb dX10_fell_63 (by decide) (fun c24 => ?_) (fun c24 => ?_)
                  · have hf := (if_pos c24).symm.trans hf
                    obtain ⟨x13, ex13, hf⟩ := bn hf
                    refine lv_iinc (v := x13) (lv' := [(5, .int x13), (0, .ref (h 0)), (1, .int p0), (2, .int p1), (3, .int p2), (4, .int y11), (6, .int y12)]) hx hb dX10_fell_125 hl (k := 5) rfl (by rw [ex13]; rfl) (by decide) rfl (fun ls hl => ?_)
                    refine lv_goto (tgt := 36) hx hb dX10_fell_128 (by decide) ?_
                    have hf := lp_r hf hq54
                    exact ih36 y11 x13 _ _ _ _ _ _ (lp_l hf hq36) hP hD hG hS (lv_sub hl [1, 2, 3, 4, 5, 0] rfl)
                  · have hf := (if_neg c24).symm.trans hf
                    refine lv_iconst (v := 1) hx hb dX10_fell_66 (by decide) ?_
                    refine lv_iload hx hb dX10_fell_67 (lv_at hl 5 rfl) ?_
                    refine lv_ishl hx hb dX10_fell_69 ?_
                    refine lv_iconst (v := 1) hx hb dX10_fell_70 (by decide) ?_
                    refine lv_iload hx hb dX10_fell_71 (lv_at hl 6 rfl) ?_
                    refine lv_ishl hx hb dX10_fell_73 ?_
                    refine lv_ior hx hb dX10_fell_74 ?_
                    refine lv_topi (fun x14 ex14 => ?_)
                    have hf := bs ex14 hf
                    refine lv_istore (lv' := [(7, .int x14), (0, .ref (h 0)), (1, .int p0), (2, .int p1), (3, .int p2), (4, .int y11), (5, .int y8), (6, .int y12)]) hx hb dX10_fell_75 hl (by decide) rfl (fun ls hl => ?_)
                    refine lv_iload hx hb dX10_fell_77 (lv_at hl 0 rfl) ?_
                    refine lv_iload_n hx hb dX10_fell_79 rfl (lv_at hl 2 rfl) ?_
                    obtain ⟨r15, er15, hf⟩ := bd hf
                    refine klXi (rest := []) (As := [.int x14, .int p0]) ⟨hx, hb, hml, hown, hts⟩ (c_X10_isOnOneSide l H.size x14 p0 r15 er15) (fun _ _ _ _ _ => trivial) (fun _ _ _ => trivial) (va_cwS 2 hts gX10_fell_X10_isOnOneSide rfl rfl rfl (by decide +kernel) ⟨Nat.le_of_ble_eq_true rfl, Nat.le_of_ble_eq_true rfl⟩) rfl hl.1 rfl (Nat.le_of_ble_eq_true rfl) dX10_fell_80 ⟨Nat.zero_le _, Nat.zero_le _⟩ hS hA (fun H2 locs hk hS => ?_)
                    have hP := kpP hP hk
                    generalize H2 = H at hP hS ⊢
                    refine lv_if_eq (tgt := 119) hx hb dX10_fell_83 (by decide) (fun c23 => ?_) (fun c23 => ?_)
                    · have hf := (if_pos c23).symm.trans hf
                      obtain ⟨x16, ex16, hf⟩ := bn hf
                      refine lv_iinc (v := x16) (lv' := [(6, .int x16), (7, .int x14), (0, .ref (h 0)), (1, .int p0), (2, .int p1), (3, .int p2), (4, .int y11), (5, .int y8)]) hx hb dX10_fell_119 hl (k := 7) rfl (by rw [ex16]; rfl) (by decide) rfl (fun ls hl => ?_)
                      refine lv_goto (tgt := 54) hx hb dX10_fell_122 (by decide) ?_
                      exact ih54 y11 x16 _ _ _ _ _ _ (lp_l hf hq54) hP hD hG hS (lv_sub hl [2, 3, 4, 5, 6, 7, 0] rfl)
                    · have hf := (if_neg c23).symm.trans hf
                      refine lv_aload_n hx hb dX10_fell_86 rfl (lv_at hl 1 rfl) ?_
                      refine va_get (D := (dC, dI)) (ci := 10) (v := .ref (h 3)) (C := RX10) (T := TX10) (N := 9) hx hb hts hin10 hown hK hP 0 rfl rfl 0 (by decide) (hts _ lk10_10) (fun _ h9 => h9) rfl dX10_fell_87 ?_
                      refine lv_iload hx hb dX10_fell_90 (lv_at hl 0 rfl) ?_
                      refine lv_iload_n hx hb dX10_fell_92 rfl (lv_at hl 3 rfl) ?_
                      refine lv_iconst (v := 0) hx hb dX10_fell_93 (by decide) ?_
                      obtain ⟨r17, er17, hf⟩ := bd hf
                      refine klCi (rest := []) (As := [.int x14, .int p1, .int 0]) ⟨hx, hb, hml, hown, hts⟩ (c_X1_whyNot_3 l dC dI t ts aK aV A h tx H.size (fun q hq => hA q (Nat.le_trans hS.1 hq)) S x14 p1 0 r17 er17) (cwV 3 hts gX10_fell_X1_whyNot rfl rfl rfl (by decide +kernel) ⟨Nat.le_of_ble_eq_true rfl, Nat.le_of_ble_eq_true rfl⟩) (va_recv hK hP (ci := 1) (q0 := 3) rfl rfl) rfl hl.1 rfl (Nat.le_of_ble_eq_true rfl) dX10_fell_94 ⟨Nat.zero_le _, Nat.zero_le _⟩ hE hK ⟨g, LP, pf, hP, hD, hG⟩ hS (fun H locs hC hS => ?_)
                      obtain ⟨g, LP, pf, hP, hD, hG⟩ := hC
                      refine lv_iconst (v := 5) hx hb dX10_fell_97 (by decide) ?_
                      refine lv_icmp_ne (tgt := 119) hx hb dX10_fell_98 (by decide) (fun c22 => ?_) (fun c22 => ?_)
                      · have hf := (if_neg c22).symm.trans hf
                        obtain ⟨x18, ex18, hf⟩ := bn hf
                        refine lv_iinc (v := x18) (lv' := [(6, .int x18), (7, .int x14), (0, .ref (h 0)), (1, .int p0), (2, .int p1), (3, .int p2), (4, .int y11), (5, .int y8)]) hx hb dX10_fell_119 hl (k := 7) rfl (by rw [ex18]; rfl) (by decide) rfl (fun ls hl => ?_)
                        refine lv_goto (tgt := 54) hx hb dX10_fell_122 (by decide) ?_
                        exact ih54 y11 x18 _ _ _ _ _ _ (lp_l hf hq54) hP hD hG hS (lv_sub hl [2, 3, 4, 5, 6, 7, 0] rfl)
                      · have hf := (if_pos c22).symm.trans hf
                        refine lv_iload hx hb dX10_fell_101 (lv_at hl 5 rfl) ?_
                        refine lv_iload_n hx hb dX10_fell_103 rfl (lv_at hl 4 rfl) ?_
                        refine lv_icmp_ne (tgt := 116) hx hb dX10_fell_104 (by decide) (fun c21 => ?_) (fun c21 => ?_)
                        · have hf := (if_neg c21).symm.trans hf
                          obtain ⟨x19, ex19, hf⟩ := bn hf
                          refine lv_iinc (v := x19) (lv' := [(4, .int x19), (7, .int x14), (0, .ref (h 0)), (1, .int p0), (2, .int p1), (3, .int p2), (5, .int y8), (6, .int y12)]) hx hb dX10_fell_116 hl (k := 5) rfl (by rw [ex19]; rfl) (by decide) rfl (fun ls hl => ?_)
                          obtain ⟨x20, ex20, hf⟩ := bn hf
                          refine lv_iinc (v := x20) (lv' := [(6, .int x20), (4, .int x19), (7, .int x14), (0, .ref (h 0)), (1, .int p0), (2, .int p1), (3, .int p2), (5, .int y8)]) hx hb dX10_fell_119 hl (k := 7) rfl (by rw [ex20]; rfl) (by decide) rfl (fun ls hl => ?_)
                          refine lv_goto (tgt := 54) hx hb dX10_fell_122 (by decide) ?_
                          exact ih54 x19 x20 _ _ _ _ _ _ (lp_l hf hq54) hP hD hG hS (lv_sub hl [3, 4, 5, 6, 1, 7, 0] rfl)
                        · have hf := (if_pos c21).symm.trans hf
                          refine lv_bipush (v := 10) hx hb dX10_fell_107 (by decide) ?_
                          refine lv_iload hx hb dX10_fell_109 (lv_at hl 6 rfl) ?_
                          refine lv_imul hx hb dX10_fell_111 ?_
                          refine lv_iload hx hb dX10_fell_112 (lv_at hl 7 rfl) ?_
                          refine lv_iadd hx hb dX10_fell_114 ?_
                          have hf := lp_r hf hq54
                          have hf := lp_r hf hq36
                          exact rtCi hx hb hr hlocks ⟨g, LP, pf, hP, hD, hG⟩ hS hf dX10_fell_115
              exact L54 FU y7 x10 _ _ _ _ _ _ hf hP hD hG hS (lv_sub hl [1, 2, 3, 4, 5, 6, 0] rfl)
        exact L36 FU 0 0 _ _ _ _ _ _ hf hP hD hG hS (lv_sub hl [2, 3, 4, 5, 1, 0] rfl)
      · have hf := (if_neg c28).symm.trans hf
        refine lv_aload_n hx hb dX10_fell_23 rfl (lv_at hl 0 rfl) ?_
        refine lv_bipush (v := (-10)) hx hb dX10_fell_24 (by decide) ?_
        obtain ⟨r26, S27, er26, hf⟩ := b2 hf
        refine klCi (rest := []) (As := [.int (-10)]) ⟨hx, hb, hml, hown, hts⟩ (c_X10_bad_0 l dC dI t ts aK aV A h tx H.size (fun q hq => hA q (Nat.le_trans hS.1 hq)) S (-10) r26 S27 er26) (cwV 1 hts gX10_fell_X10_bad rfl rfl rfl (by decide +kernel) ⟨Nat.le_of_ble_eq_true rfl, Nat.le_of_ble_eq_true rfl⟩) (va_recv hK hP (ci := 10) (q0 := 0) rfl rfl) rfl hl.1 rfl (Nat.le_of_ble_eq_true rfl) dX10_fell_26 ⟨Nat.zero_le _, Nat.zero_le _⟩ hE hK ⟨g, LP, pf, hP, hD, hG⟩ hS (fun H locs hC hS => ?_)
        obtain ⟨g, LP, pf, hP, hD, hG⟩ := hC
        exact rtCi hx hb hr hlocks ⟨g, LP, pf, hP, hD, hG⟩ hS hf dX10_fell_29

def b_X10_ropes_0_32 (S : CS) (p0 : Int32) (y4 : Int32) (y5 : Int32) (y6 : Int32) : Option ((Int32 × Int32) ⊕ ((Int32 × Int32) ⊕ (Int32 × CS))) :=
  (if (S.1 1307 0) ≤ y6 then (Option.bind (some (y4 + 1)) (fun x7 => some (Sum.inr (Sum.inl (y5, x7))))) else (Option.bind (f_X1_weightOfGo_3 S y6) (fun r8 => Option.bind (some (y5 + r8)) (fun x9 => (if x9 ≤ p0 then (Option.bind (some (y6 + 1)) (fun x10 => some (Sum.inl (x9, x10)))) else (some (Sum.inr (Sum.inr (((100 * y4) + y6, S))))))))))
def b_X10_ropes_0_23 (S : CS) (p0 : Int32) (y3 : Int32) (y4 : Int32) : Option ((Int32 × Int32) ⊕ (Int32 × CS)) :=
  (if 99 ≤ y4 then (some (Sum.inr (((-1), S)))) else (lp (fun s => b_X10_ropes_0_32 S p0 y4 s.1 s.2) FU (y3, 0)))
def f_X10_ropes_0 (S : CS) (p0 : Int32) : Option (Int32 × CS) :=
  (if p0 < 1 then (bi2 (f_X10_bad_0 S (-2)) (fun r1 S2 => some ((r1, S2)))) else ((if p0 ≤ 30000 then (lp (fun s => b_X10_ropes_0_23 S p0 s.1 s.2) FU (0, 0)) else (bi2 (f_X10_bad_0 S (-2)) (fun r14 S15 => some ((r14, S15)))))))
def rmX10_ropes_0 : Room := { frames := 3, cells := 0, slots := 0, locals := 67 }
abbrev RRX10_ropes_0 : Room := (headSpec wsX10_ropes rmX10_ropes_0).room
theorem in1_X10_ropes_0 : ∀ w ∈ wsX10, w ∈ wsX10_ropes := by decide +kernel
theorem in10_X10_ropes_0 : ∀ w ∈ wsX100, w ∈ wsX10_ropes := by decide +kernel
set_option maxHeartbeats 4000000 in
set_option maxRecDepth 100000 in
theorem c_X10_ropes_0 (l : Launch) (dC : Nat → ClassId) (dI : Nat → Nat → Nat) (t : Nat → ClassId) (ts aK aV : Nat → Nat) (A : Nat → Prop) (h : Nat → Nat) (tx : Nat) (sz : Nat) (hA0 : ∀ q : Nat, sz ≤ q → A q) (S : CS) (p0 : Int32) (r : Int32) (S' : CS) (hf : f_X10_ropes_0 S p0 = some (r, S')) : cCi l yX10_ropes wsX10_ropes rmX10_ropes_0 dC dI t ts aK aV A h tx tx sz [.ref (h 0), .int p0] S r S' := by
  refine Met.ofW (cc := cX10_ropes) (maxL := 5) (ret := (some .int)) (by decide) rfl ?_
  intro p e s m args below meth c s₁ B hml hv
  obtain ⟨hargs, hsz, hE, hC, hK⟩ := hv
  have hx := B.exec
  have hb := B.bytes
  have hr := B.returns
  have hts := atoms_spec (ws := wsX10_ropes) B.pre
  have hown : s.vm.findClass RX10 = some m.cls := findClass_of_methodNamed B.named
  have hlocks := B.notSynchronized
  have hsz : s.heap.size = sz := hsz
  subst hsz
  have hin1 := in1_X10_ropes_0
  have hin10 := in10_X10_ropes_0
  have lk10_10 : Cond.fieldLink RX10 10 (TX10 0).1 (TX10 0).2.1 (TX10 0).2.2.1 ∈ wsX10_ropes := by decide +kernel
  have lk127_1 : Cond.fieldLink RX10 127 (TX1 7).1 (TX1 7).2.1 (TX1 7).2.2.1 ∈ wsX10_ropes := by decide +kernel
  have hA : ∀ q : Nat, s.heap.size ≤ q → A q := hA0
  obtain ⟨g, LP, pf, hP, hD, hG⟩ := hC
  have hS : va_S A s.heap s.heap [] := va_S.rf
  have hl := lv_entry ([.ref (h 0), .int p0]) (n := 5) (Nat.le_of_ble_eq_true rfl)
  rw [show entryFrame m args 5 = entryFrame m ([.ref (h 0), .int p0] : List Value).toArray 5 from by rw [hargs], lg_entry_eq]
  generalize (lg_sl ([.ref (h 0), .int p0]) ++ List.replicate (5 - (lg_sl ([.ref (h 0), .int p0])).length) Slot.unset).toArray = ls at hl ⊢
  have hl : lv_has ls 5 [(0, .ref (h 0)), (1, .int p0)] := hl
  unfold f_X10_ropes_0 at hf
  refine lv_iload_n hx hb dX10_ropes_0 rfl (lv_at hl 1 rfl) ?_
  refine lv_iconst (v := 1) hx hb dX10_ropes_1 (by decide) ?_
  refine lv_icmp_lt (tgt := 12) hx hb dX10_ropes_2 (by decide) (fun c17 => ?_) (fun c17 => ?_)
  · have hf := (if_pos c17).symm.trans hf
    refine lv_aload_n hx hb dX10_ropes_12 rfl (lv_at hl 0 rfl) ?_
    refine lv_bipush (v := (-2)) hx hb dX10_ropes_13 (by decide) ?_
    obtain ⟨r1, S2, er1, hf⟩ := b2 hf
    refine klCi (rest := []) (As := [.int (-2)]) ⟨hx, hb, hml, hown, hts⟩ (c_X10_bad_0 l dC dI t ts aK aV A h tx s.heap.size (fun q hq => hA q (Nat.le_trans hS.1 hq)) S (-2) r1 S2 er1) (cwV 1 hts gX10_ropes_X10_bad rfl rfl rfl (by decide +kernel) ⟨Nat.le_of_ble_eq_true rfl, Nat.le_of_ble_eq_true rfl⟩) (va_recv hK hP (ci := 10) (q0 := 0) rfl rfl) rfl hl.1 rfl (Nat.le_of_ble_eq_true rfl) dX10_ropes_15 ⟨Nat.zero_le _, Nat.zero_le _⟩ hE hK ⟨g, LP, pf, hP, hD, hG⟩ hS (fun H locs hC hS => ?_)
    obtain ⟨g, LP, pf, hP, hD, hG⟩ := hC
    exact rtCi hx hb hr hlocks ⟨g, LP, pf, hP, hD, hG⟩ hS hf dX10_ropes_18
  · have hf := (if_neg c17).symm.trans hf
    refine lv_iload_n hx hb dX10_ropes_5 rfl (lv_at hl 1 rfl) ?_
    refine lv_sipush (v := 30000) hx hb dX10_ropes_6 (by decide) ?_
    refine lv_icmp_le (tgt := 19) hx hb dX10_ropes_9 (by decide) (fun c16 => ?_) (fun c16 => ?_)
    · have hf := (if_pos c16).symm.trans hf
      refine lv_iconst (v := 0) hx hb dX10_ropes_19 (by decide) ?_
      refine lv_istore_n (lv' := [(2, .int 0), (0, .ref (h 0)), (1, .int p0)]) hx hb dX10_ropes_20 rfl hl (by decide) rfl (fun ls hl => ?_)
      refine lv_iconst (v := 0) hx hb dX10_ropes_21 (by decide) ?_
      refine lv_istore_n (lv' := [(3, .int 0), (2, .int 0), (0, .ref (h 0)), (1, .int p0)]) hx hb dX10_ropes_22 rfl hl (by decide) rfl (fun ls hl => ?_)
      have L23 : ∀ (n : Nat) (y3 : Int32) (y4 : Int32) (g : Nat → Nat → Option Nat) (LP : List Nat) (pf : Nat → va_E) (H : Heap) (locs : List Loc) (ls : Array Slot), lp (fun s => b_X10_ropes_0_23 S p0 s.1 s.2) n (y3, y4) = some (r, S') → va_P (dC, dI) vwCl (wC t h tx g S ++ va_pl LP pf) H → va_D A (wC t h tx g S ++ va_pl LP pf) → rlC g LP pf S → va_S A s.heap H locs → lv_has ls 5 [(0, .ref (h 0)), (1, .int p0), (2, .int y3), (3, .int y4)] → W p l e RRX10_ropes_0 s m args below meth c H locs 0 0 (MQ below (qcCi dC dI t A h tx r S') args s 0 0 A) (F0 m 23 ls []) := by
        intro n
        induction n with
        | zero => intro y3 y4 g LP pf H locs ls hf; exact lp_z hf
        | succ n ih23 =>
          intro y3 y4 g LP pf H locs ls hf hP hD hG hS hl
          obtain ⟨q23, hf, hq23⟩ := lp_i hf
          have hf : b_X10_ropes_0_23 S p0 y3 y4 = some q23 := hf
          unfold b_X10_ropes_0_23 at hf
          refine lv_iload_n hx hb dX10_ropes_23 rfl (lv_at hl 3 rfl) ?_
          refine lv_bipush (v := 99) hx hb dX10_ropes_24 (by decide) ?_
          refine lv_icmp_ge (tgt := 81) hx hb dX10_ropes_26 (by decide) (fun c13 => ?_) (fun c13 => ?_)
          · have hf := (if_pos c13).symm.trans hf
            refine lv_iconst (v := (-1)) hx hb dX10_ropes_81 (by decide) ?_
            have hf := lp_r hf hq23
            exact rtCi hx hb hr hlocks ⟨g, LP, pf, hP, hD, hG⟩ hS hf dX10_ropes_82
          · have hf := (if_neg c13).symm.trans hf
            refine lv_iconst (v := 0) hx hb dX10_ropes_29 (by decide) ?_
            refine lv_istore (lv' := [(4, .int 0), (0, .ref (h 0)), (1, .int p0), (2, .int y3), (3, .int y4)]) hx hb dX10_ropes_30 hl (by decide) rfl (fun ls hl => ?_)
            have L32 : ∀ (n : Nat) (y5 : Int32) (y6 : Int32) (g : Nat → Nat → Option Nat) (LP : List Nat) (pf : Nat → va_E) (H : Heap) (locs : List Loc) (ls : Array Slot), lp (fun s => b_X10_ropes_0_32 S p0 y4 s.1 s.2) n (y5, y6) = some q23 → va_P (dC, dI) vwCl (wC t h tx g S ++ va_pl LP pf) H → va_D A (wC t h tx g S ++ va_pl LP pf) → rlC g LP pf S → va_S A s.heap H locs → lv_has ls 5 [(0, .ref (h 0)), (1, .int p0), (2, .int y5), (3, .int y4), (4, .int y6)] → W p l e RRX10_ropes_0 s m args below meth c H locs 0 0 (MQ below (qcCi dC dI t A h tx r S') args s 0 0 A) (F0 m 32 ls []) := by
              intro n
              induction n with
              | zero => intro y5 y6 g LP pf H locs ls hf; exact lp_z hf
              | succ n ih32 =>
                intro y5 y6 g LP pf H locs ls hf hP hD hG hS hl
                obtain ⟨q32, hf, hq32⟩ := lp_i hf
                have hf : b_X10_ropes_0_32 S p0 y4 y5 y6 = some q32 := hf
                unfold b_X10_ropes_0_32 at hf
                refine lv_iload hx hb dX10_ropes_32 (lv_at hl 4 rfl) ?_
                refine lv_aload_n hx hb dX10_ropes_34 rfl (lv_at hl 0 rfl) ?_
                refine va_get (D := (dC, dI)) (ci := 10) (v := .ref (h 3)) (C := RX10) (T := TX10) (N := 9) hx hb hts hin10 hown hK hP 0 rfl rfl 0 (by decide) (hts _ lk10_10) (fun _ h9 => h9) rfl dX10_ropes_35 ?_
                refine va_get (D := (dC, dI)) (ci := 1) (v := .int (S.1 1307 0)) (C := RX1) (T := TX1) (N := 10) hx hb hts hin1 hown hK hP 3 rfl rfl 7 (by decide) (hts _ lk127_1) (fun _ h9 => h9) rfl dX10_ropes_38 ?_
                refine lv_icmp_ge (tgt := 75) hx hb dX10_ropes_41 (by decide) (fun c12 => ?_) (fun c12 => ?_)
                · have hf := (if_pos c12).symm.trans hf
                  obtain ⟨x7, ex7, hf⟩ := bn hf
                  refine lv_iinc (v := x7) (lv' := [(3, .int x7), (0, .ref (h 0)), (1, .int p0), (2, .int y5), (4, .int y6)]) hx hb dX10_ropes_75 hl (k := 3) rfl (by rw [ex7]; rfl) (by decide) rfl (fun ls hl => ?_)
                  refine lv_goto (tgt := 23) hx hb dX10_ropes_78 (by decide) ?_
                  have hf := lp_r hf hq32
                  exact ih23 y5 x7 _ _ _ _ _ _ (lp_l hf hq23) hP hD hG hS (lv_sub hl [1, 2, 3, 0] rfl)
                · have hf := (if_neg c12).symm.trans hf
                  refine lv_iload_n hx hb dX10_ropes_44 rfl (lv_at hl 2 rfl) ?_
                  refine lv_aload_n hx hb dX10_ropes_45 rfl (lv_at hl 0 rfl) ?_
                  refine va_get (D := (dC, dI)) (ci := 10) (v := .ref (h 3)) (C := RX10) (T := TX10) (N := 9) hx hb hts hin10 hown hK hP 0 rfl rfl 0 (by decide) (hts _ lk10_10) (fun _ h9 => h9) rfl dX10_ropes_46 ?_
                  refine lv_iload hx hb dX10_ropes_49 (lv_at hl 4 rfl) ?_
                  obtain ⟨r8, er8, hf⟩ := bd hf
                  refine klCi (rest := [.int y5]) (As := [.int y6]) ⟨hx, hb, hml, hown, hts⟩ (c_X1_weightOfGo_3 l dC dI t ts aK aV A h tx H.size (fun q hq => hA q (Nat.le_trans hS.1 hq)) S y6 r8 er8) (cwV 1 hts gX10_ropes_X1_weightOfGo rfl rfl rfl (by decide +kernel) ⟨Nat.le_of_ble_eq_true rfl, Nat.le_of_ble_eq_true rfl⟩) (va_recv hK hP (ci := 1) (q0 := 3) rfl rfl) rfl hl.1 rfl (Nat.le_of_ble_eq_true rfl) dX10_ropes_51 ⟨Nat.zero_le _, Nat.zero_le _⟩ hE hK ⟨g, LP, pf, hP, hD, hG⟩ hS (fun H locs hC hS => ?_)
                  obtain ⟨g, LP, pf, hP, hD, hG⟩ := hC
                  refine lv_iadd hx hb dX10_ropes_54 ?_
                  refine lv_topi (fun x9 ex9 => ?_)
                  have hf := bs ex9 hf
                  refine lv_istore_n (lv' := [(2, .int x9), (0, .ref (h 0)), (1, .int p0), (3, .int y4), (4, .int y6)]) hx hb dX10_ropes_55 rfl hl (by decide) rfl (fun ls hl => ?_)
                  refine lv_iload_n hx hb dX10_ropes_56 rfl (lv_at hl 0 rfl) ?_
                  refine lv_iload_n hx hb dX10_ropes_57 rfl (lv_at hl 2 rfl) ?_
                  refine lv_icmp_le (tgt := 69) hx hb dX10_ropes_58 (by decide) (fun c11 => ?_) (fun c11 => ?_)
                  · have hf := (if_pos c11).symm.trans hf
                    obtain ⟨x10, ex10, hf⟩ := bn hf
                    refine lv_iinc (v := x10) (lv' := [(4, .int x10), (2, .int x9), (0, .ref (h 0)), (1, .int p0), (3, .int y4)]) hx hb dX10_ropes_69 hl (k := 4) rfl (by rw [ex10]; rfl) (by decide) rfl (fun ls hl => ?_)
                    refine lv_goto (tgt := 32) hx hb dX10_ropes_72 (by decide) ?_
                    exact ih32 x9 x10 _ _ _ _ _ _ (lp_l hf hq32) hP hD hG hS (lv_sub hl [2, 3, 1, 4, 0] rfl)
                  · have hf := (if_neg c11).symm.trans hf
                    refine lv_bipush (v := 100) hx hb dX10_ropes_61 (by decide) ?_
                    refine lv_iload_n hx hb dX10_ropes_63 rfl (lv_at hl 3 rfl) ?_
                    refine lv_imul hx hb dX10_ropes_64 ?_
                    refine lv_iload hx hb dX10_ropes_65 (lv_at hl 4 rfl) ?_
                    refine lv_iadd hx hb dX10_ropes_67 ?_
                    have hf := lp_r hf hq32
                    have hf := lp_r hf hq23
                    exact rtCi hx hb hr hlocks ⟨g, LP, pf, hP, hD, hG⟩ hS hf dX10_ropes_68
            exact L32 FU y3 0 _ _ _ _ _ _ hf hP hD hG hS (lv_sub hl [1, 2, 3, 4, 0] rfl)
      exact L23 FU 0 0 _ _ _ _ _ _ hf hP hD hG hS (lv_sub hl [2, 3, 1, 0] rfl)
    · have hf := (if_neg c16).symm.trans hf
      refine lv_aload_n hx hb dX10_ropes_12 rfl (lv_at hl 0 rfl) ?_
      refine lv_bipush (v := (-2)) hx hb dX10_ropes_13 (by decide) ?_
      obtain ⟨r14, S15, er14, hf⟩ := b2 hf
      refine klCi (rest := []) (As := [.int (-2)]) ⟨hx, hb, hml, hown, hts⟩ (c_X10_bad_0 l dC dI t ts aK aV A h tx s.heap.size (fun q hq => hA q (Nat.le_trans hS.1 hq)) S (-2) r14 S15 er14) (cwV 1 hts gX10_ropes_X10_bad rfl rfl rfl (by decide +kernel) ⟨Nat.le_of_ble_eq_true rfl, Nat.le_of_ble_eq_true rfl⟩) (va_recv hK hP (ci := 10) (q0 := 0) rfl rfl) rfl hl.1 rfl (Nat.le_of_ble_eq_true rfl) dX10_ropes_15 ⟨Nat.zero_le _, Nat.zero_le _⟩ hE hK ⟨g, LP, pf, hP, hD, hG⟩ hS (fun H locs hC hS => ?_)
      obtain ⟨g, LP, pf, hP, hD, hG⟩ := hC
      exact rtCi hx hb hr hlocks ⟨g, LP, pf, hP, hD, hG⟩ hS hf dX10_ropes_18

def f_X10_status_0 (S : CS) (p0 : Int32) : Option (Int32 × CS) :=
  (if p0 = 0 then (some ((S.1 1006 0, S))) else (if p0 = 1 then (some ((S.1 1007 0, S))) else (if p0 = 2 then (some ((S.1 1008 0, S))) else (bi2 (f_X10_bad_0 S (-1)) (fun r4 S5 => some ((r4, S5)))))))
def rmX10_status_0 : Room := { frames := 1, cells := 0, slots := 0, locals := 21 }
abbrev RRX10_status_0 : Room := (headSpec wsX10_status rmX10_status_0).room
theorem in10_X10_status_0 : ∀ w ∈ wsX100, w ∈ wsX10_status := by decide +kernel
set_option maxHeartbeats 4000000 in
set_option maxRecDepth 100000 in
theorem c_X10_status_0 (l : Launch) (dC : Nat → ClassId) (dI : Nat → Nat → Nat) (t : Nat → ClassId) (ts aK aV : Nat → Nat) (A : Nat → Prop) (h : Nat → Nat) (tx : Nat) (sz : Nat) (hA0 : ∀ q : Nat, sz ≤ q → A q) (S : CS) (p0 : Int32) (r : Int32) (S' : CS) (hf : f_X10_status_0 S p0 = some (r, S')) : cCi l yX10_status wsX10_status rmX10_status_0 dC dI t ts aK aV A h tx tx sz [.ref (h 0), .int p0] S r S' := by
  refine Met.ofW (cc := cX10_status) (maxL := 2) (ret := (some .int)) (by decide) rfl ?_
  intro p e s m args below meth c s₁ B hml hv
  obtain ⟨hargs, hsz, hE, hC, hK⟩ := hv
  have hx := B.exec
  have hb := B.bytes
  have hr := B.returns
  have hts := atoms_spec (ws := wsX10_status) B.pre
  have hown : s.vm.findClass RX10 = some m.cls := findClass_of_methodNamed B.named
  have hlocks := B.notSynchronized
  have hsz : s.heap.size = sz := hsz
  subst hsz
  have hin10 := in10_X10_status_0
  have lk154_10 : Cond.fieldLink RX10 154 (TX10 7).1 (TX10 7).2.1 (TX10 7).2.2.1 ∈ wsX10_status := by decide +kernel
  have lk184_10 : Cond.fieldLink RX10 184 (TX10 6).1 (TX10 6).2.1 (TX10 6).2.2.1 ∈ wsX10_status := by decide +kernel
  have lk187_10 : Cond.fieldLink RX10 187 (TX10 8).1 (TX10 8).2.1 (TX10 8).2.2.1 ∈ wsX10_status := by decide +kernel
  have hA : ∀ q : Nat, s.heap.size ≤ q → A q := hA0
  obtain ⟨g, LP, pf, hP, hD, hG⟩ := hC
  have hS : va_S A s.heap s.heap [] := va_S.rf
  have hl := lv_entry ([.ref (h 0), .int p0]) (n := 2) (Nat.le_of_ble_eq_true rfl)
  rw [show entryFrame m args 2 = entryFrame m ([.ref (h 0), .int p0] : List Value).toArray 2 from by rw [hargs], lg_entry_eq]
  generalize (lg_sl ([.ref (h 0), .int p0]) ++ List.replicate (2 - (lg_sl ([.ref (h 0), .int p0])).length) Slot.unset).toArray = ls at hl ⊢
  have hl : lv_has ls 2 [(0, .ref (h 0)), (1, .int p0)] := hl
  unfold f_X10_status_0 at hf
  refine lv_iload_n hx hb dX10_status_0 rfl (lv_at hl 1 rfl) ?_
  by_cases c1 : p0 = 0
  · have hf := (if_pos c1).symm.trans hf
    refine lv_tableIn (tgt := 28) hx hb dX10_status_1 (by rw [c1]; decide) (by rw [c1]; decide) (by rw [c1]; rfl) (by decide) ?_
    refine lv_aload_n hx hb dX10_status_28 rfl (lv_at hl 0 rfl) ?_
    refine va_get (D := (dC, dI)) (ci := 10) (v := .int (S.1 1006 0)) (C := RX10) (T := TX10) (N := 9) hx hb hts hin10 hown hK hP 0 rfl rfl 6 (by decide) (hts _ lk184_10) (fun _ h9 => h9) rfl dX10_status_29 ?_
    exact rtCi hx hb hr hlocks ⟨g, LP, pf, hP, hD, hG⟩ hS hf dX10_status_32
  · have hf := (if_neg c1).symm.trans hf
    by_cases c2 : p0 = 1
    · have hf := (if_pos c2).symm.trans hf
      refine lv_tableIn (tgt := 33) hx hb dX10_status_1 (by rw [c2]; decide) (by rw [c2]; decide) (by rw [c2]; rfl) (by decide) ?_
      refine lv_aload_n hx hb dX10_status_33 rfl (lv_at hl 0 rfl) ?_
      refine va_get (D := (dC, dI)) (ci := 10) (v := .int (S.1 1007 0)) (C := RX10) (T := TX10) (N := 9) hx hb hts hin10 hown hK hP 0 rfl rfl 7 (by decide) (hts _ lk154_10) (fun _ h9 => h9) rfl dX10_status_34 ?_
      exact rtCi hx hb hr hlocks ⟨g, LP, pf, hP, hD, hG⟩ hS hf dX10_status_37
    · have hf := (if_neg c2).symm.trans hf
      by_cases c3 : p0 = 2
      · have hf := (if_pos c3).symm.trans hf
        refine lv_tableIn (tgt := 38) hx hb dX10_status_1 (by rw [c3]; decide) (by rw [c3]; decide) (by rw [c3]; rfl) (by decide) ?_
        refine lv_aload_n hx hb dX10_status_38 rfl (lv_at hl 0 rfl) ?_
        refine va_get (D := (dC, dI)) (ci := 10) (v := .int (S.1 1008 0)) (C := RX10) (T := TX10) (N := 9) hx hb hts hin10 hown hK hP 0 rfl rfl 8 (by decide) (hts _ lk187_10) (fun _ h9 => h9) rfl dX10_status_39 ?_
        exact rtCi hx hb hr hlocks ⟨g, LP, pf, hP, hD, hG⟩ hS hf dX10_status_42
      · have hf := (if_neg c3).symm.trans hf
        have nc1 : p0.toInt ≠ 0 := fun q => c1 (Int32.toInt_inj.mp (q.trans rfl))
        have nc2 : p0.toInt ≠ 1 := fun q => c2 (Int32.toInt_inj.mp (q.trans rfl))
        have nc3 : p0.toInt ≠ 2 := fun q => c3 (Int32.toInt_inj.mp (q.trans rfl))
        refine lv_tableOut (tgt := 43) hx hb dX10_status_1 (by omega) (by decide) ?_
        refine lv_aload_n hx hb dX10_status_43 rfl (lv_at hl 0 rfl) ?_
        refine lv_iconst (v := (-1)) hx hb dX10_status_44 (by decide) ?_
        obtain ⟨r4, S5, er4, hf⟩ := b2 hf
        refine klCi (rest := []) (As := [.int (-1)]) ⟨hx, hb, hml, hown, hts⟩ (c_X10_bad_0 l dC dI t ts aK aV A h tx s.heap.size (fun q hq => hA q (Nat.le_trans hS.1 hq)) S (-1) r4 S5 er4) (cwV 1 hts gX10_status_X10_bad rfl rfl rfl (by decide +kernel) ⟨Nat.le_of_ble_eq_true rfl, Nat.le_of_ble_eq_true rfl⟩) (va_recv hK hP (ci := 10) (q0 := 0) rfl rfl) rfl hl.1 rfl (Nat.le_of_ble_eq_true rfl) dX10_status_45 ⟨Nat.zero_le _, Nat.zero_le _⟩ hE hK ⟨g, LP, pf, hP, hD, hG⟩ hS (fun H locs hC hS => ?_)
        obtain ⟨g, LP, pf, hP, hD, hG⟩ := hC
        exact rtCi hx hb hr hlocks ⟨g, LP, pf, hP, hD, hG⟩ hS hf dX10_status_48

def f_X10_count_0 (S : CS) (p0 : Int32) : Option (Int32 × CS) :=
  (if p0 = 0 then (some ((S.1 1306 0, S))) else (if p0 = 1 then (some ((S.1 1307 0, S))) else (if p0 = 2 then (some ((S.1 1308 0, S))) else (if p0 = 3 then (some ((S.1 1309 0, S))) else (bi2 (f_X10_bad_0 S (-2)) (fun r5 S6 => some ((r5, S6))))))))
def rmX10_count_0 : Room := { frames := 1, cells := 0, slots := 0, locals := 21 }
abbrev RRX10_count_0 : Room := (headSpec wsX10_count rmX10_count_0).room
theorem in1_X10_count_0 : ∀ w ∈ wsX10, w ∈ wsX10_count := by decide +kernel
theorem in10_X10_count_0 : ∀ w ∈ wsX100, w ∈ wsX10_count := by decide +kernel
set_option maxHeartbeats 4000000 in
set_option maxRecDepth 100000 in
theorem c_X10_count_0 (l : Launch) (dC : Nat → ClassId) (dI : Nat → Nat → Nat) (t : Nat → ClassId) (ts aK aV : Nat → Nat) (A : Nat → Prop) (h : Nat → Nat) (tx : Nat) (sz : Nat) (hA0 : ∀ q : Nat, sz ≤ q → A q) (S : CS) (p0 : Int32) (r : Int32) (S' : CS) (hf : f_X10_count_0 S p0 = some (r, S')) : cCi l yX10_count wsX10_count rmX10_count_0 dC dI t ts aK aV A h tx tx sz [.ref (h 0), .int p0] S r S' := by
  refine Met.ofW (cc := cX10_count) (maxL := 2) (ret := (some .int)) (by decide) rfl ?_
  intro p e s m args below meth c s₁ B hml hv
  obtain ⟨hargs, hsz, hE, hC, hK⟩ := hv
  have hx := B.exec
  have hb := B.bytes
  have hr := B.returns
  have hts := atoms_spec (ws := wsX10_count) B.pre
  have hown : s.vm.findClass RX10 = some m.cls := findClass_of_methodNamed B.named
  have hlocks := B.notSynchronized
  have hsz : s.heap.size = sz := hsz
  subst hsz
  have hin1 := in1_X10_count_0
  have hin10 := in10_X10_count_0
  have lk10_10 : Cond.fieldLink RX10 10 (TX10 0).1 (TX10 0).2.1 (TX10 0).2.2.1 ∈ wsX10_count := by decide +kernel
  have lk53_1 : Cond.fieldLink RX10 53 (TX1 6).1 (TX1 6).2.1 (TX1 6).2.2.1 ∈ wsX10_count := by decide +kernel
  have lk109_1 : Cond.fieldLink RX10 109 (TX1 8).1 (TX1 8).2.1 (TX1 8).2.2.1 ∈ wsX10_count := by decide +kernel
  have lk127_1 : Cond.fieldLink RX10 127 (TX1 7).1 (TX1 7).2.1 (TX1 7).2.2.1 ∈ wsX10_count := by decide +kernel
  have lk160_1 : Cond.fieldLink RX10 160 (TX1 9).1 (TX1 9).2.1 (TX1 9).2.2.1 ∈ wsX10_count := by decide +kernel
  have hA : ∀ q : Nat, s.heap.size ≤ q → A q := hA0
  obtain ⟨g, LP, pf, hP, hD, hG⟩ := hC
  have hS : va_S A s.heap s.heap [] := va_S.rf
  have hl := lv_entry ([.ref (h 0), .int p0]) (n := 2) (Nat.le_of_ble_eq_true rfl)
  rw [show entryFrame m args 2 = entryFrame m ([.ref (h 0), .int p0] : List Value).toArray 2 from by rw [hargs], lg_entry_eq]
  generalize (lg_sl ([.ref (h 0), .int p0]) ++ List.replicate (2 - (lg_sl ([.ref (h 0), .int p0])).length) Slot.unset).toArray = ls at hl ⊢
  have hl : lv_has ls 2 [(0, .ref (h 0)), (1, .int p0)] := hl
  unfold f_X10_count_0 at hf
  refine lv_iload_n hx hb dX10_count_0 rfl (lv_at hl 1 rfl) ?_
  by_cases c1 : p0 = 0
  · have hf := (if_pos c1).symm.trans hf
    refine lv_tableIn (tgt := 32) hx hb dX10_count_1 (by rw [c1]; decide) (by rw [c1]; decide) (by rw [c1]; rfl) (by decide) ?_
    refine lv_aload_n hx hb dX10_count_32 rfl (lv_at hl 0 rfl) ?_
    refine va_get (D := (dC, dI)) (ci := 10) (v := .ref (h 3)) (C := RX10) (T := TX10) (N := 9) hx hb hts hin10 hown hK hP 0 rfl rfl 0 (by decide) (hts _ lk10_10) (fun _ h9 => h9) rfl dX10_count_33 ?_
    refine va_get (D := (dC, dI)) (ci := 1) (v := .int (S.1 1306 0)) (C := RX1) (T := TX1) (N := 10) hx hb hts hin1 hown hK hP 3 rfl rfl 6 (by decide) (hts _ lk53_1) (fun _ h9 => h9) rfl dX10_count_36 ?_
    exact rtCi hx hb hr hlocks ⟨g, LP, pf, hP, hD, hG⟩ hS hf dX10_count_39
  · have hf := (if_neg c1).symm.trans hf
    by_cases c2 : p0 = 1
    · have hf := (if_pos c2).symm.trans hf
      refine lv_tableIn (tgt := 40) hx hb dX10_count_1 (by rw [c2]; decide) (by rw [c2]; decide) (by rw [c2]; rfl) (by decide) ?_
      refine lv_aload_n hx hb dX10_count_40 rfl (lv_at hl 0 rfl) ?_
      refine va_get (D := (dC, dI)) (ci := 10) (v := .ref (h 3)) (C := RX10) (T := TX10) (N := 9) hx hb hts hin10 hown hK hP 0 rfl rfl 0 (by decide) (hts _ lk10_10) (fun _ h9 => h9) rfl dX10_count_41 ?_
      refine va_get (D := (dC, dI)) (ci := 1) (v := .int (S.1 1307 0)) (C := RX1) (T := TX1) (N := 10) hx hb hts hin1 hown hK hP 3 rfl rfl 7 (by decide) (hts _ lk127_1) (fun _ h9 => h9) rfl dX10_count_44 ?_
      exact rtCi hx hb hr hlocks ⟨g, LP, pf, hP, hD, hG⟩ hS hf dX10_count_47
    · have hf := (if_neg c2).symm.trans hf
      by_cases c3 : p0 = 2
      · have hf := (if_pos c3).symm.trans hf
        refine lv_tableIn (tgt := 48) hx hb dX10_count_1 (by rw [c3]; decide) (by rw [c3]; decide) (by rw [c3]; rfl) (by decide) ?_
        refine lv_aload_n hx hb dX10_count_48 rfl (lv_at hl 0 rfl) ?_
        refine va_get (D := (dC, dI)) (ci := 10) (v := .ref (h 3)) (C := RX10) (T := TX10) (N := 9) hx hb hts hin10 hown hK hP 0 rfl rfl 0 (by decide) (hts _ lk10_10) (fun _ h9 => h9) rfl dX10_count_49 ?_
        refine va_get (D := (dC, dI)) (ci := 1) (v := .int (S.1 1308 0)) (C := RX1) (T := TX1) (N := 10) hx hb hts hin1 hown hK hP 3 rfl rfl 8 (by decide) (hts _ lk109_1) (fun _ h9 => h9) rfl dX10_count_52 ?_
        exact rtCi hx hb hr hlocks ⟨g, LP, pf, hP, hD, hG⟩ hS hf dX10_count_55
      · have hf := (if_neg c3).symm.trans hf
        by_cases c4 : p0 = 3
        · have hf := (if_pos c4).symm.trans hf
          refine lv_tableIn (tgt := 56) hx hb dX10_count_1 (by rw [c4]; decide) (by rw [c4]; decide) (by rw [c4]; rfl) (by decide) ?_
          refine lv_aload_n hx hb dX10_count_56 rfl (lv_at hl 0 rfl) ?_
          refine va_get (D := (dC, dI)) (ci := 10) (v := .ref (h 3)) (C := RX10) (T := TX10) (N := 9) hx hb hts hin10 hown hK hP 0 rfl rfl 0 (by decide) (hts _ lk10_10) (fun _ h9 => h9) rfl dX10_count_57 ?_
          refine va_get (D := (dC, dI)) (ci := 1) (v := .int (S.1 1309 0)) (C := RX1) (T := TX1) (N := 10) hx hb hts hin1 hown hK hP 3 rfl rfl 9 (by decide) (hts _ lk160_1) (fun _ h9 => h9) rfl dX10_count_60 ?_
          exact rtCi hx hb hr hlocks ⟨g, LP, pf, hP, hD, hG⟩ hS hf dX10_count_63
        · have hf := (if_neg c4).symm.trans hf
          have nc1 : p0.toInt ≠ 0 := fun q => c1 (Int32.toInt_inj.mp (q.trans rfl))
          have nc2 : p0.toInt ≠ 1 := fun q => c2 (Int32.toInt_inj.mp (q.trans rfl))
          have nc3 : p0.toInt ≠ 2 := fun q => c3 (Int32.toInt_inj.mp (q.trans rfl))
          have nc4 : p0.toInt ≠ 3 := fun q => c4 (Int32.toInt_inj.mp (q.trans rfl))
          refine lv_tableOut (tgt := 64) hx hb dX10_count_1 (by omega) (by decide) ?_
          refine lv_aload_n hx hb dX10_count_64 rfl (lv_at hl 0 rfl) ?_
          refine lv_bipush (v := (-2)) hx hb dX10_count_65 (by decide) ?_
          obtain ⟨r5, S6, er5, hf⟩ := b2 hf
          refine klCi (rest := []) (As := [.int (-2)]) ⟨hx, hb, hml, hown, hts⟩ (c_X10_bad_0 l dC dI t ts aK aV A h tx s.heap.size (fun q hq => hA q (Nat.le_trans hS.1 hq)) S (-2) r5 S6 er5) (cwV 1 hts gX10_count_X10_bad rfl rfl rfl (by decide +kernel) ⟨Nat.le_of_ble_eq_true rfl, Nat.le_of_ble_eq_true rfl⟩) (va_recv hK hP (ci := 10) (q0 := 0) rfl rfl) rfl hl.1 rfl (Nat.le_of_ble_eq_true rfl) dX10_count_67 ⟨Nat.zero_le _, Nat.zero_le _⟩ hE hK ⟨g, LP, pf, hP, hD, hG⟩ hS (fun H locs hC hS => ?_)
          obtain ⟨g, LP, pf, hP, hD, hG⟩ := hC
          exact rtCi hx hb hr hlocks ⟨g, LP, pf, hP, hD, hG⟩ hS hf dX10_count_70

def f_X10_digest_0 (S : CS)  : Option Int64 :=
  Option.bind (f_X1_digestOfAll_3 S) (fun r1 => some r1)
def rmX10_digest_0 : Room := { frames := 2, cells := 0, slots := 0, locals := 49 }
abbrev RRX10_digest_0 : Room := (headSpec wsX10_digest rmX10_digest_0).room
theorem in10_X10_digest_0 : ∀ w ∈ wsX100, w ∈ wsX10_digest := by decide +kernel
set_option maxHeartbeats 4000000 in
set_option maxRecDepth 100000 in
theorem c_X10_digest_0 (l : Launch) (dC : Nat → ClassId) (dI : Nat → Nat → Nat) (t : Nat → ClassId) (ts aK aV : Nat → Nat) (A : Nat → Prop) (h : Nat → Nat) (tx : Nat) (sz : Nat) (hA0 : ∀ q : Nat, sz ≤ q → A q) (S : CS)  (r : Int64) (hf : f_X10_digest_0 S = some r) : cCl l yX10_digest wsX10_digest rmX10_digest_0 dC dI t ts aK aV A h tx tx sz [.ref (h 0)] S r S := by
  refine Met.ofW (cc := cX10_digest) (maxL := 1) (ret := (some .long)) (by decide) rfl ?_
  intro p e s m args below meth c s₁ B hml hv
  obtain ⟨hargs, hsz, hE, hC, hK⟩ := hv
  have hx := B.exec
  have hb := B.bytes
  have hr := B.returns
  have hts := atoms_spec (ws := wsX10_digest) B.pre
  have hown : s.vm.findClass RX10 = some m.cls := findClass_of_methodNamed B.named
  have hlocks := B.notSynchronized
  have hsz : s.heap.size = sz := hsz
  subst hsz
  have hin10 := in10_X10_digest_0
  have lk10_10 : Cond.fieldLink RX10 10 (TX10 0).1 (TX10 0).2.1 (TX10 0).2.2.1 ∈ wsX10_digest := by decide +kernel
  have hA : ∀ q : Nat, s.heap.size ≤ q → A q := hA0
  obtain ⟨g, LP, pf, hP, hD, hG⟩ := hC
  have hS : va_S A s.heap s.heap [] := va_S.rf
  have hl := lv_entry ([.ref (h 0)]) (n := 1) (Nat.le_of_ble_eq_true rfl)
  rw [show entryFrame m args 1 = entryFrame m ([.ref (h 0)] : List Value).toArray 1 from by rw [hargs], lg_entry_eq]
  generalize (lg_sl ([.ref (h 0)]) ++ List.replicate (1 - (lg_sl ([.ref (h 0)])).length) Slot.unset).toArray = ls at hl ⊢
  have hl : lv_has ls 1 [(0, .ref (h 0))] := hl
  unfold f_X10_digest_0 at hf
  refine lv_aload_n hx hb dX10_digest_0 rfl (lv_at hl 0 rfl) ?_
  refine va_get (D := (dC, dI)) (ci := 10) (v := .ref (h 3)) (C := RX10) (T := TX10) (N := 9) hx hb hts hin10 hown hK hP 0 rfl rfl 0 (by decide) (hts _ lk10_10) (fun _ h9 => h9) rfl dX10_digest_1 ?_
  obtain ⟨r1, er1, hf⟩ := bd hf
  refine klCl (rest := []) (As := []) ⟨hx, hb, hml, hown, hts⟩ (c_X1_digestOfAll_3 l dC dI t ts aK aV A h tx s.heap.size (fun q hq => hA q (Nat.le_trans hS.1 hq)) S r1 er1) (cwV 0 hts gX10_digest_X1_digestOfAll rfl rfl rfl (by decide +kernel) ⟨Nat.le_of_ble_eq_true rfl, Nat.le_of_ble_eq_true rfl⟩) (va_recv hK hP (ci := 1) (q0 := 3) rfl rfl) rfl hl.1 rfl (Nat.le_of_ble_eq_true rfl) dX10_digest_4 ⟨Nat.zero_le _, Nat.zero_le _⟩ hE hK ⟨g, LP, pf, hP, hD, hG⟩ hS (fun H locs hC hS => ?_)
  obtain ⟨g, LP, pf, hP, hD, hG⟩ := hC
  exact rtCl hx hb hr hlocks ⟨g, LP, pf, hP, hD, hG⟩ hS (congrArg (fun z => some (z, S)) (Option.some.inj hf)) dX10_digest_7
