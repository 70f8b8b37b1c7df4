def f_X1_addPorter_3_d (S : CS) (d : PD) : Option CS :=
  (if 6 ≤ (S.1 1306 0) then (some S) else (Option.bind (wrP S 0 (S.1 1306 0) d) (fun S1 => Option.bind (some (siI S1 1306 (fun _ => (S1.1 1306 0) + 1))) (fun S3 => some S3))))
def rmX1_addPorter_3_d : Room := { frames := 0, cells := 0, slots := 0, locals := 0 }
abbrev RRX1_addPorter_3_d : Room := (headSpec wsX1_addPorter rmX1_addPorter_3_d).room
theorem in1_X1_addPorter_3_d : ∀ w ∈ wsX10, w ∈ wsX1_addPorter := by decide +kernel
set_option maxHeartbeats 4000000 in
set_option maxRecDepth 100000 in
theorem c_X1_addPorter_3_d (l : Launch) (dC : Nat → ClassId) (dI : Nat → Nat → Nat) (t : Nat → ClassId) (ts aK aV : Nat → Nat) (A : Nat → Prop) (h : Nat → Nat) (tx sz : Nat) (hA0 : ∀ q : Nat, sz ≤ q → A q) (S : CS) (a : Nat) (d : PD) (S' : CS) (hf : f_X1_addPorter_3_d S d = some S') : cCpv l yX1_addPorter wsX1_addPorter rmX1_addPorter_3_d dC dI t ts aK aV A h tx tx sz [.ref (h 3), .ref a] S a d S' := by
  refine Met.ofW (cc := cX1_addPorter) (maxL := 2) (ret := none) (by decide) rfl ?_
  intro p e s m args below meth c s₁ B hml hv
  obtain ⟨hargs, hsz, hE, hC, hK⟩ := hv
  have hx := B.exec
  have hb := B.bytes
  have hr := B.returns
  have hts := atoms_spec (ws := wsX1_addPorter) B.pre
  have hown : s.vm.findClass RX1 = some m.cls := findClass_of_methodNamed B.named
  have hlocks := B.notSynchronized
  have hsz : s.heap.size = sz := hsz
  subst hsz
  have hin1 := in1_X1_addPorter_3_d
  have lk11_1 : Cond.fieldLink RX1 11 (TX1 0).1 (TX1 0).2.1 (TX1 0).2.2.1 ∈ wsX1_addPorter := by decide +kernel
  have lk56_1 : Cond.fieldLink RX1 56 (TX1 6).1 (TX1 6).2.1 (TX1 6).2.2.1 ∈ wsX1_addPorter := by decide +kernel
  have hA : ∀ q : Nat, s.heap.size ≤ q → A q := hA0
  obtain ⟨g, LP, pf, hP, hD, hG, lad, pad⟩ := hC
  obtain ⟨kd, hkd⟩ := va_pl_get (X := wC t h tx g S) (f := pf) lad
  rw [pad] at hkd
  have hS : va_S A s.heap s.heap [] := va_S.rf
  have hl := lv_entry ([.ref (h 3), .ref a]) (n := 2) (Nat.le_of_ble_eq_true rfl)
  rw [show entryFrame m args 2 = entryFrame m ([.ref (h 3), .ref a] : List Value).toArray 2 from by rw [hargs], lg_entry_eq]
  generalize (lg_sl ([.ref (h 3), .ref a]) ++ List.replicate (2 - (lg_sl ([.ref (h 3), .ref a])).length) Slot.unset).toArray = ls at hl ⊢
  have hl : lv_has ls 2 [(0, .ref (h 3)), (1, .ref a)] := hl
  unfold f_X1_addPorter_3_d at hf
  refine lv_aload_n hx hb dX1_addPorter_0 rfl (lv_at hl 0 rfl) ?_
  refine va_get (D := (dC, dI)) (ci := 1) (v := .int (S.1 1306 0)) (C := RX1) (T := TX1) (N := 10) hx hb hts hin1 hown hK hP 3 rfl rfl 6 (by decide) (hts _ lk56_1) (fun _ h9 => h9) rfl dX1_addPorter_1 ?_
  refine lv_bipush (v := 6) hx hb dX1_addPorter_4 (by decide) ?_
  refine lv_icmp_ge (tgt := 29) hx hb dX1_addPorter_6 (by decide) (fun c4 => ?_) (fun c4 => ?_)
  · have hf := (if_pos c4).symm.trans hf
    exact rtCv hx hb hr hlocks ⟨g, LP, pf, hP, hD, hG⟩ hS hf dX1_addPorter_29
  · have hf := (if_neg c4).symm.trans hf
    refine lv_aload_n hx hb dX1_addPorter_9 rfl (lv_at hl 0 rfl) ?_
    refine va_get (D := (dC, dI)) (ci := 1) (v := .ref (h 4)) (C := RX1) (T := TX1) (N := 10) hx hb hts hin1 hown hK hP 3 rfl rfl 0 (by decide) (hts _ lk11_1) (fun _ h9 => h9) rfl dX1_addPorter_10 ?_
    refine lv_aload_n hx hb dX1_addPorter_13 rfl (lv_at hl 0 rfl) ?_
    refine va_get (D := (dC, dI)) (ci := 1) (v := .int (S.1 1306 0)) (C := RX1) (T := TX1) (N := 10) hx hb hts hin1 hown hK hP 3 rfl rfl 6 (by decide) (hts _ lk56_1) (fun _ h9 => h9) rfl dX1_addPorter_14 ?_
    refine lv_aload_n hx hb dX1_addPorter_17 rfl (lv_at hl 1 rfl) ?_
    obtain ⟨S1, hiS1, eS1, hf⟩ := wrP_b hf
    refine asPd (d := d) hx hb hE.1 hK hP hD hS 4 4 rfl rfl hkd hiS1 dX1_addPorter_18 (fun H locs hP hD hS => ?_)
    have hG := hG.set (c := 0) (i := (S.1 1306 0).toNatClampNeg) lad pad
    rw [← eS1] at hG
    obtain ⟨g2, eg2⟩ : ∃ z, z = va_up g 0 (va_up (g 0) (S.1 1306 0).toNatClampNeg (some a)) := ⟨_, rfl⟩
    have hP : va_P (dC, dI) vwCl (wC t h tx g2 S1 ++ va_pl LP pf) H := by rw [eS1, eg2]; exact hP
    have hD : va_D A (wC t h tx g2 S1 ++ va_pl LP pf) := by rw [eS1, eg2]; exact hD
    rw [← eg2] at hG
    clear eg2
    generalize g2 = g at hP hD hG
    refine lv_aload_n hx hb dX1_addPorter_19 rfl (lv_at hl 0 rfl) ?_
    refine lv_dup hx hb dX1_addPorter_20 rfl ?_
    refine va_get (D := (dC, dI)) (ci := 1) (v := .int (S1.1 1306 0)) (C := RX1) (T := TX1) (N := 10) hx hb hts hin1 hown hK hP 3 rfl rfl 6 (by decide) (hts _ lk56_1) (fun _ h9 => h9) rfl dX1_addPorter_21 ?_
    refine lv_iconst (v := 1) hx hb dX1_addPorter_24 (by decide) ?_
    refine lv_iadd hx hb dX1_addPorter_25 ?_
    obtain ⟨S3, eS3, hf⟩ := bn hf
    refine va_put (D := (dC, dI)) (ci := 1) (v := .int ((S1.1 1306 0) + 1)) (ty := .int) (C := RX1) (T := TX1) (N := 10) hx hb hts hin1 tyX1 tyX1_ok nmX1 hown hK hP hD hS 3 rfl rfl 6 (by decide) (hts _ lk56_1) (fun _ h9 => h9) rfl (by decide +kernel) rfl rfl (Nat.le_of_ble_eq_true rfl) dX1_addPorter_26 (fun H locs hP hD hS => ?_)
    have hP : va_P (dC, dI) vwCl (wC t h tx g S3 ++ va_pl LP pf) H := by rw [eS3]; exact hP
    have hD : va_D A (wC t h tx g S3 ++ va_pl LP pf) := by rw [eS3]; exact hD
    have hG : rlC g LP pf S3 := by rw [eS3]; exact hG
    exact rtCv hx hb hr hlocks ⟨g, LP, pf, hP, hD, hG⟩ hS hf dX1_addPorter_29

def f_X10_porter_0 (S : CS) (p0 : Int32) (p1 : Int32) (p2 : Int32) (p3 : Int32) : Option (Int32 × CS) :=
  Option.bind (f_X10_fitsPorter 0 p0) (fun r1 => (if r1 = 0 then (bi2 (f_X10_bad_0 S (-2)) (fun r2 S3 => some ((r2, S3)))) else (Option.bind (f_X10_fitsPorter 1 p1) (fun r4 => (if r4 = 0 then (bi2 (f_X10_bad_0 S (-2)) (fun r5 S6 => some ((r5, S6)))) else (Option.bind (f_X10_fitsPorter 2 p2) (fun r7 => (if r7 = 0 then (bi2 (f_X10_bad_0 S (-2)) (fun r8 S9 => some ((r8, S9)))) else (Option.bind (f_X10_fitsPorter 3 p3) (fun r10 => (if r10 = 0 then (bi2 (f_X10_bad_0 S (-2)) (fun r17 S18 => some ((r17, S18)))) else ((if (S.1 1306 0) < 6 then (Option.bind (f_X10_changed_0 S) (fun S11 => Option.bind (f_X1_addPorter_3_d S11 (p0, p1, p2, p3)) (fun S13 => some (((S13.1 1306 0) - 1, S13))))) else (bi2 (f_X10_full_0 S) (fun r14 S15 => some ((r14, S15)))))))))))))))))
def rmX10_porter_0 : Room := { frames := 5, cells := 1, slots := 4, locals := 107 }
abbrev RRX10_porter_0 : Room := (headSpec wsX10_porter rmX10_porter_0).room
theorem in1_X10_porter_0 : ∀ w ∈ wsX10, w ∈ wsX10_porter := by decide +kernel
theorem in10_X10_porter_0 : ∀ w ∈ wsX100, w ∈ wsX10_porter := by decide +kernel
set_option maxHeartbeats 4000000 in
set_option maxRecDepth 100000 in
theorem c_X10_porter_0 (l : Launch) (dC : Nat → ClassId) (dI : Nat → Nat → Nat) (t : Nat → ClassId) (ts aK aV : Nat → Nat) (A : Nat → Prop) (h : Nat → Nat) (tx : Nat) (sz : Nat) (hA0 : ∀ q : Nat, sz ≤ q → A q) (S : CS) (p0 : Int32) (p1 : Int32) (p2 : Int32) (p3 : Int32) (r : Int32) (S' : CS) (hf : f_X10_porter_0 S p0 p1 p2 p3 = some (r, S')) : cCi l yX10_porter wsX10_porter rmX10_porter_0 dC dI t ts aK aV A h tx tx sz [.ref (h 0), .int p0, .int p1, .int p2, .int p3] S r S' := by
  refine Met.ofW (cc := cX10_porter) (maxL := 5) (ret := (some .int)) (by decide) rfl ?_
  intro p e s m args below meth c s₁ B hml hv
  obtain ⟨hargs, hsz, hE, hC, hK⟩ := hv
  have hx := B.exec
  have hb := B.bytes
  have hr := B.returns
  have hts := atoms_spec (ws := wsX10_porter) B.pre
  have hown : s.vm.findClass RX10 = some m.cls := findClass_of_methodNamed B.named
  have hlocks := B.notSynchronized
  have hsz : s.heap.size = sz := hsz
  subst hsz
  have hin1 := in1_X10_porter_0
  have hin10 := in10_X10_porter_0
  have lk10_10 : Cond.fieldLink RX10 10 (TX10 0).1 (TX10 0).2.1 (TX10 0).2.2.1 ∈ wsX10_porter := by decide +kernel
  have lk53_1 : Cond.fieldLink RX10 53 (TX1 6).1 (TX1 6).2.1 (TX1 6).2.2.1 ∈ wsX10_porter := by decide +kernel
  have hA : ∀ q : Nat, s.heap.size ≤ q → A q := hA0
  obtain ⟨g, LP, pf, hP, hD, hG⟩ := hC
  have hS : va_S A s.heap s.heap [] := va_S.rf
  have hl := lv_entry ([.ref (h 0), .int p0, .int p1, .int p2, .int p3]) (n := 5) (Nat.le_of_ble_eq_true rfl)
  rw [show entryFrame m args 5 = entryFrame m ([.ref (h 0), .int p0, .int p1, .int p2, .int p3] : List Value).toArray 5 from by rw [hargs], lg_entry_eq]
  generalize (lg_sl ([.ref (h 0), .int p0, .int p1, .int p2, .int p3]) ++ List.replicate (5 - (lg_sl ([.ref (h 0), .int p0, .int p1, .int p2, .int p3])).length) Slot.unset).toArray = ls at hl ⊢
  have hl : lv_has ls 5 [(0, .ref (h 0)), (1, .int p0), (2, .int p1), (3, .int p2), (4, .int p3)] := hl
  unfold f_X10_porter_0 at hf
  refine lv_iconst (v := 0) hx hb dX10_porter_0 (by decide) ?_
  refine lv_iload_n hx hb dX10_porter_1 rfl (lv_at hl 1 rfl) ?_
  obtain ⟨r1, er1, hf⟩ := bd hf
  refine klXi (rest := []) (As := [.int 0, .int p0]) ⟨hx, hb, hml, hown, hts⟩ (c_X10_fitsPorter l ts aK aV s.heap.size 0 p0 r1 er1) (fun _ _ _ _ h9 => h9.blind) (fun U hU hW => hE.go hS hU hW (fun q hq => hA q (Nat.le_trans hS.1 hq))) (va_cwS 2 hts gX10_porter_X10_fitsPorter rfl rfl rfl (by decide +kernel) ⟨Nat.le_of_ble_eq_true rfl, Nat.le_of_ble_eq_true rfl⟩) rfl hl.1 rfl (Nat.le_of_ble_eq_true rfl) dX10_porter_2 ⟨Nat.zero_le _, Nat.zero_le _⟩ hS hA (fun H2 locs hk hS => ?_)
  have hP := kpP hP hk
  generalize H2 = H at hP hS ⊢
  refine lv_if_eq (tgt := 33) hx hb dX10_porter_5 (by decide) (fun c22 => ?_) (fun c22 => ?_)
  · have hf := (if_pos c22).symm.trans hf
    refine lv_aload_n hx hb dX10_porter_33 rfl (lv_at hl 0 rfl) ?_
    refine lv_bipush (v := (-2)) hx hb dX10_porter_34 (by decide) ?_
    obtain ⟨r2, S3, er2, hf⟩ := b2 hf
    refine klCi (rest := []) (As := [.int (-2)]) ⟨hx, hb, hml, hown, hts⟩ (c_X10_bad_0 l dC dI t ts aK aV A h tx H.size (fun q hq => hA q (Nat.le_trans hS.1 hq)) S (-2) r2 S3 er2) (cwV 1 hts gX10_porter_X10_bad rfl rfl rfl (by decide +kernel) ⟨Nat.le_of_ble_eq_true rfl, Nat.le_of_ble_eq_true rfl⟩) (va_recv hK hP (ci := 10) (q0 := 0) rfl rfl) rfl hl.1 rfl (Nat.le_of_ble_eq_true rfl) dX10_porter_36 ⟨Nat.zero_le _, Nat.zero_le _⟩ hE hK ⟨g, LP, pf, hP, hD, hG⟩ hS (fun H locs hC hS => ?_)
    obtain ⟨g, LP, pf, hP, hD, hG⟩ := hC
    refine W.widen (k := 1) (n := 4) (show 0 ≤ 1 from by omega) (show 0 ≤ 4 from by omega) ?_
    exact rtCi hx hb hr hlocks ⟨g, LP, pf, hP, hD, hG⟩ hS hf dX10_porter_39
  · have hf := (if_neg c22).symm.trans hf
    refine lv_iconst (v := 1) hx hb dX10_porter_8 (by decide) ?_
    refine lv_iload_n hx hb dX10_porter_9 rfl (lv_at hl 2 rfl) ?_
    obtain ⟨r4, er4, hf⟩ := bd hf
    refine klXi (rest := []) (As := [.int 1, .int p1]) ⟨hx, hb, hml, hown, hts⟩ (c_X10_fitsPorter l ts aK aV H.size 1 p1 r4 er4) (fun _ _ _ _ h9 => h9.blind) (fun U hU hW => hE.go hS hU hW (fun q hq => hA q (Nat.le_trans hS.1 hq))) (va_cwS 2 hts gX10_porter_X10_fitsPorter rfl rfl rfl (by decide +kernel) ⟨Nat.le_of_ble_eq_true rfl, Nat.le_of_ble_eq_true rfl⟩) rfl hl.1 rfl (Nat.le_of_ble_eq_true rfl) dX10_porter_10 ⟨Nat.zero_le _, Nat.zero_le _⟩ hS hA (fun H2 locs hk hS => ?_)
    have hP := kpP hP hk
    generalize H2 = H at hP hS ⊢
    refine lv_if_eq (tgt := 33) hx hb dX10_porter_13 (by decide) (fun c21 => ?_) (fun c21 => ?_)
    · have hf := (if_pos c21).symm.trans hf
      refine lv_aload_n hx hb dX10_porter_33 rfl (lv_at hl 0 rfl) ?_
      refine lv_bipush (v := (-2)) hx hb dX10_porter_34 (by decide) ?_
      obtain ⟨r5, S6, er5, hf⟩ := b2 hf
      refine klCi (rest := []) (As := [.int (-2)]) ⟨hx, hb, hml, hown, hts⟩ (c_X10_bad_0 l dC dI t ts aK aV A h tx H.size (fun q hq => hA q (Nat.le_trans hS.1 hq)) S (-2) r5 S6 er5) (cwV 1 hts gX10_porter_X10_bad rfl rfl rfl (by decide +kernel) ⟨Nat.le_of_ble_eq_true rfl, Nat.le_of_ble_eq_true rfl⟩) (va_recv hK hP (ci := 10) (q0 := 0) rfl rfl) rfl hl.1 rfl (Nat.le_of_ble_eq_true rfl) dX10_porter_36 ⟨Nat.zero_le _, Nat.zero_le _⟩ hE hK ⟨g, LP, pf, hP, hD, hG⟩ hS (fun H locs hC hS => ?_)
      obtain ⟨g, LP, pf, hP, hD, hG⟩ := hC
      refine W.widen (k := 1) (n := 4) (show 0 ≤ 1 from by omega) (show 0 ≤ 4 from by omega) ?_
      exact rtCi hx hb hr hlocks ⟨g, LP, pf, hP, hD, hG⟩ hS hf dX10_porter_39
    · have hf := (if_neg c21).symm.trans hf
      refine lv_iconst (v := 2) hx hb dX10_porter_16 (by decide) ?_
      refine lv_iload_n hx hb dX10_porter_17 rfl (lv_at hl 3 rfl) ?_
      obtain ⟨r7, er7, hf⟩ := bd hf
      refine klXi (rest := []) (As := [.int 2, .int p2]) ⟨hx, hb, hml, hown, hts⟩ (c_X10_fitsPorter l ts aK aV H.size 2 p2 r7 er7) (fun _ _ _ _ h9 => h9.blind) (fun U hU hW => hE.go hS hU hW (fun q hq => hA q (Nat.le_trans hS.1 hq))) (va_cwS 2 hts gX10_porter_X10_fitsPorter rfl rfl rfl (by decide +kernel) ⟨Nat.le_of_ble_eq_true rfl, Nat.le_of_ble_eq_true rfl⟩) rfl hl.1 rfl (Nat.le_of_ble_eq_true rfl) dX10_porter_18 ⟨Nat.zero_le _, Nat.zero_le _⟩ hS hA (fun H2 locs hk hS => ?_)
      have hP := kpP hP hk
      generalize H2 = H at hP hS ⊢
      refine lv_if_eq (tgt := 33) hx hb dX10_porter_21 (by decide) (fun c20 => ?_) (fun c20 => ?_)
      · have hf := (if_pos c20).symm.trans hf
        refine lv_aload_n hx hb dX10_porter_33 rfl (lv_at hl 0 rfl) ?_
        refine lv_bipush (v := (-2)) hx hb dX10_porter_34 (by decide) ?_
        obtain ⟨r8, S9, er8, hf⟩ := b2 hf
        refine klCi (rest := []) (As := [.int (-2)]) ⟨hx, hb, hml, hown, hts⟩ (c_X10_bad_0 l dC dI t ts aK aV A h tx H.size (fun q hq => hA q (Nat.le_trans hS.1 hq)) S (-2) r8 S9 er8) (cwV 1 hts gX10_porter_X10_bad rfl rfl rfl (by decide +kernel) ⟨Nat.le_of_ble_eq_true rfl, Nat.le_of_ble_eq_true rfl⟩) (va_recv hK hP (ci := 10) (q0 := 0) rfl rfl) rfl hl.1 rfl (Nat.le_of_ble_eq_true rfl) dX10_porter_36 ⟨Nat.zero_le _, Nat.zero_le _⟩ hE hK ⟨g, LP, pf, hP, hD, hG⟩ hS (fun H locs hC hS => ?_)
        obtain ⟨g, LP, pf, hP, hD, hG⟩ := hC
        refine W.widen (k := 1) (n := 4) (show 0 ≤ 1 from by omega) (show 0 ≤ 4 from by omega) ?_
        exact rtCi hx hb hr hlocks ⟨g, LP, pf, hP, hD, hG⟩ hS hf dX10_porter_39
      · have hf := (if_neg c20).symm.trans hf
        refine lv_iconst (v := 3) hx hb dX10_porter_24 (by decide) ?_
        refine lv_iload hx hb dX10_porter_25 (lv_at hl 4 rfl) ?_
        obtain ⟨r10, er10, hf⟩ := bd hf
        refine klXi (rest := []) (As := [.int 3, .int p3]) ⟨hx, hb, hml, hown, hts⟩ (c_X10_fitsPorter l ts aK aV H.size 3 p3 r10 er10) (fun _ _ _ _ h9 => h9.blind) (fun U hU hW => hE.go hS hU hW (fun q hq => hA q (Nat.le_trans hS.1 hq))) (va_cwS 2 hts gX10_porter_X10_fitsPorter rfl rfl rfl (by decide +kernel) ⟨Nat.le_of_ble_eq_true rfl, Nat.le_of_ble_eq_true rfl⟩) rfl hl.1 rfl (Nat.le_of_ble_eq_true rfl) dX10_porter_27 ⟨Nat.zero_le _, Nat.zero_le _⟩ hS hA (fun H2 locs hk hS => ?_)
        have hP := kpP hP hk
        generalize H2 = H at hP hS ⊢
        refine lv_if_ne (tgt := 40) hx hb dX10_porter_30 (by decide) (fun c19 => ?_) (fun c19 => ?_)
        · have hf := (if_neg c19).symm.trans hf
          refine lv_aload_n hx hb dX10_porter_40 rfl (lv_at hl 0 rfl) ?_
          refine va_get (D := (dC, dI)) (ci := 10) (v := .ref (h 3)) (C := RX10) (T := TX10) (N := 9) hx hb hts hin10 hown hK hP 0 rfl rfl 0 (by decide) (hts _ lk10_10) (fun _ h9 => h9) rfl dX10_porter_41 ?_
          refine va_get (D := (dC, dI)) (ci := 1) (v := .int (S.1 1306 0)) (C := RX1) (T := TX1) (N := 10) hx hb hts hin1 hown hK hP 3 rfl rfl 6 (by decide) (hts _ lk53_1) (fun _ h9 => h9) rfl dX10_porter_44 ?_
          refine lv_bipush (v := 6) hx hb dX10_porter_47 (by decide) ?_
          refine lv_icmp_lt (tgt := 57) hx hb dX10_porter_49 (by decide) (fun c16 => ?_) (fun c16 => ?_)
          · have hf := (if_pos c16).symm.trans hf
            refine lv_aload_n hx hb dX10_porter_57 rfl (lv_at hl 0 rfl) ?_
            obtain ⟨S11, eS11, hf⟩ := bd hf
            refine klCv (rest := []) (As := []) ⟨hx, hb, hml, hown, hts⟩ (c_X10_changed_0 l dC dI t ts aK aV A h tx H.size (fun q hq => hA q (Nat.le_trans hS.1 hq)) S S11 eS11) (cwV 0 hts gX10_porter_X10_changed rfl rfl rfl (by decide +kernel) ⟨Nat.le_of_ble_eq_true rfl, Nat.le_of_ble_eq_true rfl⟩) (va_recv hK hP (ci := 10) (q0 := 0) rfl rfl) rfl hl.1 rfl (Nat.le_of_ble_eq_true rfl) dX10_porter_58 ⟨Nat.zero_le _, Nat.zero_le _⟩ hE hK ⟨g, LP, pf, hP, hD, hG⟩ hS (fun H locs hC hS => ?_)
            obtain ⟨g, LP, pf, hP, hD, hG⟩ := hC
            refine lv_aload_n hx hb dX10_porter_61 rfl (lv_at hl 0 rfl) ?_
            refine va_get (D := (dC, dI)) (ci := 10) (v := .ref (h 3)) (C := RX10) (T := TX10) (N := 9) hx hb hts hin10 hown hK hP 0 rfl rfl 0 (by decide) (hts _ lk10_10) (fun _ h9 => h9) rfl dX10_porter_62 ?_
            refine lv_iload_n hx hb dX10_porter_65 rfl (lv_at hl 1 rfl) ?_
            refine lv_iload_n hx hb dX10_porter_66 rfl (lv_at hl 2 rfl) ?_
            refine lv_iload_n hx hb dX10_porter_67 rfl (lv_at hl 3 rfl) ?_
            refine lv_iload hx hb dX10_porter_68 (lv_at hl 4 rfl) ?_
            refine klCn (rest := [.ref (h 3)]) (As := [.int p0, .int p1, .int p2, .int p3]) ⟨hx, hb, hml, hown, hts⟩ (c_X10_newPorter l dC dI t ts aK aV A h tx H.size (fun q hq => hA q (Nat.le_trans hS.1 hq)) S11 p0 p1 p2 p3) (va_cwS 4 hts gX10_porter_X10_newPorter rfl rfl rfl (by decide +kernel) ⟨Nat.le_of_ble_eq_true rfl, Nat.le_of_ble_eq_true rfl⟩) rfl hl.1 rfl (Nat.le_of_ble_eq_true rfl) dX10_porter_70 ⟨Nat.le_of_ble_eq_true rfl, Nat.le_of_ble_eq_true rfl⟩ hE hK ⟨g, LP, pf, hP, hD, hG⟩ hS (fun a12 H locs hC hS => ?_)
            obtain ⟨g, LP, pf, hP, hD, hG, laa12, paa12⟩ := hC
            refine W.widen (k := 1) (n := 4) (Nat.le_of_ble_eq_true rfl) (Nat.le_of_ble_eq_true rfl) ?_
            obtain ⟨S13, eS13, hf⟩ := bd hf
            refine klCpv (rest := []) (As := [.ref a12]) ⟨hx, hb, hml, hown, hts⟩ (c_X1_addPorter_3_d l dC dI t ts aK aV A h tx H.size (fun q hq => hA q (Nat.le_trans hS.1 hq)) S11 a12 (p0, p1, p2, p3) S13 eS13) (cwV 1 hts gX10_porter_X1_addPorter rfl rfl rfl (by decide +kernel) ⟨Nat.le_of_ble_eq_true rfl, Nat.le_of_ble_eq_true rfl⟩) (va_recv hK hP (ci := 1) (q0 := 3) rfl rfl) rfl hl.1 rfl (Nat.le_of_ble_eq_true rfl) dX10_porter_73 ⟨Nat.le_of_ble_eq_true rfl, Nat.le_of_ble_eq_true rfl⟩ hE hK ⟨g, LP, pf, hP, hD, hG, laa12, paa12⟩ hS (fun H locs hC hS => ?_)
            obtain ⟨g, LP, pf, hP, hD, hG⟩ := hC
            refine lv_aload_n hx hb dX10_porter_76 rfl (lv_at hl 0 rfl) ?_
            refine va_get (D := (dC, dI)) (ci := 10) (v := .ref (h 3)) (C := RX10) (T := TX10) (N := 9) hx hb hts hin10 hown hK hP 0 rfl rfl 0 (by decide) (hts _ lk10_10) (fun _ h9 => h9) rfl dX10_porter_77 ?_
            refine va_get (D := (dC, dI)) (ci := 1) (v := .int (S13.1 1306 0)) (C := RX1) (T := TX1) (N := 10) hx hb hts hin1 hown hK hP 3 rfl rfl 6 (by decide) (hts _ lk53_1) (fun _ h9 => h9) rfl dX10_porter_80 ?_
            refine lv_iconst (v := 1) hx hb dX10_porter_83 (by decide) ?_
            refine lv_isub hx hb dX10_porter_84 ?_
            exact rtCi hx hb hr hlocks ⟨g, LP, pf, hP, hD, hG⟩ hS hf dX10_porter_85
          · have hf := (if_neg c16).symm.trans hf
            refine lv_aload_n hx hb dX10_porter_52 rfl (lv_at hl 0 rfl) ?_
            obtain ⟨r14, S15, er14, hf⟩ := b2 hf
            refine klCi (rest := []) (As := []) ⟨hx, hb, hml, hown, hts⟩ (c_X10_full_0 l dC dI t ts aK aV A h tx H.size (fun q hq => hA q (Nat.le_trans hS.1 hq)) S r14 S15 er14) (cwV 0 hts gX10_porter_X10_full rfl rfl rfl (by decide +kernel) ⟨Nat.le_of_ble_eq_true rfl, Nat.le_of_ble_eq_true rfl⟩) (va_recv hK hP (ci := 10) (q0 := 0) rfl rfl) rfl hl.1 rfl (Nat.le_of_ble_eq_true rfl) dX10_porter_53 ⟨Nat.zero_le _, Nat.zero_le _⟩ hE hK ⟨g, LP, pf, hP, hD, hG⟩ hS (fun H locs hC hS => ?_)
            obtain ⟨g, LP, pf, hP, hD, hG⟩ := hC
            refine W.widen (k := 1) (n := 4) (show 0 ≤ 1 from by omega) (show 0 ≤ 4 from by omega) ?_
            exact rtCi hx hb hr hlocks ⟨g, LP, pf, hP, hD, hG⟩ hS hf dX10_porter_56
        · have hf := (if_pos c19).symm.trans hf
          refine lv_aload_n hx hb dX10_porter_33 rfl (lv_at hl 0 rfl) ?_
          refine lv_bipush (v := (-2)) hx hb dX10_porter_34 (by decide) ?_
          obtain ⟨r17, S18, er17, hf⟩ := b2 hf
          refine klCi (rest := []) (As := [.int (-2)]) ⟨hx, hb, hml, hown, hts⟩ (c_X10_bad_0 l dC dI t ts aK aV A h tx H.size (fun q hq => hA q (Nat.le_trans hS.1 hq)) S (-2) r17 S18 er17) (cwV 1 hts gX10_porter_X10_bad rfl rfl rfl (by decide +kernel) ⟨Nat.le_of_ble_eq_true rfl, Nat.le_of_ble_eq_true rfl⟩) (va_recv hK hP (ci := 10) (q0 := 0) rfl rfl) rfl hl.1 rfl (Nat.le_of_ble_eq_true rfl) dX10_porter_36 ⟨Nat.zero_le _, Nat.zero_le _⟩ hE hK ⟨g, LP, pf, hP, hD, hG⟩ hS (fun H locs hC hS => ?_)
          obtain ⟨g, LP, pf, hP, hD, hG⟩ := hC
          refine W.widen (k := 1) (n := 4) (show 0 ≤ 1 from by omega) (show 0 ≤ 4 from by omega) ?_
          exact rtCi hx hb hr hlocks ⟨g, LP, pf, hP, hD, hG⟩ hS hf dX10_porter_39

def b_X8_wordAtToken_31_12 (S : CS) (y1 : Int32) : Option (Int32 ⊕ Int32) :=
  (if 6 ≤ y1 then (some (Sum.inr (-1))) else (Option.bind (f_X8_isAtToken_31_w S ((wrdOf y1))) (fun r2 => (if r2 = 0 then (Option.bind (some (y1 + 1)) (fun x3 => some (Sum.inl x3))) else (some (Sum.inr y1))))))
def f_X8_wordAtToken_31 (S : CS)  : Option Int32 :=
  (if (S.1 4105 0) = 1 then (lp (fun s => b_X8_wordAtToken_31_12 S s) FU 0) else (some (-1)))
def rmX8_wordAtToken_31 : Room := { frames := 5, cells := 0, slots := 0, locals := 107 }
abbrev RRX8_wordAtToken_31 : Room := (headSpec wsX8_wordAtToken rmX8_wordAtToken_31).room
theorem in8_X8_wordAtToken_31 : ∀ w ∈ wsX80, w ∈ wsX8_wordAtToken := by decide +kernel
set_option maxHeartbeats 4000000 in
set_option maxRecDepth 100000 in
theorem c_X8_wordAtToken_31 (l : Launch) (dC : Nat → ClassId) (dI : Nat → Nat → Nat) (t : Nat → ClassId) (ts aK aV : Nat → Nat) (A : Nat → Prop) (h : Nat → Nat) (sz : Nat) (hA0 : ∀ q : Nat, sz ≤ q → A q) (S : CS)  (r : Int32) (hf : f_X8_wordAtToken_31 S = some r) : cCi l yX8_wordAtToken wsX8_wordAtToken rmX8_wordAtToken_31 dC dI t ts aK aV A h (h 8) (h 8) sz [.ref (h 31)] S r S := by
  refine Met.ofW (cc := cX8_wordAtToken) (maxL := 2) (ret := (some .int)) (by decide) rfl ?_
  intro p e s m args below meth c s₁ B hml hv
  obtain ⟨hargs, hsz, hE, hC, hK⟩ := hv
  have hx := B.exec
  have hb := B.bytes
  have hr := B.returns
  have hts := atoms_spec (ws := wsX8_wordAtToken) B.pre
  have hown : s.vm.findClass RX8 = some m.cls := findClass_of_methodNamed B.named
  have hlocks := B.notSynchronized
  have hsz : s.heap.size = sz := hsz
  subst hsz
  have hin8 := in8_X8_wordAtToken_31
  have lk54_8 : Cond.fieldLink RX8 54 (TX8 5).1 (TX8 5).2.1 (TX8 5).2.2.1 ∈ wsX8_wordAtToken := by decide +kernel
  have hA : ∀ q : Nat, s.heap.size ≤ q → A q := hA0
  obtain ⟨g, LP, pf, hP, hD, hG⟩ := hC
  have hS : va_S A s.heap s.heap [] := va_S.rf
  have hl := lv_entry ([.ref (h 31)]) (n := 2) (Nat.le_of_ble_eq_true rfl)
  rw [show entryFrame m args 2 = entryFrame m ([.ref (h 31)] : List Value).toArray 2 from by rw [hargs], lg_entry_eq]
  generalize (lg_sl ([.ref (h 31)]) ++ List.replicate (2 - (lg_sl ([.ref (h 31)])).length) Slot.unset).toArray = ls at hl ⊢
  have hl : lv_has ls 2 [(0, .ref (h 31))] := hl
  unfold f_X8_wordAtToken_31 at hf
  refine lv_aload_n hx hb dX8_wordAtToken_0 rfl (lv_at hl 0 rfl) ?_
  refine va_get (D := (dC, dI)) (ci := 8) (v := .int (S.1 4105 0)) (C := RX8) (T := TX8) (N := 9) hx hb hts hin8 hown hK hP 31 rfl rfl 5 (by decide) (hts _ lk54_8) (fun _ h9 => h9) rfl dX8_wordAtToken_1 ?_
  refine lv_iconst (v := 1) hx hb dX8_wordAtToken_4 (by decide) ?_
  refine lv_icmp_eq (tgt := 10) hx hb dX8_wordAtToken_5 (by decide) (fun c6 => ?_) (fun c6 => ?_)
  · have hf := (if_pos c6).symm.trans hf
    refine lv_iconst (v := 0) hx hb dX8_wordAtToken_10 (by decide) ?_
    refine lv_istore_n (lv' := [(1, .int 0), (0, .ref (h 31))]) hx hb dX8_wordAtToken_11 rfl hl (by decide) rfl (fun ls hl => ?_)
    have L12 : ∀ (n : Nat) (y1 : Int32) (g : Nat → Nat → Option Nat) (LP : List Nat) (pf : Nat → va_E) (H : Heap) (locs : List Loc) (ls : Array Slot), lp (fun s => b_X8_wordAtToken_31_12 S s) n y1 = some r → va_P (dC, dI) vwCl (wC t h (h 8) g S ++ va_pl LP pf) H → va_D A (wC t h (h 8) g S ++ va_pl LP pf) → rlC g LP pf S → va_S A s.heap H locs → lv_has ls 2 [(0, .ref (h 31)), (1, .int y1)] → W p l e RRX8_wordAtToken_31 s m args below meth c H locs 0 0 (MQ below (qcCi dC dI t A h (h 8) r S) args s 0 0 A) (F0 m 12 ls []) := by
      intro n
      induction n with
      | zero => intro y1 g LP pf H locs ls hf; exact lp_z hf
      | succ n ih12 =>
        intro y1 g LP pf H locs ls hf hP hD hG hS hl
        obtain ⟨q12, hf, hq12⟩ := lp_i hf
        have hf : b_X8_wordAtToken_31_12 S y1 = some q12 := hf
        unfold b_X8_wordAtToken_31_12 at hf
        refine lv_iload_n hx hb dX8_wordAtToken_12 rfl (lv_at hl 1 rfl) ?_
        refine lv_bipush (v := 6) hx hb dX8_wordAtToken_13 (by decide) ?_
        refine lv_icmp_ge (tgt := 37) hx hb dX8_wordAtToken_15 (by decide) (fun c5 => ?_) (fun c5 => ?_)
        · have hf := (if_pos c5).symm.trans hf
          refine lv_iconst (v := (-1)) hx hb dX8_wordAtToken_37 (by decide) ?_
          have hf := lp_r hf hq12
          exact rtCi hx hb hr hlocks ⟨g, LP, pf, hP, hD, hG⟩ hS (congrArg (fun z => some (z, S)) (Option.some.inj hf)) dX8_wordAtToken_38
        · have hf := (if_neg c5).symm.trans hf
          refine lv_aload_n hx hb dX8_wordAtToken_18 rfl (lv_at hl 0 rfl) ?_
          refine lv_iload_n hx hb dX8_wordAtToken_19 rfl (lv_at hl 1 rfl) ?_
          refine klXr (rest := [.ref (h 31)]) (As := [.int y1]) ⟨hx, hb, hml, hown, hts⟩ (c_X8_wordOf l ts aK aV H.size y1) (fun _ _ _ _ h9 => h9.blind) (fun U hU hW => hE.go hS hU hW (fun q hq => hA q (Nat.le_trans hS.1 hq))) (va_cwS 1 hts gX8_wordAtToken_X8_wordOf rfl rfl rfl (by decide +kernel) ⟨Nat.le_of_ble_eq_true rfl, Nat.le_of_ble_eq_true rfl⟩) rfl hl.1 rfl (Nat.le_of_ble_eq_true rfl) dX8_wordAtToken_20 ⟨Nat.zero_le _, Nat.zero_le _⟩ hS hA (fun H2 locs hk hS => ?_)
          have hP := kpP hP hk
          generalize H2 = H at hP hS ⊢
          obtain ⟨r2, er2, hf⟩ := bd hf
          refine klCi (rest := []) (As := [.ref (aK (wrdOf y1))]) ⟨hx, hb, hml, hown, hts⟩ (c_X8_isAtToken_31_w l dC dI t ts aK aV A h H.size (fun q hq => hA q (Nat.le_trans hS.1 hq)) S ((wrdOf y1)) (wrdOf_lt _) r2 er2) (cwV 1 hts gX8_wordAtToken_X8_isAtToken rfl rfl rfl (by decide +kernel) ⟨Nat.le_of_ble_eq_true rfl, Nat.le_of_ble_eq_true rfl⟩) (va_recv hK hP (ci := 8) (q0 := 31) rfl rfl) rfl hl.1 rfl (Nat.le_of_ble_eq_true rfl) dX8_wordAtToken_23 ⟨Nat.zero_le _, Nat.zero_le _⟩ hE hK ⟨g, LP, pf, hP, hD, hG⟩ hS (fun H locs hC hS => ?_)
          obtain ⟨g, LP, pf, hP, hD, hG⟩ := hC
          refine lv_if_eq (tgt := 31) hx hb dX8_wordAtToken_26 (by decide) (fun c4 => ?_) (fun c4 => ?_)
          · have hf := (if_pos c4).symm.trans hf
            obtain ⟨x3, ex3, hf⟩ := bn hf
            refine lv_iinc (v := x3) (lv' := [(1, .int x3), (0, .ref (h 31))]) hx hb dX8_wordAtToken_31 hl (k := 1) rfl (by rw [ex3]; rfl) (by decide) rfl (fun ls hl => ?_)
            refine lv_goto (tgt := 12) hx hb dX8_wordAtToken_34 (by decide) ?_
            exact ih12 x3 _ _ _ _ _ _ (lp_l hf hq12) hP hD hG hS (lv_sub hl [1, 0] rfl)
          · have hf := (if_neg c4).symm.trans hf
            refine lv_iload_n hx hb dX8_wordAtToken_29 rfl (lv_at hl 1 rfl) ?_
            have hf := lp_r hf hq12
            exact rtCi hx hb hr hlocks ⟨g, LP, pf, hP, hD, hG⟩ hS (congrArg (fun z => some (z, S)) (Option.some.inj hf)) dX8_wordAtToken_30
    exact L12 FU 0 _ _ _ _ _ _ hf hP hD hG hS (lv_sub hl [1, 0] rfl)
  · have hf := (if_neg c6).symm.trans hf
    refine lv_iconst (v := (-1)) hx hb dX8_wordAtToken_8 (by decide) ?_
    exact rtCi hx hb hr hlocks ⟨g, LP, pf, hP, hD, hG⟩ hS (congrArg (fun z => some (z, S)) (Option.some.inj hf)) dX8_wordAtToken_9

def f_X1_addPorter_24_d (S : CS) (d : PD) : Option CS :=
  (if 6 ≤ (S.1 3406 0) then (some S) else (Option.bind (wrP S 3 (S.1 3406 0) d) (fun S1 => Option.bind (some (siI S1 3406 (fun _ => (S1.1 3406 0) + 1))) (fun S3 => some S3))))
def rmX1_addPorter_24_d : Room := { frames := 0, cells := 0, slots := 0, locals := 0 }
abbrev RRX1_addPorter_24_d : Room := (headSpec wsX1_addPorter rmX1_addPorter_24_d).room
theorem in1_X1_addPorter_24_d : ∀ w ∈ wsX10, w ∈ wsX1_addPorter := by decide +kernel
set_option maxHeartbeats 4000000 in
set_option maxRecDepth 100000 in
theorem c_X1_addPorter_24_d (l : Launch) (dC : Nat → ClassId) (dI : Nat → Nat → Nat) (t : Nat → ClassId) (ts aK aV : Nat → Nat) (A : Nat → Prop) (h : Nat → Nat) (tx sz : Nat) (hA0 : ∀ q : Nat, sz ≤ q → A q) (S : CS) (a : Nat) (d : PD) (S' : CS) (hf : f_X1_addPorter_24_d S d = some S') : cCpv l yX1_addPorter wsX1_addPorter rmX1_addPorter_24_d dC dI t ts aK aV A h tx tx sz [.ref (h 24), .ref a] S a d S' := by
  refine Met.ofW (cc := cX1_addPorter) (maxL := 2) (ret := none) (by decide) rfl ?_
  intro p e s m args below meth c s₁ B hml hv
  obtain ⟨hargs, hsz, hE, hC, hK⟩ := hv
  have hx := B.exec
  have hb := B.bytes
  have hr := B.returns
  have hts := atoms_spec (ws := wsX1_addPorter) B.pre
  have hown : s.vm.findClass RX1 = some m.cls := findClass_of_methodNamed B.named
  have hlocks := B.notSynchronized
  have hsz : s.heap.size = sz := hsz
  subst hsz
  have hin1 := in1_X1_addPorter_24_d
  have lk11_1 : Cond.fieldLink RX1 11 (TX1 0).1 (TX1 0).2.1 (TX1 0).2.2.1 ∈ wsX1_addPorter := by decide +kernel
  have lk56_1 : Cond.fieldLink RX1 56 (TX1 6).1 (TX1 6).2.1 (TX1 6).2.2.1 ∈ wsX1_addPorter := by decide +kernel
  have hA : ∀ q : Nat, s.heap.size ≤ q → A q := hA0
  obtain ⟨g, LP, pf, hP, hD, hG, lad, pad⟩ := hC
  obtain ⟨kd, hkd⟩ := va_pl_get (X := wC t h tx g S) (f := pf) lad
  rw [pad] at hkd
  have hS : va_S A s.heap s.heap [] := va_S.rf
  have hl := lv_entry ([.ref (h 24), .ref a]) (n := 2) (Nat.le_of_ble_eq_true rfl)
  rw [show entryFrame m args 2 = entryFrame m ([.ref (h 24), .ref a] : List Value).toArray 2 from by rw [hargs], lg_entry_eq]
  generalize (lg_sl ([.ref (h 24), .ref a]) ++ List.replicate (2 - (lg_sl ([.ref (h 24), .ref a])).length) Slot.unset).toArray = ls at hl ⊢
  have hl : lv_has ls 2 [(0, .ref (h 24)), (1, .ref a)] := hl
  unfold f_X1_addPorter_24_d at hf
  refine lv_aload_n hx hb dX1_addPorter_0 rfl (lv_at hl 0 rfl) ?_
  refine va_get (D := (dC, dI)) (ci := 1) (v := .int (S.1 3406 0)) (C := RX1) (T := TX1) (N := 10) hx hb hts hin1 hown hK hP 24 rfl rfl 6 (by decide) (hts _ lk56_1) (fun _ h9 => h9) rfl dX1_addPorter_1 ?_
  refine lv_bipush (v := 6) hx hb dX1_addPorter_4 (by decide) ?_
  refine lv_icmp_ge (tgt := 29) hx hb dX1_addPorter_6 (by decide) (fun c4 => ?_) (fun c4 => ?_)
  · have hf := (if_pos c4).symm.trans hf
    exact rtCv hx hb hr hlocks ⟨g, LP, pf, hP, hD, hG⟩ hS hf dX1_addPorter_29
  · have hf := (if_neg c4).symm.trans hf
    refine lv_aload_n hx hb dX1_addPorter_9 rfl (lv_at hl 0 rfl) ?_
    refine va_get (D := (dC, dI)) (ci := 1) (v := .ref (h 25)) (C := RX1) (T := TX1) (N := 10) hx hb hts hin1 hown hK hP 24 rfl rfl 0 (by decide) (hts _ lk11_1) (fun _ h9 => h9) rfl dX1_addPorter_10 ?_
    refine lv_aload_n hx hb dX1_addPorter_13 rfl (lv_at hl 0 rfl) ?_
    refine va_get (D := (dC, dI)) (ci := 1) (v := .int (S.1 3406 0)) (C := RX1) (T := TX1) (N := 10) hx hb hts hin1 hown hK hP 24 rfl rfl 6 (by decide) (hts _ lk56_1) (fun _ h9 => h9) rfl dX1_addPorter_14 ?_
    refine lv_aload_n hx hb dX1_addPorter_17 rfl (lv_at hl 1 rfl) ?_
    obtain ⟨S1, hiS1, eS1, hf⟩ := wrP_b hf
    refine asPd (d := d) hx hb hE.1 hK hP hD hS 25 4 rfl rfl hkd hiS1 dX1_addPorter_18 (fun H locs hP hD hS => ?_)
    have hG := hG.set (c := 3) (i := (S.1 3406 0).toNatClampNeg) lad pad
    rw [← eS1] at hG
    obtain ⟨g2, eg2⟩ : ∃ z, z = va_up g 3 (va_up (g 3) (S.1 3406 0).toNatClampNeg (some a)) := ⟨_, rfl⟩
    have hP : va_P (dC, dI) vwCl (wC t h tx g2 S1 ++ va_pl LP pf) H := by rw [eS1, eg2]; exact hP
    have hD : va_D A (wC t h tx g2 S1 ++ va_pl LP pf) := by rw [eS1, eg2]; exact hD
    rw [← eg2] at hG
    clear eg2
    generalize g2 = g at hP hD hG
    refine lv_aload_n hx hb dX1_addPorter_19 rfl (lv_at hl 0 rfl) ?_
    refine lv_dup hx hb dX1_addPorter_20 rfl ?_
    refine va_get (D := (dC, dI)) (ci := 1) (v := .int (S1.1 3406 0)) (C := RX1) (T := TX1) (N := 10) hx hb hts hin1 hown hK hP 24 rfl rfl 6 (by decide) (hts _ lk56_1) (fun _ h9 => h9) rfl dX1_addPorter_21 ?_
    refine lv_iconst (v := 1) hx hb dX1_addPorter_24 (by decide) ?_
    refine lv_iadd hx hb dX1_addPorter_25 ?_
    obtain ⟨S3, eS3, hf⟩ := bn hf
    refine va_put (D := (dC, dI)) (ci := 1) (v := .int ((S1.1 3406 0) + 1)) (ty := .int) (C := RX1) (T := TX1) (N := 10) hx hb hts hin1 tyX1 tyX1_ok nmX1 hown hK hP hD hS 24 rfl rfl 6 (by decide) (hts _ lk56_1) (fun _ h9 => h9) rfl (by decide +kernel) rfl rfl (Nat.le_of_ble_eq_true rfl) dX1_addPorter_26 (fun H locs hP hD hS => ?_)
    have hP : va_P (dC, dI) vwCl (wC t h tx g S3 ++ va_pl LP pf) H := by rw [eS3]; exact hP
    have hD : va_D A (wC t h tx g S3 ++ va_pl LP pf) := by rw [eS3]; exact hD
    have hG : rlC g LP pf S3 := by rw [eS3]; exact hG
    exact rtCv hx hb hr hlocks ⟨g, LP, pf, hP, hD, hG⟩ hS hf dX1_addPorter_29

def b_X8_takesPorter_31_20 (y2 : Int32) (S3 : CS) : Option ((Int32 × CS) ⊕ (Int32 × CS)) :=
  (if 4 ≤ y2 then (Option.bind (rdI 4 (S3.1 32) 0) (fun x4 => Option.bind (rdI 4 (S3.1 32) 1) (fun x5 => Option.bind (rdI 4 (S3.1 32) 2) (fun x6 => Option.bind (rdI 4 (S3.1 32) 3) (fun x7 => Option.bind (f_X1_addPorter_24_d S3 (x4, x5, x6, x7)) (fun S9 => some (Sum.inr ((1, S9))))))))) else (Option.bind (wrI S3 32 4 y2 (S3.1 4107 0)) (fun S10 => Option.bind (rdI 4 (ssI 4) y2) (fun x11 => Option.bind (rdI 4 (ssI 5) y2) (fun x12 => bi2 (f_X8_takesIfIn_31 S10 x11 x12) (fun r13 S14 => (if r13 = 0 then (some (Sum.inr ((0, S14)))) else (Option.bind (some (y2 + 1)) (fun x15 => some (Sum.inl (x15, S14)))))))))))
def f_X8_takesPorter_31 (S : CS)  : Option (Int32 × CS) :=
  (if (S.1 3406 0) < 6 then (Option.bind (f_X8_nextToken_31 S) (fun S1 => lp (fun s => b_X8_takesPorter_31_20 s.1 s.2) FU (0, S1))) else (some ((0, S))))
def rmX8_takesPorter_31 : Room := { frames := 5, cells := 1, slots := 4, locals := 107 }
abbrev RRX8_takesPorter_31 : Room := (headSpec wsX8_takesPorter rmX8_takesPorter_31).room
theorem in1_X8_takesPorter_31 : ∀ w ∈ wsX10, w ∈ wsX8_takesPorter := by decide +kernel
theorem in8_X8_takesPorter_31 : ∀ w ∈ wsX80, w ∈ wsX8_takesPorter := by decide +kernel
set_option maxHeartbeats 4000000 in
set_option maxRecDepth 100000 in
theorem c_X8_takesPorter_31 (l : Launch) (dC : Nat → ClassId) (dI : Nat → Nat → Nat) (t : Nat → ClassId) (ts aK aV : Nat → Nat) (A : Nat → Prop) (h : Nat → Nat) (sz : Nat) (hA0 : ∀ q : Nat, sz ≤ q → A q) (S : CS)  (r : Int32) (S' : CS) (hf : f_X8_takesPorter_31 S = some (r, S')) : cCi l yX8_takesPorter wsX8_takesPorter rmX8_takesPorter_31 dC dI t ts aK aV A h (h 8) (h 8) sz [.ref (h 31)] S r S' := by
  refine Met.ofW (cc := cX8_takesPorter) (maxL := 2) (ret := (some .boolean)) (by decide) rfl ?_
  intro p e s m args below meth c s₁ B hml hv
  obtain ⟨hargs, hsz, hE, hC, hK⟩ := hv
  have hx := B.exec
  have hb := B.bytes
  have hr := B.returns
  have hts := atoms_spec (ws := wsX8_takesPorter) B.pre
  have hown : s.vm.findClass RX8 = some m.cls := findClass_of_methodNamed B.named
  have hlocks := B.notSynchronized
  have hsz : s.heap.size = sz := hsz
  subst hsz
  have hin1 := in1_X8_takesPorter_31
  have hin8 := in8_X8_takesPorter_31
  have lk12_8 : Cond.fieldLink RX8 12 (TX8 0).1 (TX8 0).2.1 (TX8 0).2.2.1 ∈ wsX8_takesPorter := by decide +kernel
  have lk22_8 : Cond.fieldLink RX8 22 (TX8 1).1 (TX8 1).2.1 (TX8 1).2.2.1 ∈ wsX8_takesPorter := by decide +kernel
  have lk75_1 : Cond.fieldLink RX8 75 (TX1 6).1 (TX1 6).2.1 (TX1 6).2.2.1 ∈ wsX8_takesPorter := by decide +kernel
  have lk78_8 : Cond.fieldLink RX8 78 (TX8 7).1 (TX8 7).2.1 (TX8 7).2.2.1 ∈ wsX8_takesPorter := by decide +kernel
  have hA : ∀ q : Nat, s.heap.size ≤ q → A q := hA0
  obtain ⟨g, LP, pf, hP, hD, hG⟩ := hC
  have hS : va_S A s.heap s.heap [] := va_S.rf
  have hl := lv_entry ([.ref (h 31)]) (n := 2) (Nat.le_of_ble_eq_true rfl)
  rw [show entryFrame m args 2 = entryFrame m ([.ref (h 31)] : List Value).toArray 2 from by rw [hargs], lg_entry_eq]
  generalize (lg_sl ([.ref (h 31)]) ++ List.replicate (2 - (lg_sl ([.ref (h 31)])).length) Slot.unset).toArray = ls at hl ⊢
  have hl : lv_has ls 2 [(0, .ref (h 31))] := hl
  unfold f_X8_takesPorter_31 at hf
  refine lv_aload_n hx hb dX8_takesPorter_0 rfl (lv_at hl 0 rfl) ?_
  refine va_get (D := (dC, dI)) (ci := 8) (v := .ref (h 24)) (C := RX8) (T := TX8) (N := 9) hx hb hts hin8 hown hK hP 31 rfl rfl 0 (by decide) (hts _ lk12_8) (fun _ h9 => h9) rfl dX8_takesPorter_1 ?_
  refine va_get (D := (dC, dI)) (ci := 1) (v := .int (S.1 3406 0)) (C := RX1) (T := TX1) (N := 10) hx hb hts hin1 hown hK hP 24 rfl rfl 6 (by decide) (hts _ lk75_1) (fun _ h9 => h9) rfl dX8_takesPorter_4 ?_
  refine lv_bipush (v := 6) hx hb dX8_takesPorter_7 (by decide) ?_
  refine lv_icmp_lt (tgt := 14) hx hb dX8_takesPorter_9 (by decide) (fun c18 => ?_) (fun c18 => ?_)
  · have hf := (if_pos c18).symm.trans hf
    refine lv_aload_n hx hb dX8_takesPorter_14 rfl (lv_at hl 0 rfl) ?_
    obtain ⟨S1, eS1, hf⟩ := bd hf
    refine klCv (rest := []) (As := []) ⟨hx, hb, hml, hown, hts⟩ (c_X8_nextToken_31 l dC dI t ts aK aV A h s.heap.size (fun q hq => hA q (Nat.le_trans hS.1 hq)) S S1 eS1) (cwV 0 hts gX8_takesPorter_X8_nextToken rfl rfl rfl (by decide +kernel) ⟨Nat.le_of_ble_eq_true rfl, Nat.le_of_ble_eq_true rfl⟩) (va_recv hK hP (ci := 8) (q0 := 31) rfl rfl) rfl hl.1 rfl (Nat.le_of_ble_eq_true rfl) dX8_takesPorter_15 ⟨Nat.zero_le _, Nat.zero_le _⟩ hE hK ⟨g, LP, pf, hP, hD, hG⟩ hS (fun H locs hC hS => ?_)
    obtain ⟨g, LP, pf, hP, hD, hG⟩ := hC
    refine lv_iconst (v := 0) hx hb dX8_takesPorter_18 (by decide) ?_
    refine lv_istore_n (lv' := [(1, .int 0), (0, .ref (h 31))]) hx hb dX8_takesPorter_19 rfl hl (by decide) rfl (fun ls hl => ?_)
    have L20 : ∀ (n : Nat) (y2 : Int32) (S3 : CS) (g : Nat → Nat → Option Nat) (LP : List Nat) (pf : Nat → va_E) (H : Heap) (locs : List Loc) (ls : Array Slot), lp (fun s => b_X8_takesPorter_31_20 s.1 s.2) n (y2, S3) = some (r, S') → va_P (dC, dI) vwCl (wC t h (h 8) g S3 ++ va_pl LP pf) H → va_D A (wC t h (h 8) g S3 ++ va_pl LP pf) → rlC g LP pf S3 → va_S A s.heap H locs → lv_has ls 2 [(0, .ref (h 31)), (1, .int y2)] → W p l e RRX8_takesPorter_31 s m args below meth c H locs 0 0 (MQ below (qcCi dC dI t A h (h 8) r S') args s 1 4 A) (F0 m 20 ls []) := by
      intro n
      induction n with
      | zero => intro y2 S3 g LP pf H locs ls hf; exact lp_z hf
      | succ n ih20 =>
        intro y2 S3 g LP pf H locs ls hf hP hD hG hS hl
        obtain ⟨q20, hf, hq20⟩ := lp_i hf
        have hf : b_X8_takesPorter_31_20 y2 S3 = some q20 := hf
        unfold b_X8_takesPorter_31_20 at hf
        refine lv_iload_n hx hb dX8_takesPorter_20 rfl (lv_at hl 1 rfl) ?_
        refine lv_aload_n hx hb dX8_takesPorter_21 rfl (lv_at hl 0 rfl) ?_
        refine va_get (D := (dC, dI)) (ci := 8) (v := .ref (h 32)) (C := RX8) (T := TX8) (N := 9) hx hb hts hin8 hown hK hP 31 rfl rfl 1 (by decide) (hts _ lk22_8) (fun _ h9 => h9) rfl dX8_takesPorter_22 ?_
        refine va_alen (v := 4) hx hb hK hP 32 0 rfl rfl rfl dX8_takesPorter_25 ?_
        refine lv_icmp_ge (tgt := 64) hx hb dX8_takesPorter_26 (by decide) (fun c17 => ?_) (fun c17 => ?_)
        · have hf := (if_pos c17).symm.trans hf
          refine lv_aload_n hx hb dX8_takesPorter_64 rfl (lv_at hl 0 rfl) ?_
          refine va_get (D := (dC, dI)) (ci := 8) (v := .ref (h 24)) (C := RX8) (T := TX8) (N := 9) hx hb hts hin8 hown hK hP 31 rfl rfl 0 (by decide) (hts _ lk12_8) (fun _ h9 => h9) rfl dX8_takesPorter_65 ?_
          refine lv_aload_n hx hb dX8_takesPorter_68 rfl (lv_at hl 0 rfl) ?_
          refine va_get (D := (dC, dI)) (ci := 8) (v := .ref (h 32)) (C := RX8) (T := TX8) (N := 9) hx hb hts hin8 hown hK hP 31 rfl rfl 1 (by decide) (hts _ lk22_8) (fun _ h9 => h9) rfl dX8_takesPorter_69 ?_
          refine lv_iconst (v := 0) hx hb dX8_takesPorter_72 (by decide) ?_
          obtain ⟨x4, hix4, ex4, hf⟩ := rd_b hf
          refine va_iald hx hb hK hP 32 0 rfl rfl hix4 dX8_takesPorter_73 (kI ex4 ?_)
          refine lv_aload_n hx hb dX8_takesPorter_74 rfl (lv_at hl 0 rfl) ?_
          refine va_get (D := (dC, dI)) (ci := 8) (v := .ref (h 32)) (C := RX8) (T := TX8) (N := 9) hx hb hts hin8 hown hK hP 31 rfl rfl 1 (by decide) (hts _ lk22_8) (fun _ h9 => h9) rfl dX8_takesPorter_75 ?_
          refine lv_iconst (v := 1) hx hb dX8_takesPorter_78 (by decide) ?_
          obtain ⟨x5, hix5, ex5, hf⟩ := rd_b hf
          refine va_iald hx hb hK hP 32 0 rfl rfl hix5 dX8_takesPorter_79 (kI ex5 ?_)
          refine lv_aload_n hx hb dX8_takesPorter_80 rfl (lv_at hl 0 rfl) ?_
          refine va_get (D := (dC, dI)) (ci := 8) (v := .ref (h 32)) (C := RX8) (T := TX8) (N := 9) hx hb hts hin8 hown hK hP 31 rfl rfl 1 (by decide) (hts _ lk22_8) (fun _ h9 => h9) rfl dX8_takesPorter_81 ?_
          refine lv_iconst (v := 2) hx hb dX8_takesPorter_84 (by decide) ?_
          obtain ⟨x6, hix6, ex6, hf⟩ := rd_b hf
          refine va_iald hx hb hK hP 32 0 rfl rfl hix6 dX8_takesPorter_85 (kI ex6 ?_)
          refine lv_aload_n hx hb dX8_takesPorter_86 rfl (lv_at hl 0 rfl) ?_
          refine va_get (D := (dC, dI)) (ci := 8) (v := .ref (h 32)) (C := RX8) (T := TX8) (N := 9) hx hb hts hin8 hown hK hP 31 rfl rfl 1 (by decide) (hts _ lk22_8) (fun _ h9 => h9) rfl dX8_takesPorter_87 ?_
          refine lv_iconst (v := 3) hx hb dX8_takesPorter_90 (by decide) ?_
          obtain ⟨x7, hix7, ex7, hf⟩ := rd_b hf
          refine va_iald hx hb hK hP 32 0 rfl rfl hix7 dX8_takesPorter_91 (kI ex7 ?_)
          refine klCnN (rest := [.ref (h 24)]) (As := [.int x4, .int x5, .int x6, .int x7]) ⟨hx, hb, hml, hown, hts⟩ (c_X10_newPorter l dC dI t ts aK aV A h (h 8) H.size (fun q hq => hA q (Nat.le_trans hS.1 hq)) S3 x4 x5 x6 x7) ⟨va_cnB 4 hts gX8_takesPorter_X10_newPorter_n88 rfl rfl rfl (hE.1.1 ("OnlyTwo$Reader", 88, ⟨"OnlyTwo", "newPorter", "(IIII)LOnlyTwo$Plain;"⟩, "OnlyTwo") (by decide +kernel)) (hts (.initialized RX10) (by decide +kernel)) (by decide +kernel) ⟨Nat.le_of_ble_eq_true rfl, Nat.le_of_ble_eq_true rfl⟩, hts (.static yX10_newPorter) (by decide +kernel), trivial⟩ rfl hl.1 rfl (Nat.le_of_ble_eq_true rfl) dX8_takesPorter_92 ⟨Nat.le_of_ble_eq_true rfl, Nat.le_of_ble_eq_true rfl⟩ hE hK ⟨g, LP, pf, hP, hD, hG⟩ hS (fun a8 H locs hC hS => ?_)
          obtain ⟨g, LP, pf, hP, hD, hG, laa8, paa8⟩ := hC
          refine W.widen (k := 1) (n := 4) (Nat.le_of_ble_eq_true rfl) (Nat.le_of_ble_eq_true rfl) ?_
          obtain ⟨S9, eS9, hf⟩ := bd hf
          refine klCpv (rest := []) (As := [.ref a8]) ⟨hx, hb, hml, hown, hts⟩ (c_X1_addPorter_24_d l dC dI t ts aK aV A h (h 8) H.size (fun q hq => hA q (Nat.le_trans hS.1 hq)) S3 a8 (x4, x5, x6, x7) S9 eS9) (cwV 1 hts gX8_takesPorter_X1_addPorter rfl rfl rfl (by decide +kernel) ⟨Nat.le_of_ble_eq_true rfl, Nat.le_of_ble_eq_true rfl⟩) (va_recv hK hP (ci := 1) (q0 := 24) rfl rfl) rfl hl.1 rfl (Nat.le_of_ble_eq_true rfl) dX8_takesPorter_95 ⟨Nat.le_of_ble_eq_true rfl, Nat.le_of_ble_eq_true rfl⟩ hE hK ⟨g, LP, pf, hP, hD, hG, laa8, paa8⟩ hS (fun H locs hC hS => ?_)
          obtain ⟨g, LP, pf, hP, hD, hG⟩ := hC
          refine lv_iconst (v := 1) hx hb dX8_takesPorter_98 (by decide) ?_
          have hf := lp_r hf hq20
          exact rtCz hx hb hr hlocks ⟨g, LP, pf, hP, hD, hG⟩ hS rfl hf dX8_takesPorter_99
        · have hf := (if_neg c17).symm.trans hf
          refine lv_aload_n hx hb dX8_takesPorter_29 rfl (lv_at hl 0 rfl) ?_
          refine va_get (D := (dC, dI)) (ci := 8) (v := .ref (h 32)) (C := RX8) (T := TX8) (N := 9) hx hb hts hin8 hown hK hP 31 rfl rfl 1 (by decide) (hts _ lk22_8) (fun _ h9 => h9) rfl dX8_takesPorter_30 ?_
          refine lv_iload_n hx hb dX8_takesPorter_33 rfl (lv_at hl 1 rfl) ?_
          refine lv_aload_n hx hb dX8_takesPorter_34 rfl (lv_at hl 0 rfl) ?_
          refine va_get (D := (dC, dI)) (ci := 8) (v := .int (S3.1 4107 0)) (C := RX8) (T := TX8) (N := 9) hx hb hts hin8 hown hK hP 31 rfl rfl 7 (by decide) (hts _ lk78_8) (fun _ h9 => h9) rfl dX8_takesPorter_35 ?_
          obtain ⟨S10, hiS10, eS10, hf⟩ := wrI_b hf
          refine va_iast hx hb hK hP hD hS 32 0 rfl rfl hiS10 dX8_takesPorter_38 (fun H locs hP hD hS => ?_)
          have hP : va_P (dC, dI) vwCl (wC t h (h 8) g S10 ++ va_pl LP pf) H := by rw [eS10]; exact hP
          have hD : va_D A (wC t h (h 8) g S10 ++ va_pl LP pf) := by rw [eS10]; exact hD
          have hG : rlC g LP pf S10 := by rw [eS10]; exact hG
          refine lv_aload_n hx hb dX8_takesPorter_39 rfl (lv_at hl 0 rfl) ?_
          refine va_getsN hx hb hE.2.2.2.2.2.1.1 hS hown (va_Nw.use rfl (hE.1.2.1 ("OnlyTwo$Reader", 18, "OnlyTwo", "LOWEST_OF_PORTER", "[I", "OnlyTwo") (by decide +kernel))) (fun _ h9 => h9) dX8_takesPorter_40 ?_
          refine lv_iload_n hx hb dX8_takesPorter_43 rfl (lv_at hl 1 rfl) ?_
          obtain ⟨x11, hix11, ex11, hf⟩ := rd_b hf
          refine va_ti hx hb hE.2.2.2.2.2.1.2 hS hix11 rfl dX8_takesPorter_44 (kI ex11 ?_)
          refine va_getsN hx hb hE.2.2.2.2.2.2.1.1 hS hown (va_Nw.use rfl (hE.1.2.1 ("OnlyTwo$Reader", 81, "OnlyTwo", "HIGHEST_OF_PORTER", "[I", "OnlyTwo") (by decide +kernel))) (fun _ h9 => h9) dX8_takesPorter_45 ?_
          refine lv_iload_n hx hb dX8_takesPorter_48 rfl (lv_at hl 1 rfl) ?_
          obtain ⟨x12, hix12, ex12, hf⟩ := rd_b hf
          refine va_ti hx hb hE.2.2.2.2.2.2.1.2 hS hix12 rfl dX8_takesPorter_49 (kI ex12 ?_)
          obtain ⟨r13, S14, er13, hf⟩ := b2 hf
          refine klCi (rest := []) (As := [.int x11, .int x12]) ⟨hx, hb, hml, hown, hts⟩ (c_X8_takesIfIn_31 l dC dI t ts aK aV A h H.size (fun q hq => hA q (Nat.le_trans hS.1 hq)) S10 x11 x12 r13 S14 er13) (cwV 2 hts gX8_takesPorter_X8_takesIfIn rfl rfl rfl (by decide +kernel) ⟨Nat.le_of_ble_eq_true rfl, Nat.le_of_ble_eq_true rfl⟩) (va_recv hK hP (ci := 8) (q0 := 31) rfl rfl) rfl hl.1 rfl (Nat.le_of_ble_eq_true rfl) dX8_takesPorter_50 ⟨Nat.zero_le _, Nat.zero_le _⟩ hE hK ⟨g, LP, pf, hP, hD, hG⟩ hS (fun H locs hC hS => ?_)
          obtain ⟨g, LP, pf, hP, hD, hG⟩ := hC
          refine lv_if_ne (tgt := 58) hx hb dX8_takesPorter_53 (by decide) (fun c16 => ?_) (fun c16 => ?_)
          · have hf := (if_neg c16).symm.trans hf
            obtain ⟨x15, ex15, hf⟩ := bn hf
            refine lv_iinc (v := x15) (lv' := [(1, .int x15), (0, .ref (h 31))]) hx hb dX8_takesPorter_58 hl (k := 1) rfl (by rw [ex15]; rfl) (by decide) rfl (fun ls hl => ?_)
            refine lv_goto (tgt := 20) hx hb dX8_takesPorter_61 (by decide) ?_
            exact ih20 x15 S14 _ _ _ _ _ _ (lp_l hf hq20) hP hD hG hS (lv_sub hl [1, 0] rfl)
          · have hf := (if_pos c16).symm.trans hf
            refine lv_iconst (v := 0) hx hb dX8_takesPorter_56 (by decide) ?_
            have hf := lp_r hf hq20
            refine W.widen (k := 1) (n := 4) (show 0 ≤ 1 from by omega) (show 0 ≤ 4 from by omega) ?_
            exact rtCz hx hb hr hlocks ⟨g, LP, pf, hP, hD, hG⟩ hS rfl hf dX8_takesPorter_57
    exact L20 FU 0 S1 _ _ _ _ _ _ hf hP hD hG hS (lv_sub hl [1, 0] rfl)
  · have hf := (if_neg c18).symm.trans hf
    refine lv_iconst (v := 0) hx hb dX8_takesPorter_12 (by decide) ?_
    refine W.widen (k := 1) (n := 4) (show 0 ≤ 1 from by omega) (show 0 ≤ 4 from by omega) ?_
    exact rtCz hx hb hr hlocks ⟨g, LP, pf, hP, hD, hG⟩ hS rfl hf dX8_takesPorter_13

def j_X8_faultOf_31_3_95 (y6 : Int32) (k9 : Int32) (S10 : CS) : Option ((Int32 × CS) ⊕ (Int32 × CS)) :=
  (if k9 = 0 then (some (Sum.inr ((S10.1 4106 0, S10)))) else ((if (S10.1 4105 0) = 3 then (Option.bind (f_X8_nextToken_31 S10) (fun S11 => Option.bind (some (y6 + 1)) (fun x12 => some (Sum.inl (x12, S11))))) else (some (Sum.inr ((S10.1 4106 0, S10)))))))
def b_X8_faultOf_31_3_47 (y6 : Int32) (S7 : CS) : Option ((Int32 × CS) ⊕ (Int32 × CS)) :=
  (if 200 ≤ y6 then (some (Sum.inr (((-1), S7)))) else ((if (S7.1 4105 0) = 0 then (some (Sum.inr (((-1), S7)))) else (Option.bind (f_X8_wordAtToken_31 S7) (fun r8 => (if r8 = 4 then (bi2 (f_X8_takesPorter_31 S7) (fun r20 S21 => j_X8_faultOf_31_3_95 y6 r20 S21)) else ((if r8 = 5 then (bi2 (f_X8_takesGo_31 S7) (fun r17 S18 => j_X8_faultOf_31_3_95 y6 r17 S18)) else (bi2 (f_X8_takesNumber_31 S7 r8) (fun r15 S16 => j_X8_faultOf_31_3_95 y6 r15 S16))))))))))
def f_X8_faultOf_31_3 (S : CS)  : Option (Int32 × CS) :=
  Option.bind (some (siI S 4103 (fun _ => if 200 < (S.1 1308 0) then 200 else (S.1 1308 0)))) (fun S1 => Option.bind (some (siI S1 4104 (fun _ => 0))) (fun S2 => Option.bind (some (siI S2 4108 (fun _ => 0))) (fun S3 => Option.bind (f_X1_forgetDay_24 S3) (fun S4 => Option.bind (f_X8_nextToken_31 S4) (fun S5 => lp (fun s => b_X8_faultOf_31_3_47 s.1 s.2) FA (0, S5))))))
def rmX8_faultOf_31_3 : Room := { frames := 6, cells := 201, slots := 804, locals := 128 }
abbrev RRX8_faultOf_31_3 : Room := (headSpec wsX8_faultOf rmX8_faultOf_31_3).room
theorem in1_X8_faultOf_31_3 : ∀ w ∈ wsX10, w ∈ wsX8_faultOf := by decide +kernel
theorem in8_X8_faultOf_31_3 : ∀ w ∈ wsX80, w ∈ wsX8_faultOf := by decide +kernel
set_option maxHeartbeats 4000000 in
set_option maxRecDepth 100000 in
theorem c_X8_faultOf_31_3 (l : Launch) (dC : Nat → ClassId) (dI : Nat → Nat → Nat) (t : Nat → ClassId) (ts aK aV : Nat → Nat) (A : Nat → Prop) (h : Nat → Nat) (tx : Nat) (sz : Nat) (hA0 : ∀ q : Nat, sz ≤ q → A q) (S : CS)  (r : Int32) (S' : CS) (hf : f_X8_faultOf_31_3 S = some (r, S')) : cCi l yX8_faultOf wsX8_faultOf rmX8_faultOf_31_3 dC dI t ts aK aV A h tx (h 8) sz [.ref (h 31), .ref (h 3)] S r S' := by
  refine Met.ofW (cc := cX8_faultOf) (maxL := 5) (ret := (some .int)) (by decide) rfl ?_
  intro p e s m args below meth c s₁ B hml hv
  obtain ⟨hargs, hsz, hE, hC, hK⟩ := hv
  have hx := B.exec
  have hb := B.bytes
  have hr := B.returns
  have hts := atoms_spec (ws := wsX8_faultOf) B.pre
  have hown : s.vm.findClass RX8 = some m.cls := findClass_of_methodNamed B.named
  have hlocks := B.notSynchronized
  have hsz : s.heap.size = sz := hsz
  subst hsz
  have hin1 := in1_X8_faultOf_31_3
  have hin8 := in8_X8_faultOf_31_3
  have lk12_8 : Cond.fieldLink RX8 12 (TX8 0).1 (TX8 0).2.1 (TX8 0).2.2.1 ∈ wsX8_faultOf := by decide +kernel
  have lk25_1 : Cond.fieldLink RX8 25 (TX1 4).1 (TX1 4).2.1 (TX1 4).2.2.1 ∈ wsX8_faultOf := by decide +kernel
  have lk28_8 : Cond.fieldLink RX8 28 (TX8 2).1 (TX8 2).2.1 (TX8 2).2.2.1 ∈ wsX8_faultOf := by decide +kernel
  have lk29_1 : Cond.fieldLink RX8 29 (TX1 8).1 (TX1 8).2.1 (TX1 8).2.2.1 ∈ wsX8_faultOf := by decide +kernel
  have lk39_8 : Cond.fieldLink RX8 39 (TX8 3).1 (TX8 3).2.1 (TX8 3).2.2.1 ∈ wsX8_faultOf := by decide +kernel
  have lk42_8 : Cond.fieldLink RX8 42 (TX8 4).1 (TX8 4).2.1 (TX8 4).2.2.1 ∈ wsX8_faultOf := by decide +kernel
  have lk45_8 : Cond.fieldLink RX8 45 (TX8 8).1 (TX8 8).2.1 (TX8 8).2.2.1 ∈ wsX8_faultOf := by decide +kernel
  have lk54_8 : Cond.fieldLink RX8 54 (TX8 5).1 (TX8 5).2.1 (TX8 5).2.2.1 ∈ wsX8_faultOf := by decide +kernel
  have lk72_8 : Cond.fieldLink RX8 72 (TX8 6).1 (TX8 6).2.1 (TX8 6).2.2.1 ∈ wsX8_faultOf := by decide +kernel
  have hA : ∀ q : Nat, s.heap.size ≤ q → A q := hA0
  obtain ⟨g, LP, pf, hP, hD, hG⟩ := hC
  have hS : va_S A s.heap s.heap [] := va_S.rf
  have hl := lv_entry ([.ref (h 31), .ref (h 3)]) (n := 5) (Nat.le_of_ble_eq_true rfl)
  rw [show entryFrame m args 5 = entryFrame m ([.ref (h 31), .ref (h 3)] : List Value).toArray 5 from by rw [hargs], lg_entry_eq]
  generalize (lg_sl ([.ref (h 31), .ref (h 3)]) ++ List.replicate (5 - (lg_sl ([.ref (h 31), .ref (h 3)])).length) Slot.unset).toArray = ls at hl ⊢
  have hl : lv_has ls 5 [(0, .ref (h 31)), (1, .ref (h 3))] := hl
  unfold f_X8_faultOf_31_3 at hf
  refine lv_aload_n hx hb dX8_faultOf_0 rfl (lv_at hl 0 rfl) ?_
  refine lv_aload_n hx hb dX8_faultOf_1 rfl (lv_at hl 1 rfl) ?_
  refine va_get (D := (dC, dI)) (ci := 1) (v := .ref (h 8)) (C := RX1) (T := TX1) (N := 10) hx hb hts hin1 hown hK hP 3 rfl rfl 4 (by decide) (hts _ lk25_1) (fun _ h9 => h9) rfl dX8_faultOf_2 ?_
  refine va_put (D := (dC, dI)) (ci := 8) (v := .ref (h 8)) (ty := .array .int) (C := RX8) (T := TX8) (N := 9) hx hb hts hin8 tyX8 tyX8_ok nmX8 hown hK hP hD hS 31 rfl rfl 2 (by decide) (hts _ lk28_8) (fun _ h9 => h9) rfl (by decide +kernel) rfl rfl (Nat.le_of_ble_eq_true rfl) dX8_faultOf_5 (fun H locs hP hD hS => ?_)
  have hP : va_P (dC, dI) vwCl (wC t h (h 8) g S ++ va_pl LP pf) H := hP
  have hD : va_D A (wC t h (h 8) g S ++ va_pl LP pf) := hD
  refine lv_aload_n hx hb dX8_faultOf_8 rfl (lv_at hl 0 rfl) ?_
  refine lv_aload_n hx hb dX8_faultOf_9 rfl (lv_at hl 1 rfl) ?_
  refine va_get (D := (dC, dI)) (ci := 1) (v := .int (S.1 1308 0)) (C := RX1) (T := TX1) (N := 10) hx hb hts hin1 hown hK hP 3 rfl rfl 8 (by decide) (hts _ lk29_1) (fun _ h9 => h9) rfl dX8_faultOf_10 ?_
  refine lv_aload_n hx hb dX8_faultOf_13 rfl (lv_at hl 0 rfl) ?_
  refine va_get (D := (dC, dI)) (ci := 8) (v := .ref (h 8)) (C := RX8) (T := TX8) (N := 9) hx hb hts hin8 hown hK hP 31 rfl rfl 2 (by decide) (hts _ lk28_8) (fun _ h9 => h9) rfl dX8_faultOf_14 ?_
  refine va_alen (v := 200) hx hb hK hP 8 0 rfl rfl rfl dX8_faultOf_17 ?_
  refine va_mmin hx hb (by rw [hml]; exact hl.1.symm) hown (hts (.methodLink RX8 33 Lib.Math.min.name) (by decide +kernel)) (hts (.static Lib.Math.min.name) (by decide +kernel)) (hts (.initialized "java/lang/Math") (by decide +kernel)) (hts (.code Lib.Math.min.name Lib.Math.min.code 2 (some .int)) (by decide +kernel)) (Nat.le_of_ble_eq_true rfl) (Nat.le_of_ble_eq_true rfl) (Nat.zero_le _) (Nat.zero_le _) dX8_faultOf_18 ?_
  obtain ⟨S1, eS1, hf⟩ := bn hf
  refine va_put (D := (dC, dI)) (ci := 8) (v := .int (if 200 < (S.1 1308 0) then 200 else (S.1 1308 0))) (ty := .int) (C := RX8) (T := TX8) (N := 9) hx hb hts hin8 tyX8 tyX8_ok nmX8 hown hK hP hD hS 31 rfl rfl 3 (by decide) (hts _ lk39_8) (fun _ h9 => h9) rfl (by decide +kernel) rfl rfl (Nat.le_of_ble_eq_true rfl) dX8_faultOf_21 (fun H locs hP hD hS => ?_)
  have hP : va_P (dC, dI) vwCl (wC t h (h 8) g S1 ++ va_pl LP pf) H := by rw [eS1]; exact hP
  have hD : va_D A (wC t h (h 8) g S1 ++ va_pl LP pf) := by rw [eS1]; exact hD
  have hG : rlC g LP pf S1 := by rw [eS1]; exact hG
  refine lv_aload_n hx hb dX8_faultOf_24 rfl (lv_at hl 0 rfl) ?_
  refine lv_iconst (v := 0) hx hb dX8_faultOf_25 (by decide) ?_
  obtain ⟨S2, eS2, hf⟩ := bn hf
  refine va_put (D := (dC, dI)) (ci := 8) (v := .int 0) (ty := .int) (C := RX8) (T := TX8) (N := 9) hx hb hts hin8 tyX8 tyX8_ok nmX8 hown hK hP hD hS 31 rfl rfl 4 (by decide) (hts _ lk42_8) (fun _ h9 => h9) rfl (by decide +kernel) rfl rfl (Nat.le_of_ble_eq_true rfl) dX8_faultOf_26 (fun H locs hP hD hS => ?_)
  have hP : va_P (dC, dI) vwCl (wC t h (h 8) g S2 ++ va_pl LP pf) H := by rw [eS2]; exact hP
  have hD : va_D A (wC t h (h 8) g S2 ++ va_pl LP pf) := by rw [eS2]; exact hD
  have hG : rlC g LP pf S2 := by rw [eS2]; exact hG
  refine lv_aload_n hx hb dX8_faultOf_29 rfl (lv_at hl 0 rfl) ?_
  refine lv_iconst (v := 0) hx hb dX8_faultOf_30 (by decide) ?_
  obtain ⟨S3, eS3, hf⟩ := bn hf
  refine va_put (D := (dC, dI)) (ci := 8) (v := .int 0) (ty := .int) (C := RX8) (T := TX8) (N := 9) hx hb hts hin8 tyX8 tyX8_ok nmX8 hown hK hP hD hS 31 rfl rfl 8 (by decide) (hts _ lk45_8) (fun _ h9 => h9) rfl (by decide +kernel) rfl rfl (Nat.le_of_ble_eq_true rfl) dX8_faultOf_31 (fun H locs hP hD hS => ?_)
  have hP : va_P (dC, dI) vwCl (wC t h (h 8) g S3 ++ va_pl LP pf) H := by rw [eS3]; exact hP
  have hD : va_D A (wC t h (h 8) g S3 ++ va_pl LP pf) := by rw [eS3]; exact hD
  have hG : rlC g LP pf S3 := by rw [eS3]; exact hG
  refine lv_aload_n hx hb dX8_faultOf_34 rfl (lv_at hl 0 rfl) ?_
  refine va_get (D := (dC, dI)) (ci := 8) (v := .ref (h 24)) (C := RX8) (T := TX8) (N := 9) hx hb hts hin8 hown hK hP 31 rfl rfl 0 (by decide) (hts _ lk12_8) (fun _ h9 => h9) rfl dX8_faultOf_35 ?_
  obtain ⟨S4, eS4, hf⟩ := bd hf
  refine klCv (rest := []) (As := []) ⟨hx, hb, hml, hown, hts⟩ (c_X1_forgetDay_24 l dC dI t ts aK aV A h (h 8) H.size (fun q hq => hA q (Nat.le_trans hS.1 hq)) S3 S4 eS4) (cwV 0 hts gX8_faultOf_X1_forgetDay rfl rfl rfl (by decide +kernel) ⟨Nat.le_of_ble_eq_true rfl, Nat.le_of_ble_eq_true rfl⟩) (va_recv hK hP (ci := 1) (q0 := 24) rfl rfl) rfl hl.1 rfl (Nat.le_of_ble_eq_true rfl) dX8_faultOf_38 ⟨Nat.zero_le _, Nat.zero_le _⟩ hE hK ⟨g, LP, pf, hP, hD, hG⟩ hS (fun H locs hC hS => ?_)
  obtain ⟨g, LP, pf, hP, hD, hG⟩ := hC
  refine lv_aload_n hx hb dX8_faultOf_41 rfl (lv_at hl 0 rfl) ?_
  obtain ⟨S5, eS5, hf⟩ := bd hf
  refine klCv (rest := []) (As := []) ⟨hx, hb, hml, hown, hts⟩ (c_X8_nextToken_31 l dC dI t ts aK aV A h H.size (fun q hq => hA q (Nat.le_trans hS.1 hq)) S4 S5 eS5) (cwV 0 hts gX8_faultOf_X8_nextToken rfl rfl rfl (by decide +kernel) ⟨Nat.le_of_ble_eq_true rfl, Nat.le_of_ble_eq_true rfl⟩) (va_recv hK hP (ci := 8) (q0 := 31) rfl rfl) rfl hl.1 rfl (Nat.le_of_ble_eq_true rfl) dX8_faultOf_42 ⟨Nat.zero_le _, Nat.zero_le _⟩ hE hK ⟨g, LP, pf, hP, hD, hG⟩ hS (fun H locs hC hS => ?_)
  obtain ⟨g, LP, pf, hP, hD, hG⟩ := hC
  refine lv_iconst (v := 0) hx hb dX8_faultOf_45 (by decide) ?_
  refine lv_istore_n (lv' := [(2, .int 0), (0, .ref (h 31)), (1, .ref (h 3))]) hx hb dX8_faultOf_46 rfl hl (by decide) rfl (fun ls hl => ?_)
  have L47 : ∀ (n : Nat) (y6 : Int32) (S7 : CS) (g : Nat → Nat → Option Nat) (LP : List Nat) (pf : Nat → va_E) (H : Heap) (locs : List Loc) (ls : Array Slot), n ≤ 201 → lp (fun s => b_X8_faultOf_31_3_47 s.1 s.2) n (y6, S7) = some (r, S') → va_P (dC, dI) vwCl (wC t h (h 8) g S7 ++ va_pl LP pf) H → va_D A (wC t h (h 8) g S7 ++ va_pl LP pf) → rlC g LP pf S7 → va_S A s.heap H locs → lv_has ls 5 [(0, .ref (h 31)), (2, .int y6)] → W p l e RRX8_faultOf_31_3 s m args below meth c H locs (201 - n) (4 * (201 - n)) (MQ below (qcCi dC dI t A h (h 8) r S') args s 201 804 A) (F0 m 47 ls []) := by
    intro n
    induction n with
    | zero => intro y6 S7 g LP pf H locs ls hn9 hf; exact lp_z hf
    | succ n ih47 =>
      intro y6 S7 g LP pf H locs ls hn9 hf hP hD hG hS hl
      obtain ⟨q47, hf, hq47⟩ := lp_i hf
      have hf : b_X8_faultOf_31_3_47 y6 S7 = some q47 := hf
      unfold b_X8_faultOf_31_3_47 at hf
      refine lv_iload_n hx hb dX8_faultOf_47 rfl (lv_at hl 1 rfl) ?_
      refine lv_sipush (v := 200) hx hb dX8_faultOf_48 (by decide) ?_
      refine lv_icmp_ge (tgt := 125) hx hb dX8_faultOf_51 (by decide) (fun c24 => ?_) (fun c24 => ?_)
      · have hf := (if_pos c24).symm.trans hf
        refine lv_iconst (v := (-1)) hx hb dX8_faultOf_125 (by decide) ?_
        have hf := lp_r hf hq47
        refine W.widen (k := 201) (n := 804) (show (201 - (n + 1)) ≤ 201 from by omega) (show (4 * (201 - (n + 1))) ≤ 804 from by omega) ?_
        exact rtCi hx hb hr hlocks ⟨g, LP, pf, hP, hD, hG⟩ hS hf dX8_faultOf_126
      · have hf := (if_neg c24).symm.trans hf
        refine lv_aload_n hx hb dX8_faultOf_54 rfl (lv_at hl 0 rfl) ?_
        refine va_get (D := (dC, dI)) (ci := 8) (v := .int (S7.1 4105 0)) (C := RX8) (T := TX8) (N := 9) hx hb hts hin8 hown hK hP 31 rfl rfl 5 (by decide) (hts _ lk54_8) (fun _ h9 => h9) rfl dX8_faultOf_55 ?_
        refine lv_if_eq (tgt := 125) hx hb dX8_faultOf_58 (by decide) (fun c23 => ?_) (fun c23 => ?_)
        · have hf := (if_pos c23).symm.trans hf
          refine lv_iconst (v := (-1)) hx hb dX8_faultOf_125 (by decide) ?_
          have hf := lp_r hf hq47
          refine W.widen (k := 201) (n := 804) (show (201 - (n + 1)) ≤ 201 from by omega) (show (4 * (201 - (n + 1))) ≤ 804 from by omega) ?_
          exact rtCi hx hb hr hlocks ⟨g, LP, pf, hP, hD, hG⟩ hS hf dX8_faultOf_126
        · have hf := (if_neg c23).symm.trans hf
          refine lv_aload_n hx hb dX8_faultOf_61 rfl (lv_at hl 0 rfl) ?_
          obtain ⟨r8, er8, hf⟩ := bd hf
          refine klCi (rest := []) (As := []) ⟨hx, hb, hml, hown, hts⟩ (c_X8_wordAtToken_31 l dC dI t ts aK aV A h H.size (fun q hq => hA q (Nat.le_trans hS.1 hq)) S7 r8 er8) (cwV 0 hts gX8_faultOf_X8_wordAtToken rfl rfl rfl (by decide +kernel) ⟨Nat.le_of_ble_eq_true rfl, Nat.le_of_ble_eq_true rfl⟩) (va_recv hK hP (ci := 8) (q0 := 31) rfl rfl) rfl hl.1 rfl (Nat.le_of_ble_eq_true rfl) dX8_faultOf_62 ⟨(show (201 - (n + 1)) + 0 ≤ 201 from by omega), (show (4 * (201 - (n + 1))) + 0 ≤ 804 from by omega)⟩ hE hK ⟨g, LP, pf, hP, hD, hG⟩ hS (fun H locs hC hS => ?_)
          obtain ⟨g, LP, pf, hP, hD, hG⟩ := hC
          refine lv_istore_n (lv' := [(3, .int r8), (0, .ref (h 31)), (2, .int y6)]) hx hb dX8_faultOf_65 rfl hl (by decide) rfl (fun ls hl => ?_)
          refine lv_iload_n hx hb dX8_faultOf_66 rfl (lv_at hl 0 rfl) ?_
          refine lv_iconst (v := 4) hx hb dX8_faultOf_67 (by decide) ?_
          have J95 : ∀ (k9 : Int32) (S10 : CS) (g : Nat → Nat → Option Nat) (LP : List Nat) (pf : Nat → va_E) (H : Heap) (locs : List Loc) (ls : Array Slot), j_X8_faultOf_31_3_95 y6 k9 S10 = some q47 → va_P (dC, dI) vwCl (wC t h (h 8) g S10 ++ va_pl LP pf) H → va_D A (wC t h (h 8) g S10 ++ va_pl LP pf) → rlC g LP pf S10 → va_S A s.heap H locs → lv_has ls 5 [(0, .ref (h 31)), (2, .int y6)] → W p l e RRX8_faultOf_31_3 s m args below meth c H locs (201 - n) (4 * (201 - n)) (MQ below (qcCi dC dI t A h (h 8) r S') args s 201 804 A) (F0 m 95 ls [.int k9]) := by
            intro k9 S10 g LP pf H locs ls hf hP hD hG hS hl
            unfold j_X8_faultOf_31_3_95 at hf
            refine lv_istore (lv' := [(4, .int k9), (0, .ref (h 31)), (2, .int y6)]) hx hb dX8_faultOf_95 hl (by decide) rfl (fun ls hl => ?_)
            refine lv_iload hx hb dX8_faultOf_97 (lv_at hl 0 rfl) ?_
            refine lv_if_eq (tgt := 110) hx hb dX8_faultOf_99 (by decide) (fun c14 => ?_) (fun c14 => ?_)
            · have hf := (if_pos c14).symm.trans hf
              refine lv_aload_n hx hb dX8_faultOf_110 rfl (lv_at hl 1 rfl) ?_
              refine va_get (D := (dC, dI)) (ci := 8) (v := .int (S10.1 4106 0)) (C := RX8) (T := TX8) (N := 9) hx hb hts hin8 hown hK hP 31 rfl rfl 6 (by decide) (hts _ lk72_8) (fun _ h9 => h9) rfl dX8_faultOf_111 ?_
              have hf := lp_r hf hq47
              refine W.widen (k := 201) (n := 804) (show (201 - n) ≤ 201 from by omega) (show (4 * (201 - n)) ≤ 804 from by omega) ?_
              exact rtCi hx hb hr hlocks ⟨g, LP, pf, hP, hD, hG⟩ hS hf dX8_faultOf_114
            · have hf := (if_neg c14).symm.trans hf
              refine lv_aload_n hx hb dX8_faultOf_102 rfl (lv_at hl 1 rfl) ?_
              refine va_get (D := (dC, dI)) (ci := 8) (v := .int (S10.1 4105 0)) (C := RX8) (T := TX8) (N := 9) hx hb hts hin8 hown hK hP 31 rfl rfl 5 (by decide) (hts _ lk54_8) (fun _ h9 => h9) rfl dX8_faultOf_103 ?_
              refine lv_iconst (v := 3) hx hb dX8_faultOf_106 (by decide) ?_
              refine lv_icmp_eq (tgt := 115) hx hb dX8_faultOf_107 (by decide) (fun c13 => ?_) (fun c13 => ?_)
              · have hf := (if_pos c13).symm.trans hf
                refine lv_aload_n hx hb dX8_faultOf_115 rfl (lv_at hl 1 rfl) ?_
                obtain ⟨S11, eS11, hf⟩ := bd hf
                refine klCv (rest := []) (As := []) ⟨hx, hb, hml, hown, hts⟩ (c_X8_nextToken_31 l dC dI t ts aK aV A h H.size (fun q hq => hA q (Nat.le_trans hS.1 hq)) S10 S11 eS11) (cwV 0 hts gX8_faultOf_X8_nextToken rfl rfl rfl (by decide +kernel) ⟨Nat.le_of_ble_eq_true rfl, Nat.le_of_ble_eq_true rfl⟩) (va_recv hK hP (ci := 8) (q0 := 31) rfl rfl) rfl hl.1 rfl (Nat.le_of_ble_eq_true rfl) dX8_faultOf_116 ⟨(show (201 - n) + 0 ≤ 201 from by omega), (show (4 * (201 - n)) + 0 ≤ 804 from by omega)⟩ hE hK ⟨g, LP, pf, hP, hD, hG⟩ hS (fun H locs hC hS => ?_)
                obtain ⟨g, LP, pf, hP, hD, hG⟩ := hC
                obtain ⟨x12, ex12, hf⟩ := bn hf
                refine lv_iinc (v := x12) (lv' := [(2, .int x12), (4, .int k9), (0, .ref (h 31))]) hx hb dX8_faultOf_119 hl (k := 2) rfl (by rw [ex12]; rfl) (by decide) rfl (fun ls hl => ?_)
                refine lv_goto (tgt := 47) hx hb dX8_faultOf_122 (by decide) ?_
                exact ih47 x12 S11 _ _ _ _ _ _ (by omega) (lp_l hf hq47) hP hD hG hS (lv_sub hl [2, 0] rfl)
              · have hf := (if_neg c13).symm.trans hf
                refine lv_aload_n hx hb dX8_faultOf_110 rfl (lv_at hl 1 rfl) ?_
                refine va_get (D := (dC, dI)) (ci := 8) (v := .int (S10.1 4106 0)) (C := RX8) (T := TX8) (N := 9) hx hb hts hin8 hown hK hP 31 rfl rfl 6 (by decide) (hts _ lk72_8) (fun _ h9 => h9) rfl dX8_faultOf_111 ?_
                have hf := lp_r hf hq47
                refine W.widen (k := 201) (n := 804) (show (201 - n) ≤ 201 from by omega) (show (4 * (201 - n)) ≤ 804 from by omega) ?_
                exact rtCi hx hb hr hlocks ⟨g, LP, pf, hP, hD, hG⟩ hS hf dX8_faultOf_114
          refine lv_icmp_ne (tgt := 78) hx hb dX8_faultOf_68 (by decide) (fun c22 => ?_) (fun c22 => ?_)
          · have hf := (if_neg c22).symm.trans hf
            refine lv_iload_n hx hb dX8_faultOf_78 rfl (lv_at hl 0 rfl) ?_
            refine lv_iconst (v := 5) hx hb dX8_faultOf_79 (by decide) ?_
            refine lv_icmp_ne (tgt := 90) hx hb dX8_faultOf_80 (by decide) (fun c19 => ?_) (fun c19 => ?_)
            · have hf := (if_neg c19).symm.trans hf
              refine lv_aload_n hx hb dX8_faultOf_90 rfl (lv_at hl 1 rfl) ?_
              refine lv_iload_n hx hb dX8_faultOf_91 rfl (lv_at hl 0 rfl) ?_
              obtain ⟨r15, S16, er15, hf⟩ := b2 hf
              refine klCi (rest := []) (As := [.int r8]) ⟨hx, hb, hml, hown, hts⟩ (c_X8_takesNumber_31 l dC dI t ts aK aV A h H.size (fun q hq => hA q (Nat.le_trans hS.1 hq)) S7 r8 r15 S16 er15) (cwV 1 hts gX8_faultOf_X8_takesNumber rfl rfl rfl (by decide +kernel) ⟨Nat.le_of_ble_eq_true rfl, Nat.le_of_ble_eq_true rfl⟩) (va_recv hK hP (ci := 8) (q0 := 31) rfl rfl) rfl hl.1 rfl (Nat.le_of_ble_eq_true rfl) dX8_faultOf_92 ⟨(show (201 - (n + 1)) + 0 ≤ 201 from by omega), (show (4 * (201 - (n + 1))) + 0 ≤ 804 from by omega)⟩ hE hK ⟨g, LP, pf, hP, hD, hG⟩ hS (fun H locs hC hS => ?_)
              obtain ⟨g, LP, pf, hP, hD, hG⟩ := hC
              refine W.widen (k := (201 - n)) (n := (4 * (201 - n))) (show (201 - (n + 1)) ≤ (201 - n) from by omega) (show (4 * (201 - (n + 1))) ≤ (4 * (201 - n)) from by omega) ?_
              exact J95 r15 S16 _ _ _ _ _ _ hf hP hD hG hS (lv_sub hl [1, 2] rfl)
            · have hf := (if_pos c19).symm.trans hf
              refine lv_aload_n hx hb dX8_faultOf_83 rfl (lv_at hl 1 rfl) ?_
              obtain ⟨r17, S18, er17, hf⟩ := b2 hf
              refine klCi (rest := []) (As := []) ⟨hx, hb, hml, hown, hts⟩ (c_X8_takesGo_31 l dC dI t ts aK aV A h H.size (fun q hq => hA q (Nat.le_trans hS.1 hq)) S7 r17 S18 er17) (cwV 0 hts gX8_faultOf_X8_takesGo rfl rfl rfl (by decide +kernel) ⟨Nat.le_of_ble_eq_true rfl, Nat.le_of_ble_eq_true rfl⟩) (va_recv hK hP (ci := 8) (q0 := 31) rfl rfl) rfl hl.1 rfl (Nat.le_of_ble_eq_true rfl) dX8_faultOf_84 ⟨(show (201 - (n + 1)) + 0 ≤ 201 from by omega), (show (4 * (201 - (n + 1))) + 0 ≤ 804 from by omega)⟩ hE hK ⟨g, LP, pf, hP, hD, hG⟩ hS (fun H locs hC hS => ?_)
              obtain ⟨g, LP, pf, hP, hD, hG⟩ := hC
              refine lv_goto (tgt := 95) hx hb dX8_faultOf_87 (by decide) ?_
              refine W.widen (k := (201 - n)) (n := (4 * (201 - n))) (show (201 - (n + 1)) ≤ (201 - n) from by omega) (show (4 * (201 - (n + 1))) ≤ (4 * (201 - n)) from by omega) ?_
              exact J95 r17 S18 _ _ _ _ _ _ hf hP hD hG hS (lv_sub hl [1, 2] rfl)
          · have hf := (if_pos c22).symm.trans hf
            refine lv_aload_n hx hb dX8_faultOf_71 rfl (lv_at hl 1 rfl) ?_
            obtain ⟨r20, S21, er20, hf⟩ := b2 hf
            refine klCi (rest := []) (As := []) ⟨hx, hb, hml, hown, hts⟩ (c_X8_takesPorter_31 l dC dI t ts aK aV A h H.size (fun q hq => hA q (Nat.le_trans hS.1 hq)) S7 r20 S21 er20) (cwV 0 hts gX8_faultOf_X8_takesPorter rfl rfl rfl (by decide +kernel) ⟨Nat.le_of_ble_eq_true rfl, Nat.le_of_ble_eq_true rfl⟩) (va_recv hK hP (ci := 8) (q0 := 31) rfl rfl) rfl hl.1 rfl (Nat.le_of_ble_eq_true rfl) dX8_faultOf_72 ⟨(show (201 - (n + 1)) + 1 ≤ 201 from by omega), (show (4 * (201 - (n + 1))) + 4 ≤ 804 from by omega)⟩ hE hK ⟨g, LP, pf, hP, hD, hG⟩ hS (fun H locs hC hS => ?_)
            obtain ⟨g, LP, pf, hP, hD, hG⟩ := hC
            refine W.widen (k := (201 - n)) (n := (4 * (201 - n))) (show (201 - (n + 1)) + 1 ≤ 201 - n from by omega) (show (4 * (201 - (n + 1))) + 4 ≤ 4 * (201 - n) from by omega) ?_
            refine lv_goto (tgt := 95) hx hb dX8_faultOf_75 (by decide) ?_
            exact J95 r20 S21 _ _ _ _ _ _ hf hP hD hG hS (lv_sub hl [1, 2] rfl)
  refine W.widen (k := 201 - 201) (n := 4 * (201 - 201)) (Nat.le_of_ble_eq_true rfl) (Nat.le_of_ble_eq_true rfl) ?_
  exact L47 FA 0 S5 _ _ _ _ _ _ (Nat.le_refl 201) hf hP hD hG hS (lv_sub hl [1, 0] rfl)

def f_X10_read_0 (S : CS)  : Option (Int32 × CS) :=
  bi2 (f_X8_faultOf_31_3 S) (fun r1 S2 => (if r1 = (-1) then (Option.bind (f_X10_changed_0 S2) (fun S3 => Option.bind (f_X1_takeDay_3_24 S3) (fun S4 => some ((S4.1 1307 0, S4))))) else (some (((-10) - r1, S2)))))
def rmX10_read_0 : Room := { frames := 7, cells := 201, slots := 804, locals := 152 }
abbrev RRX10_read_0 : Room := (headSpec wsX10_read rmX10_read_0).room
theorem in1_X10_read_0 : ∀ w ∈ wsX10, w ∈ wsX10_read := by decide +kernel
theorem in8_X10_read_0 : ∀ w ∈ wsX80, w ∈ wsX10_read := by decide +kernel
theorem in10_X10_read_0 : ∀ w ∈ wsX100, w ∈ wsX10_read := by decide +kernel
set_option maxHeartbeats 4000000 in
set_option maxRecDepth 100000 in
theorem c_X10_read_0 (l : Launch) (dC : Nat → ClassId) (dI : Nat → Nat → Nat) (t : Nat → ClassId) (ts aK aV : Nat → Nat) (A : Nat → Prop) (h : Nat → Nat) (tx : Nat) (sz : Nat) (hA0 : ∀ q : Nat, sz ≤ q → A q) (S : CS)  (r : Int32) (S' : CS) (hf : f_X10_read_0 S = some (r, S')) : cCi l yX10_read wsX10_read rmX10_read_0 dC dI t ts aK aV A h tx (h 8) sz [.ref (h 0)] S r S' := by
  refine Met.ofW (cc := cX10_read) (maxL := 2) (ret := (some .int)) (by decide) rfl ?_
  intro p e s m args below meth c s₁ B hml hv
  obtain ⟨hargs, hsz, hE, hC, hK⟩ := hv
  have hx := B.exec
  have hb := B.bytes
  have hr := B.returns
  have hts := atoms_spec (ws := wsX10_read) B.pre
  have hown : s.vm.findClass RX10 = some m.cls := findClass_of_methodNamed B.named
  have hlocks := B.notSynchronized
  have hsz : s.heap.size = sz := hsz
  subst hsz
  have hin1 := in1_X10_read_0
  have hin8 := in8_X10_read_0
  have hin10 := in10_X10_read_0
  have lk10_10 : Cond.fieldLink RX10 10 (TX10 0).1 (TX10 0).2.1 (TX10 0).2.2.1 ∈ wsX10_read := by decide +kernel
  have lk27_10 : Cond.fieldLink RX10 27 (TX10 3).1 (TX10 3).2.1 (TX10 3).2.2.1 ∈ wsX10_read := by decide +kernel
  have lk120_8 : Cond.fieldLink RX10 120 (TX8 0).1 (TX8 0).2.1 (TX8 0).2.2.1 ∈ wsX10_read := by decide +kernel
  have lk127_1 : Cond.fieldLink RX10 127 (TX1 7).1 (TX1 7).2.1 (TX1 7).2.2.1 ∈ wsX10_read := by decide +kernel
  have hA : ∀ q : Nat, s.heap.size ≤ q → A q := hA0
  obtain ⟨g, LP, pf, hP, hD, hG⟩ := hC
  have hS : va_S A s.heap s.heap [] := va_S.rf
  have hl := lv_entry ([.ref (h 0)]) (n := 2) (Nat.le_of_ble_eq_true rfl)
  rw [show entryFrame m args 2 = entryFrame m ([.ref (h 0)] : List Value).toArray 2 from by rw [hargs], lg_entry_eq]
  generalize (lg_sl ([.ref (h 0)]) ++ List.replicate (2 - (lg_sl ([.ref (h 0)])).length) Slot.unset).toArray = ls at hl ⊢
  have hl : lv_has ls 2 [(0, .ref (h 0))] := hl
  unfold f_X10_read_0 at hf
  refine lv_aload_n hx hb dX10_read_0 rfl (lv_at hl 0 rfl) ?_
  refine va_get (D := (dC, dI)) (ci := 10) (v := .ref (h 31)) (C := RX10) (T := TX10) (N := 9) hx hb hts hin10 hown hK hP 0 rfl rfl 3 (by decide) (hts _ lk27_10) (fun _ h9 => h9) rfl dX10_read_1 ?_
  refine lv_aload_n hx hb dX10_read_4 rfl (lv_at hl 0 rfl) ?_
  refine va_get (D := (dC, dI)) (ci := 10) (v := .ref (h 3)) (C := RX10) (T := TX10) (N := 9) hx hb hts hin10 hown hK hP 0 rfl rfl 0 (by decide) (hts _ lk10_10) (fun _ h9 => h9) rfl dX10_read_5 ?_
  obtain ⟨r1, S2, er1, hf⟩ := b2 hf
  refine klCi (rest := []) (As := [.ref (h 3)]) ⟨hx, hb, hml, hown, hts⟩ (c_X8_faultOf_31_3 l dC dI t ts aK aV A h tx s.heap.size (fun q hq => hA q (Nat.le_trans hS.1 hq)) S r1 S2 er1) (cwV 1 hts gX10_read_X8_faultOf rfl rfl rfl (by decide +kernel) ⟨Nat.le_of_ble_eq_true rfl, Nat.le_of_ble_eq_true rfl⟩) (va_recv hK hP (ci := 8) (q0 := 31) rfl rfl) rfl hl.1 rfl (Nat.le_of_ble_eq_true rfl) dX10_read_8 ⟨Nat.le_of_ble_eq_true rfl, Nat.le_of_ble_eq_true rfl⟩ hE hK ⟨g, LP, pf, hP, hD, hG⟩ hS (fun H locs hC hS => ?_)
  obtain ⟨g, LP, pf, hP, hD, hG⟩ := hC
  refine W.widen (k := 201) (n := 804) (Nat.le_of_ble_eq_true rfl) (Nat.le_of_ble_eq_true rfl) ?_
  refine lv_istore_n (lv' := [(1, .int r1), (0, .ref (h 0))]) hx hb dX10_read_11 rfl hl (by decide) rfl (fun ls hl => ?_)
  refine lv_iload_n hx hb dX10_read_12 rfl (lv_at hl 0 rfl) ?_
  refine lv_iconst (v := (-1)) hx hb dX10_read_13 (by decide) ?_
  refine lv_icmp_eq (tgt := 22) hx hb dX10_read_14 (by decide) (fun c5 => ?_) (fun c5 => ?_)
  · have hf := (if_pos c5).symm.trans hf
    refine lv_aload_n hx hb dX10_read_22 rfl (lv_at hl 1 rfl) ?_
    obtain ⟨S3, eS3, hf⟩ := bd hf
    refine klCv (rest := []) (As := []) ⟨hx, hb, hml, hown, hts⟩ (c_X10_changed_0 l dC dI t ts aK aV A h (h 8) H.size (fun q hq => hA q (Nat.le_trans hS.1 hq)) S2 S3 eS3) (cwV 0 hts gX10_read_X10_changed rfl rfl rfl (by decide +kernel) ⟨Nat.le_of_ble_eq_true rfl, Nat.le_of_ble_eq_true rfl⟩) (va_recv hK hP (ci := 10) (q0 := 0) rfl rfl) rfl hl.1 rfl (Nat.le_of_ble_eq_true rfl) dX10_read_23 ⟨Nat.le_of_ble_eq_true rfl, Nat.le_of_ble_eq_true rfl⟩ hE hK ⟨g, LP, pf, hP, hD, hG⟩ hS (fun H locs hC hS => ?_)
    obtain ⟨g, LP, pf, hP, hD, hG⟩ := hC
    refine lv_aload_n hx hb dX10_read_26 rfl (lv_at hl 1 rfl) ?_
    refine va_get (D := (dC, dI)) (ci := 10) (v := .ref (h 3)) (C := RX10) (T := TX10) (N := 9) hx hb hts hin10 hown hK hP 0 rfl rfl 0 (by decide) (hts _ lk10_10) (fun _ h9 => h9) rfl dX10_read_27 ?_
    refine lv_aload_n hx hb dX10_read_30 rfl (lv_at hl 1 rfl) ?_
    refine va_get (D := (dC, dI)) (ci := 10) (v := .ref (h 31)) (C := RX10) (T := TX10) (N := 9) hx hb hts hin10 hown hK hP 0 rfl rfl 3 (by decide) (hts _ lk27_10) (fun _ h9 => h9) rfl dX10_read_31 ?_
    refine va_get (D := (dC, dI)) (ci := 8) (v := .ref (h 24)) (C := RX8) (T := TX8) (N := 9) hx hb hts hin8 hown hK hP 31 rfl rfl 0 (by decide) (hts _ lk120_8) (fun _ h9 => h9) rfl dX10_read_34 ?_
    obtain ⟨S4, eS4, hf⟩ := bd hf
    refine klCv (rest := []) (As := [.ref (h 24)]) ⟨hx, hb, hml, hown, hts⟩ (c_X1_takeDay_3_24 l dC dI t ts aK aV A h (h 8) H.size (fun q hq => hA q (Nat.le_trans hS.1 hq)) S3 S4 eS4) (cwV 1 hts gX10_read_X1_takeDay rfl rfl rfl (by decide +kernel) ⟨Nat.le_of_ble_eq_true rfl, Nat.le_of_ble_eq_true rfl⟩) (va_recv hK hP (ci := 1) (q0 := 3) rfl rfl) rfl hl.1 rfl (Nat.le_of_ble_eq_true rfl) dX10_read_37 ⟨Nat.le_of_ble_eq_true rfl, Nat.le_of_ble_eq_true rfl⟩ hE hK ⟨g, LP, pf, hP, hD, hG⟩ hS (fun H locs hC hS => ?_)
    obtain ⟨g, LP, pf, hP, hD, hG⟩ := hC
    refine lv_aload_n hx hb dX10_read_40 rfl (lv_at hl 1 rfl) ?_
    refine va_get (D := (dC, dI)) (ci := 10) (v := .ref (h 3)) (C := RX10) (T := TX10) (N := 9) hx hb hts hin10 hown hK hP 0 rfl rfl 0 (by decide) (hts _ lk10_10) (fun _ h9 => h9) rfl dX10_read_41 ?_
    refine va_get (D := (dC, dI)) (ci := 1) (v := .int (S4.1 1307 0)) (C := RX1) (T := TX1) (N := 10) hx hb hts hin1 hown hK hP 3 rfl rfl 7 (by decide) (hts _ lk127_1) (fun _ h9 => h9) rfl dX10_read_44 ?_
    exact rtCi hx hb hr hlocks ⟨g, LP, pf, hP, hD, hG⟩ hS hf dX10_read_47
  · have hf := (if_neg c5).symm.trans hf
    refine lv_bipush (v := (-10)) hx hb dX10_read_17 (by decide) ?_
    refine lv_iload_n hx hb dX10_read_19 rfl (lv_at hl 0 rfl) ?_
    refine lv_isub hx hb dX10_read_20 ?_
    exact rtCi hx hb hr hlocks ⟨g, LP, pf, hP, hD, hG⟩ hS hf dX10_read_21
