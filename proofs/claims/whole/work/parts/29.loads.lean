def f_X5_giveLoadTo_40_3 (G : CS → Int32 → Int32 → Option CS) (S : CS) (p1 : Int32) (p2 : Int32) (p3 : Int32) : Option CS :=
  Option.bind (wrI S 42 5 p1 p3) (fun S1 => (if p3 = (-1) then (Option.bind (G S1 (p1 + 1) p2) (fun S9 => some S9)) else (Option.bind (rdI 6 (S1.1 43) p3) (fun x2 => Option.bind (rdI 5 (S1.1 9) p1) (fun x3 => Option.bind (wrI S1 43 6 p3 (x2 + x3)) (fun S4 => Option.bind (G S4 (p1 + 1) (p2 ||| (1 <<< (p3 &&& 31)))) (fun S5 => Option.bind (rdI 6 (S5.1 43) p3) (fun x6 => Option.bind (rdI 5 (S5.1 9) p1) (fun x7 => Option.bind (wrI S5 43 6 p3 (x6 - x7)) (fun S8 => some S8))))))))))
def rmLG (d : Nat) : Room := { frames := 10 + 2 * d, cells := 0, slots := 0, locals := 400 + 80 * d }
def rmLT (d : Nat) : Room := { frames := 11 + 2 * d, cells := 0, slots := 0, locals := 440 + 80 * d }

theorem in1_X5_giveLoadTo_40_3 : ∀ w ∈ wsX10, w ∈ wsX5_giveLoadTo := by decide +kernel
theorem in5_X5_giveLoadTo_40_3 : ∀ w ∈ wsX50, w ∈ wsX5_giveLoadTo := by decide +kernel
set_option maxHeartbeats 4000000 in
set_option maxRecDepth 100000 in
theorem c_X5_giveLoadTo_40_3 (l : Launch) (dC : Nat → ClassId) (dI : Nat → Nat → Nat) (t : Nat → ClassId) (ts aK aV : Nat → Nat) (A : Nat → Prop) (h : Nat → Nat) (tx : Nat) (sz : Nat) (hA0 : ∀ q : Nat, sz ≤ q → A q) (S : CS) (d : Nat) (G : CS → Int32 → Int32 → Option CS) (ih : ∀ (sz : Nat), (∀ q : Nat, sz ≤ q → A q) → ∀ (S : CS) (p1 p2 : Int32) (S' : CS), G S p1 p2 = some S' → cCv l yX5_giveLoad wsX5_giveLoad (rmLG d) dC dI t ts aK aV A h tx tx sz [.ref (h 40), .ref (h 3), .int p1, .int p2] S S') (p1 : Int32) (p2 : Int32) (p3 : Int32) (S' : CS) (hf : f_X5_giveLoadTo_40_3 G S p1 p2 p3 = some S') : cCv l yX5_giveLoadTo wsX5_giveLoadTo (rmLT d) dC dI t ts aK aV A h tx tx sz [.ref (h 40), .ref (h 3), .int p1, .int p2, .int p3] S S' := by
  refine Met.ofW (cc := cX5_giveLoadTo) (maxL := 5) (ret := none) (by decide) rfl ?_
  intro p e s m args below meth c s₁ B hml hv
  obtain ⟨hargs, hsz, hE, hC, hK⟩ := hv
  have hx := B.exec
  have hb := B.bytes
  have hr := B.returns
  have hts := atoms_spec (ws := wsX5_giveLoadTo) B.pre
  have hown : s.vm.findClass RX5 = some m.cls := findClass_of_methodNamed B.named
  have hlocks := B.notSynchronized
  have hsz : s.heap.size = sz := hsz
  subst hsz
  have hin1 := in1_X5_giveLoadTo_40_3
  have hin5 := in5_X5_giveLoadTo_40_3
  have lk15_5 : Cond.fieldLink RX5 15 (TX5 3).1 (TX5 3).2.1 (TX5 3).2.2.1 ∈ wsX5_giveLoadTo := by decide +kernel
  have lk18_5 : Cond.fieldLink RX5 18 (TX5 4).1 (TX5 4).2.1 (TX5 4).2.2.1 ∈ wsX5_giveLoadTo := by decide +kernel
  have lk87_1 : Cond.fieldLink RX5 87 (TX1 5).1 (TX1 5).2.1 (TX1 5).2.2.1 ∈ wsX5_giveLoadTo := by decide +kernel
  have hA : ∀ q : Nat, s.heap.size ≤ q → A q := hA0
  obtain ⟨g, LP, pf, hP, hD, hG⟩ := hC
  have hS : va_S A s.heap s.heap [] := va_S.rf
  have hl := lv_entry ([.ref (h 40), .ref (h 3), .int p1, .int p2, .int p3]) (n := 5) (Nat.le_of_ble_eq_true rfl)
  rw [show entryFrame m args 5 = entryFrame m ([.ref (h 40), .ref (h 3), .int p1, .int p2, .int p3] : List Value).toArray 5 from by rw [hargs], lg_entry_eq]
  generalize (lg_sl ([.ref (h 40), .ref (h 3), .int p1, .int p2, .int p3]) ++ List.replicate (5 - (lg_sl ([.ref (h 40), .ref (h 3), .int p1, .int p2, .int p3])).length) Slot.unset).toArray = ls at hl ⊢
  have hl : lv_has ls 5 [(0, .ref (h 40)), (1, .ref (h 3)), (2, .int p1), (3, .int p2), (4, .int p3)] := hl
  unfold f_X5_giveLoadTo_40_3 at hf
  refine lv_aload_n hx hb dX5_giveLoadTo_0 rfl (lv_at hl 0 rfl) ?_
  refine va_get (D := (dC, dI)) (ci := 5) (v := .ref (h 42)) (C := RX5) (T := TX5) (N := 9) hx hb hts hin5 hown hK hP 40 rfl rfl 3 (by decide) (hts _ lk15_5) (fun _ h9 => h9) rfl dX5_giveLoadTo_1 ?_
  refine lv_iload_n hx hb dX5_giveLoadTo_4 rfl (lv_at hl 2 rfl) ?_
  refine lv_iload hx hb dX5_giveLoadTo_5 (lv_at hl 4 rfl) ?_
  obtain ⟨S1, hiS1, eS1, hf⟩ := wrI_b hf
  refine va_iast hx hb hK hP hD hS 42 0 rfl rfl hiS1 dX5_giveLoadTo_7 (fun H locs hP hD hS => ?_)
  have hP : va_P (dC, dI) vwCl (wC t h tx g S1 ++ va_pl LP pf) H := by rw [eS1]; exact hP
  have hD : va_D A (wC t h tx g S1 ++ va_pl LP pf) := by rw [eS1]; exact hD
  have hG : rlC g LP pf S1 := by rw [eS1]; exact hG
  refine lv_iload hx hb dX5_giveLoadTo_8 (lv_at hl 4 rfl) ?_
  refine lv_iconst (v := (-1)) hx hb dX5_giveLoadTo_10 (by decide) ?_
  refine lv_icmp_ne (tgt := 24) hx hb dX5_giveLoadTo_11 (by decide) (fun c10 => ?_) (fun c10 => ?_)
  · have hf := (if_neg c10).symm.trans hf
    refine lv_aload_n hx hb dX5_giveLoadTo_24 rfl (lv_at hl 0 rfl) ?_
    refine va_get (D := (dC, dI)) (ci := 5) (v := .ref (h 43)) (C := RX5) (T := TX5) (N := 9) hx hb hts hin5 hown hK hP 40 rfl rfl 4 (by decide) (hts _ lk18_5) (fun _ h9 => h9) rfl dX5_giveLoadTo_25 ?_
    refine lv_iload hx hb dX5_giveLoadTo_28 (lv_at hl 4 rfl) ?_
    refine lv_dup2_11 hx hb dX5_giveLoadTo_30 rfl rfl ?_
    obtain ⟨x2, hix2, ex2, hf⟩ := rd_b hf
    refine va_iald hx hb hK hP 43 0 rfl rfl hix2 dX5_giveLoadTo_31 (kI ex2 ?_)
    refine lv_aload_n hx hb dX5_giveLoadTo_32 rfl (lv_at hl 1 rfl) ?_
    refine va_get (D := (dC, dI)) (ci := 1) (v := .ref (h 9)) (C := RX1) (T := TX1) (N := 10) hx hb hts hin1 hown hK hP 3 rfl rfl 5 (by decide) (hts _ lk87_1) (fun _ h9 => h9) rfl dX5_giveLoadTo_33 ?_
    refine lv_iload_n hx hb dX5_giveLoadTo_36 rfl (lv_at hl 2 rfl) ?_
    obtain ⟨x3, hix3, ex3, hf⟩ := rd_b hf
    refine va_iald hx hb hK hP 9 0 rfl rfl hix3 dX5_giveLoadTo_37 (kI ex3 ?_)
    refine lv_iadd hx hb dX5_giveLoadTo_38 ?_
    obtain ⟨S4, hiS4, eS4, hf⟩ := wrI_b hf
    refine va_iast hx hb hK hP hD hS 43 0 rfl rfl hiS4 dX5_giveLoadTo_39 (fun H locs hP hD hS => ?_)
    have hP : va_P (dC, dI) vwCl (wC t h tx g S4 ++ va_pl LP pf) H := by rw [eS4]; exact hP
    have hD : va_D A (wC t h tx g S4 ++ va_pl LP pf) := by rw [eS4]; exact hD
    have hG : rlC g LP pf S4 := by rw [eS4]; exact hG
    refine lv_aload_n hx hb dX5_giveLoadTo_40 rfl (lv_at hl 0 rfl) ?_
    refine lv_aload_n hx hb dX5_giveLoadTo_41 rfl (lv_at hl 1 rfl) ?_
    refine lv_iload_n hx hb dX5_giveLoadTo_42 rfl (lv_at hl 2 rfl) ?_
    refine lv_iconst (v := 1) hx hb dX5_giveLoadTo_43 (by decide) ?_
    refine lv_iadd hx hb dX5_giveLoadTo_44 ?_
    refine lv_iload_n hx hb dX5_giveLoadTo_45 rfl (lv_at hl 3 rfl) ?_
    refine lv_iconst (v := 1) hx hb dX5_giveLoadTo_46 (by decide) ?_
    refine lv_iload hx hb dX5_giveLoadTo_47 (lv_at hl 4 rfl) ?_
    refine lv_ishl hx hb dX5_giveLoadTo_49 ?_
    refine lv_ior hx hb dX5_giveLoadTo_50 ?_
    obtain ⟨S5, eS5, hf⟩ := bd hf
    refine klCv (rest := []) (As := [.ref (h 3), .int (p1 + 1), .int (p2 ||| (1 <<< (p3 &&& 31)))]) ⟨hx, hb, hml, hown, hts⟩ (ih H.size (fun q hq => hA q (Nat.le_trans hS.1 hq)) S4 (p1 + 1) (p2 ||| (1 <<< (p3 &&& 31))) S5 eS5) (cwV 3 hts gX5_giveLoadTo_X5_giveLoad rfl rfl rfl (by decide +kernel) ⟨(show 10 + 2 * d + 1 ≤ 11 + 2 * d from by omega), (show 8 + (5 + 11) + (400 + 80 * d) ≤ 440 + 80 * d from by omega)⟩) (va_recv hK hP (ci := 5) (q0 := 40) rfl rfl) rfl hl.1 rfl (Nat.le_of_ble_eq_true rfl) dX5_giveLoadTo_51 ⟨Nat.zero_le _, Nat.zero_le _⟩ hE hK ⟨g, LP, pf, hP, hD, hG⟩ hS (fun H locs hC hS => ?_)
    obtain ⟨g, LP, pf, hP, hD, hG⟩ := hC
    refine lv_aload_n hx hb dX5_giveLoadTo_54 rfl (lv_at hl 0 rfl) ?_
    refine va_get (D := (dC, dI)) (ci := 5) (v := .ref (h 43)) (C := RX5) (T := TX5) (N := 9) hx hb hts hin5 hown hK hP 40 rfl rfl 4 (by decide) (hts _ lk18_5) (fun _ h9 => h9) rfl dX5_giveLoadTo_55 ?_
    refine lv_iload hx hb dX5_giveLoadTo_58 (lv_at hl 4 rfl) ?_
    refine lv_dup2_11 hx hb dX5_giveLoadTo_60 rfl rfl ?_
    obtain ⟨x6, hix6, ex6, hf⟩ := rd_b hf
    refine va_iald hx hb hK hP 43 0 rfl rfl hix6 dX5_giveLoadTo_61 (kI ex6 ?_)
    refine lv_aload_n hx hb dX5_giveLoadTo_62 rfl (lv_at hl 1 rfl) ?_
    refine va_get (D := (dC, dI)) (ci := 1) (v := .ref (h 9)) (C := RX1) (T := TX1) (N := 10) hx hb hts hin1 hown hK hP 3 rfl rfl 5 (by decide) (hts _ lk87_1) (fun _ h9 => h9) rfl dX5_giveLoadTo_63 ?_
    refine lv_iload_n hx hb dX5_giveLoadTo_66 rfl (lv_at hl 2 rfl) ?_
    obtain ⟨x7, hix7, ex7, hf⟩ := rd_b hf
    refine va_iald hx hb hK hP 9 0 rfl rfl hix7 dX5_giveLoadTo_67 (kI ex7 ?_)
    refine lv_isub hx hb dX5_giveLoadTo_68 ?_
    obtain ⟨S8, hiS8, eS8, hf⟩ := wrI_b hf
    refine va_iast hx hb hK hP hD hS 43 0 rfl rfl hiS8 dX5_giveLoadTo_69 (fun H locs hP hD hS => ?_)
    have hP : va_P (dC, dI) vwCl (wC t h tx g S8 ++ va_pl LP pf) H := by rw [eS8]; exact hP
    have hD : va_D A (wC t h tx g S8 ++ va_pl LP pf) := by rw [eS8]; exact hD
    have hG : rlC g LP pf S8 := by rw [eS8]; exact hG
    exact rtCv hx hb hr hlocks ⟨g, LP, pf, hP, hD, hG⟩ hS hf dX5_giveLoadTo_70
  · have hf := (if_pos c10).symm.trans hf
    refine lv_aload_n hx hb dX5_giveLoadTo_14 rfl (lv_at hl 0 rfl) ?_
    refine lv_aload_n hx hb dX5_giveLoadTo_15 rfl (lv_at hl 1 rfl) ?_
    refine lv_iload_n hx hb dX5_giveLoadTo_16 rfl (lv_at hl 2 rfl) ?_
    refine lv_iconst (v := 1) hx hb dX5_giveLoadTo_17 (by decide) ?_
    refine lv_iadd hx hb dX5_giveLoadTo_18 ?_
    refine lv_iload_n hx hb dX5_giveLoadTo_19 rfl (lv_at hl 3 rfl) ?_
    obtain ⟨S9, eS9, hf⟩ := bd hf
    refine klCv (rest := []) (As := [.ref (h 3), .int (p1 + 1), .int p2]) ⟨hx, hb, hml, hown, hts⟩ (ih H.size (fun q hq => hA q (Nat.le_trans hS.1 hq)) S1 (p1 + 1) p2 S9 eS9) (cwV 3 hts gX5_giveLoadTo_X5_giveLoad rfl rfl rfl (by decide +kernel) ⟨(show 10 + 2 * d + 1 ≤ 11 + 2 * d from by omega), (show 8 + (5 + 11) + (400 + 80 * d) ≤ 440 + 80 * d from by omega)⟩) (va_recv hK hP (ci := 5) (q0 := 40) rfl rfl) rfl hl.1 rfl (Nat.le_of_ble_eq_true rfl) dX5_giveLoadTo_20 ⟨Nat.zero_le _, Nat.zero_le _⟩ hE hK ⟨g, LP, pf, hP, hD, hG⟩ hS (fun H locs hC hS => ?_)
    obtain ⟨g, LP, pf, hP, hD, hG⟩ := hC
    exact rtCv hx hb hr hlocks ⟨g, LP, pf, hP, hD, hG⟩ hS hf dX5_giveLoadTo_23

def k_X5_giveLoadB_40_3_44 (S3 : CS) : Option CS :=
  some S3
def b_X5_giveLoadB_40_3_44 (G : CS → Int32 → Int32 → Option CS) (p1 : Int32) (p2 : Int32) (y4 : Int32) (S5 : CS) : Option ((Int32 × CS) ⊕ CS) :=
  (if (S5.1 1306 0) ≤ y4 then (some (Sum.inr S5)) else ((if y4 = (-1) then (Option.bind (f_X5_giveLoadTo_40_3 G S5 p1 p2 y4) (fun S6 => Option.bind (some (y4 + 1)) (fun x7 => some (Sum.inl (x7, S6))))) else (Option.bind (f_X10_hasPorterIn p2 y4) (fun r8 => (if r8 = 0 then (Option.bind (f_X5_giveLoadTo_40_3 G S5 p1 p2 y4) (fun S10 => Option.bind (some (y4 + 1)) (fun x11 => some (Sum.inl (x11, S10))))) else (Option.bind (some (y4 + 1)) (fun x9 => some (Sum.inl (x9, S5))))))))))
def f_X5_giveLoadB_40_3 (G : CS → Int32 → Int32 → Option CS) (S : CS) (p1 : Int32) (p2 : Int32) : Option CS :=
  (if (S.1 5001 0) = ((S.1 5007 0) + (S.1 5008 0)) then (some S) else ((if (S.1 1309 0) ≤ p1 then (Option.bind (rdI 4 (S.1 5) 0) (fun x1 => Option.bind (f_X5_keepIfBetter_40 S x1) (fun S2 => some S2))) else ((if p1 < 5 then (Option.bind (lp (fun s => b_X5_giveLoadB_40_3_44 G p1 p2 s.1 s.2) FU ((-1), S)) (fun s => k_X5_giveLoadB_40_3_44 s)) else (Option.bind (rdI 4 (S.1 5) 0) (fun x15 => Option.bind (f_X5_keepIfBetter_40 S x15) (fun S16 => some S16))))))))


theorem in1_X5_giveLoadB_40_3 : ∀ w ∈ wsX10, w ∈ wsX5_giveLoad := by decide +kernel
theorem in5_X5_giveLoadB_40_3 : ∀ w ∈ wsX50, w ∈ wsX5_giveLoad := by decide +kernel
set_option maxHeartbeats 4000000 in
set_option maxRecDepth 100000 in
theorem c_X5_giveLoadB_40_3 (l : Launch) (dC : Nat → ClassId) (dI : Nat → Nat → Nat) (t : Nat → ClassId) (ts aK aV : Nat → Nat) (A : Nat → Prop) (h : Nat → Nat) (tx : Nat) (sz : Nat) (hA0 : ∀ q : Nat, sz ≤ q → A q) (S : CS) (d : Nat) (G : CS → Int32 → Int32 → Option CS) (ih : ∀ (sz : Nat), (∀ q : Nat, sz ≤ q → A q) → ∀ (S : CS) (p1 p2 : Int32) (S' : CS), G S p1 p2 = some S' → cCv l yX5_giveLoad wsX5_giveLoad (rmLG d) dC dI t ts aK aV A h tx tx sz [.ref (h 40), .ref (h 3), .int p1, .int p2] S S') (p1 : Int32) (p2 : Int32) (S' : CS) (hf : f_X5_giveLoadB_40_3 G S p1 p2 = some S') : cCv l yX5_giveLoad wsX5_giveLoad (rmLG (d + 1)) dC dI t ts aK aV A h tx tx sz [.ref (h 40), .ref (h 3), .int p1, .int p2] S S' := by
  refine Met.ofW (cc := cX5_giveLoad) (maxL := 5) (ret := none) (by decide) rfl ?_
  intro p e s m args below meth c s₁ B hml hv
  obtain ⟨hargs, hsz, hE, hC, hK⟩ := hv
  have hx := B.exec
  have hb := B.bytes
  have hr := B.returns
  have hts := atoms_spec (ws := wsX5_giveLoad) B.pre
  have hown : s.vm.findClass RX5 = some m.cls := findClass_of_methodNamed B.named
  have hlocks := B.notSynchronized
  have hsz : s.heap.size = sz := hsz
  subst hsz
  have hin1 := in1_X5_giveLoadB_40_3
  have hin5 := in5_X5_giveLoadB_40_3
  have lk34_1 : Cond.fieldLink RX5 34 (TX1 6).1 (TX1 6).2.1 (TX1 6).2.2.1 ∈ wsX5_giveLoad := by decide +kernel
  have lk48_5 : Cond.fieldLink RX5 48 (TX5 1).1 (TX5 1).2.1 (TX5 1).2.2.1 ∈ wsX5_giveLoad := by decide +kernel
  have lk55_5 : Cond.fieldLink RX5 55 (TX5 7).1 (TX5 7).2.1 (TX5 7).2.2.1 ∈ wsX5_giveLoad := by decide +kernel
  have lk58_5 : Cond.fieldLink RX5 58 (TX5 8).1 (TX5 8).2.1 (TX5 8).2.2.1 ∈ wsX5_giveLoad := by decide +kernel
  have lk69_1 : Cond.fieldLink RX5 69 (TX1 9).1 (TX1 9).2.1 (TX1 9).2.2.1 ∈ wsX5_giveLoad := by decide +kernel
  have lk72_1 : Cond.fieldLink RX5 72 (TX1 1).1 (TX1 1).2.1 (TX1 1).2.2.1 ∈ wsX5_giveLoad := by decide +kernel
  have hA : ∀ q : Nat, s.heap.size ≤ q → A q := hA0
  obtain ⟨g, LP, pf, hP, hD, hG⟩ := hC
  have hS : va_S A s.heap s.heap [] := va_S.rf
  have hl := lv_entry ([.ref (h 40), .ref (h 3), .int p1, .int p2]) (n := 5) (Nat.le_of_ble_eq_true rfl)
  rw [show entryFrame m args 5 = entryFrame m ([.ref (h 40), .ref (h 3), .int p1, .int p2] : List Value).toArray 5 from by rw [hargs], lg_entry_eq]
  generalize (lg_sl ([.ref (h 40), .ref (h 3), .int p1, .int p2]) ++ List.replicate (5 - (lg_sl ([.ref (h 40), .ref (h 3), .int p1, .int p2])).length) Slot.unset).toArray = ls at hl ⊢
  have hl : lv_has ls 5 [(0, .ref (h 40)), (1, .ref (h 3)), (2, .int p1), (3, .int p2)] := hl
  unfold f_X5_giveLoadB_40_3 at hf
  refine lv_aload_n hx hb dX5_giveLoad_0 rfl (lv_at hl 0 rfl) ?_
  refine va_get (D := (dC, dI)) (ci := 5) (v := .int (S.1 5001 0)) (C := RX5) (T := TX5) (N := 9) hx hb hts hin5 hown hK hP 40 rfl rfl 1 (by decide) (hts _ lk48_5) (fun _ h9 => h9) rfl dX5_giveLoad_1 ?_
  refine lv_aload_n hx hb dX5_giveLoad_4 rfl (lv_at hl 0 rfl) ?_
  refine va_get (D := (dC, dI)) (ci := 5) (v := .int (S.1 5007 0)) (C := RX5) (T := TX5) (N := 9) hx hb hts hin5 hown hK hP 40 rfl rfl 7 (by decide) (hts _ lk55_5) (fun _ h9 => h9) rfl dX5_giveLoad_5 ?_
  refine lv_aload_n hx hb dX5_giveLoad_8 rfl (lv_at hl 0 rfl) ?_
  refine va_get (D := (dC, dI)) (ci := 5) (v := .int (S.1 5008 0)) (C := RX5) (T := TX5) (N := 9) hx hb hts hin5 hown hK hP 40 rfl rfl 8 (by decide) (hts _ lk58_5) (fun _ h9 => h9) rfl dX5_giveLoad_9 ?_
  refine lv_iadd hx hb dX5_giveLoad_12 ?_
  refine lv_icmp_ne (tgt := 17) hx hb dX5_giveLoad_13 (by decide) (fun c19 => ?_) (fun c19 => ?_)
  · have hf := (if_neg c19).symm.trans hf
    refine lv_iload_n hx hb dX5_giveLoad_17 rfl (lv_at hl 2 rfl) ?_
    refine lv_aload_n hx hb dX5_giveLoad_18 rfl (lv_at hl 1 rfl) ?_
    refine va_get (D := (dC, dI)) (ci := 1) (v := .int (S.1 1309 0)) (C := RX1) (T := TX1) (N := 10) hx hb hts hin1 hown hK hP 3 rfl rfl 9 (by decide) (hts _ lk69_1) (fun _ h9 => h9) rfl dX5_giveLoad_19 ?_
    refine lv_icmp_ge (tgt := 30) hx hb dX5_giveLoad_22 (by decide) (fun c18 => ?_) (fun c18 => ?_)
    · have hf := (if_pos c18).symm.trans hf
      refine lv_aload_n hx hb dX5_giveLoad_30 rfl (lv_at hl 0 rfl) ?_
      refine lv_aload_n hx hb dX5_giveLoad_31 rfl (lv_at hl 1 rfl) ?_
      refine va_get (D := (dC, dI)) (ci := 1) (v := .ref (h 5)) (C := RX1) (T := TX1) (N := 10) hx hb hts hin1 hown hK hP 3 rfl rfl 1 (by decide) (hts _ lk72_1) (fun _ h9 => h9) rfl dX5_giveLoad_32 ?_
      refine lv_iconst (v := 0) hx hb dX5_giveLoad_35 (by decide) ?_
      obtain ⟨x1, hix1, ex1, hf⟩ := rd_b hf
      refine va_iald hx hb hK hP 5 0 rfl rfl hix1 dX5_giveLoad_36 (kI ex1 ?_)
      obtain ⟨S2, eS2, hf⟩ := bd hf
      refine klCv (rest := []) (As := [.int x1]) ⟨hx, hb, hml, hown, hts⟩ (c_X5_keepIfBetter_40 l dC dI t ts aK aV A h tx s.heap.size (fun q hq => hA q (Nat.le_trans hS.1 hq)) S x1 S2 eS2) (cwV 1 hts gX5_giveLoad_X5_keepIfBetter rfl rfl rfl (by decide +kernel) ⟨(show 2 ≤ 10 + 2 * (d + 1) from by omega), (show 83 ≤ 400 + 80 * (d + 1) from by omega)⟩) (va_recv hK hP (ci := 5) (q0 := 40) rfl rfl) rfl hl.1 rfl (Nat.le_of_ble_eq_true rfl) dX5_giveLoad_37 ⟨Nat.zero_le _, Nat.zero_le _⟩ hE hK ⟨g, LP, pf, hP, hD, hG⟩ hS (fun H locs hC hS => ?_)
      obtain ⟨g, LP, pf, hP, hD, hG⟩ := hC
      exact rtCv hx hb hr hlocks ⟨g, LP, pf, hP, hD, hG⟩ hS hf dX5_giveLoad_40
    · have hf := (if_neg c18).symm.trans hf
      refine lv_iload_n hx hb dX5_giveLoad_25 rfl (lv_at hl 2 rfl) ?_
      refine lv_iconst (v := 5) hx hb dX5_giveLoad_26 (by decide) ?_
      refine lv_icmp_lt (tgt := 41) hx hb dX5_giveLoad_27 (by decide) (fun c17 => ?_) (fun c17 => ?_)
      · have hf := (if_pos c17).symm.trans hf
        refine lv_iconst (v := (-1)) hx hb dX5_giveLoad_41 (by decide) ?_
        refine lv_istore (lv' := [(4, .int (-1)), (0, .ref (h 40)), (1, .ref (h 3)), (2, .int p1), (3, .int p2)]) hx hb dX5_giveLoad_42 hl (by decide) rfl (fun ls hl => ?_)
        have K44 : ∀ (S3 : CS) (g : Nat → Nat → Option Nat) (LP : List Nat) (pf : Nat → va_E) (H : Heap) (locs : List Loc) (ls : Array Slot), k_X5_giveLoadB_40_3_44 S3 = some S' → va_P (dC, dI) vwCl (wC t h tx g S3 ++ va_pl LP pf) H → va_D A (wC t h tx g S3 ++ va_pl LP pf) → rlC g LP pf S3 → va_S A s.heap H locs → lv_has ls 5 [] → W p l e (headSpec wsX5_giveLoad (rmLG (d + 1))).room s m args below meth c H locs 0 0 (MQ below (qcCv dC dI t A h tx S') args s 0 0 A) (F0 m 83 ls []) := by
          intro S3 g LP pf H locs ls hf hP hD hG hS hl
          unfold k_X5_giveLoadB_40_3_44 at hf
          exact rtCv hx hb hr hlocks ⟨g, LP, pf, hP, hD, hG⟩ hS hf dX5_giveLoad_83
        obtain ⟨z44, ez44, hz44⟩ := bd hf
        have L44 : ∀ (n : Nat) (y4 : Int32) (S5 : CS) (g : Nat → Nat → Option Nat) (LP : List Nat) (pf : Nat → va_E) (H : Heap) (locs : List Loc) (ls : Array Slot), lp (fun s => b_X5_giveLoadB_40_3_44 G p1 p2 s.1 s.2) n (y4, S5) = some z44 → va_P (dC, dI) vwCl (wC t h tx g S5 ++ va_pl LP pf) H → va_D A (wC t h tx g S5 ++ va_pl LP pf) → rlC g LP pf S5 → va_S A s.heap H locs → lv_has ls 5 [(0, .ref (h 40)), (1, .ref (h 3)), (2, .int p1), (3, .int p2), (4, .int y4)] → W p l e (headSpec wsX5_giveLoad (rmLG (d + 1))).room s m args below meth c H locs 0 0 (MQ below (qcCv dC dI t A h tx S') args s 0 0 A) (F0 m 44 ls []) := by
          intro n
          induction n with
          | zero => intro y4 S5 g LP pf H locs ls hf; exact lp_z hf
          | succ n ih44 =>
            intro y4 S5 g LP pf H locs ls hf hP hD hG hS hl
            obtain ⟨q44, hf, hq44⟩ := lp_i hf
            have hf : b_X5_giveLoadB_40_3_44 G p1 p2 y4 S5 = some q44 := hf
            unfold b_X5_giveLoadB_40_3_44 at hf
            refine lv_iload hx hb dX5_giveLoad_44 (lv_at hl 4 rfl) ?_
            refine lv_aload_n hx hb dX5_giveLoad_46 rfl (lv_at hl 1 rfl) ?_
            refine va_get (D := (dC, dI)) (ci := 1) (v := .int (S5.1 1306 0)) (C := RX1) (T := TX1) (N := 10) hx hb hts hin1 hown hK hP 3 rfl rfl 6 (by decide) (hts _ lk34_1) (fun _ h9 => h9) rfl dX5_giveLoad_47 ?_
            refine lv_icmp_ge (tgt := 83) hx hb dX5_giveLoad_50 (by decide) (fun c14 => ?_) (fun c14 => ?_)
            · have hf := (if_pos c14).symm.trans hf
              exact K44 S5 _ _ _ _ _ _ (lp_x (k := (fun s => k_X5_giveLoadB_40_3_44 s)) (lp_r hf hq44) hz44) hP hD hG hS (lv_sub hl [] rfl)
            · have hf := (if_neg c14).symm.trans hf
              refine lv_iload hx hb dX5_giveLoad_53 (lv_at hl 4 rfl) ?_
              refine lv_iconst (v := (-1)) hx hb dX5_giveLoad_55 (by decide) ?_
              refine lv_icmp_eq (tgt := 68) hx hb dX5_giveLoad_56 (by decide) (fun c13 => ?_) (fun c13 => ?_)
              · have hf := (if_pos c13).symm.trans hf
                refine lv_aload_n hx hb dX5_giveLoad_68 rfl (lv_at hl 0 rfl) ?_
                refine lv_aload_n hx hb dX5_giveLoad_69 rfl (lv_at hl 1 rfl) ?_
                refine lv_iload_n hx hb dX5_giveLoad_70 rfl (lv_at hl 2 rfl) ?_
                refine lv_iload_n hx hb dX5_giveLoad_71 rfl (lv_at hl 3 rfl) ?_
                refine lv_iload hx hb dX5_giveLoad_72 (lv_at hl 4 rfl) ?_
                obtain ⟨S6, eS6, hf⟩ := bd hf
                refine klCv (rest := []) (As := [.ref (h 3), .int p1, .int p2, .int y4]) ⟨hx, hb, hml, hown, hts⟩ (c_X5_giveLoadTo_40_3 l dC dI t ts aK aV A h tx H.size (fun q hq => hA q (Nat.le_trans hS.1 hq)) S5 d G ih p1 p2 y4 S6 eS6) (cwV 4 hts gX5_giveLoad_X5_giveLoadTo rfl rfl rfl (by decide +kernel) ⟨(show 11 + 2 * d + 1 ≤ 10 + 2 * (d + 1) from by omega), (show 8 + (5 + 11) + (440 + 80 * d) ≤ 400 + 80 * (d + 1) from by omega)⟩) (va_recv hK hP (ci := 5) (q0 := 40) rfl rfl) rfl hl.1 rfl (Nat.le_of_ble_eq_true rfl) dX5_giveLoad_74 ⟨Nat.zero_le _, Nat.zero_le _⟩ hE hK ⟨g, LP, pf, hP, hD, hG⟩ hS (fun H locs hC hS => ?_)
                obtain ⟨g, LP, pf, hP, hD, hG⟩ := hC
                obtain ⟨x7, ex7, hf⟩ := bn hf
                refine lv_iinc (v := x7) (lv' := [(4, .int x7), (0, .ref (h 40)), (1, .ref (h 3)), (2, .int p1), (3, .int p2)]) hx hb dX5_giveLoad_77 hl (k := 4) rfl (by rw [ex7]; rfl) (by decide) rfl (fun ls hl => ?_)
                refine lv_goto (tgt := 44) hx hb dX5_giveLoad_80 (by decide) ?_
                exact ih44 x7 S6 _ _ _ _ _ _ (lp_l hf hq44) hP hD hG hS (lv_sub hl [1, 2, 3, 4, 0] rfl)
              · have hf := (if_neg c13).symm.trans hf
                refine lv_iload_n hx hb dX5_giveLoad_59 rfl (lv_at hl 3 rfl) ?_
                refine lv_iload hx hb dX5_giveLoad_60 (lv_at hl 4 rfl) ?_
                obtain ⟨r8, er8, hf⟩ := bd hf
                refine klXNi (rest := []) (As := [.int p2, .int y4]) ⟨hx, hb, hml, hown, hts⟩ (c_X10_hasPorterIn l H.size p2 y4 r8 er8) (fun _ _ _ _ _ => trivial) (fun _ _ _ => trivial) ⟨va_cnB 2 hts gX5_giveLoad_X10_hasPorterIn_n79 rfl rfl rfl (hE.1.1 ("OnlyTwo$Loader", 79, ⟨"OnlyTwo", "hasPorterIn", "(II)Z"⟩, "OnlyTwo") (by decide +kernel)) (hts (.initialized RX10) (by decide +kernel)) (by decide +kernel) ⟨(show 1 ≤ 10 + 2 * (d + 1) from by omega), (show 21 ≤ 400 + 80 * (d + 1) from by omega)⟩, hts (.static yX10_hasPorterIn) (by decide +kernel), trivial⟩ rfl hl.1 rfl (Nat.le_of_ble_eq_true rfl) dX5_giveLoad_62 ⟨Nat.zero_le _, Nat.zero_le _⟩ hS hA (fun H2 locs hk hS => ?_)
                have hP := kpP hP hk
                generalize H2 = H at hP hS ⊢
                refine lv_if_ne (tgt := 77) hx hb dX5_giveLoad_65 (by decide) (fun c12 => ?_) (fun c12 => ?_)
                · have hf := (if_neg c12).symm.trans hf
                  obtain ⟨x9, ex9, hf⟩ := bn hf
                  refine lv_iinc (v := x9) (lv' := [(4, .int x9), (0, .ref (h 40)), (1, .ref (h 3)), (2, .int p1), (3, .int p2)]) hx hb dX5_giveLoad_77 hl (k := 4) rfl (by rw [ex9]; rfl) (by decide) rfl (fun ls hl => ?_)
                  refine lv_goto (tgt := 44) hx hb dX5_giveLoad_80 (by decide) ?_
                  exact ih44 x9 S5 _ _ _ _ _ _ (lp_l hf hq44) hP hD hG hS (lv_sub hl [1, 2, 3, 4, 0] rfl)
                · have hf := (if_pos c12).symm.trans hf
                  refine lv_aload_n hx hb dX5_giveLoad_68 rfl (lv_at hl 0 rfl) ?_
                  refine lv_aload_n hx hb dX5_giveLoad_69 rfl (lv_at hl 1 rfl) ?_
                  refine lv_iload_n hx hb dX5_giveLoad_70 rfl (lv_at hl 2 rfl) ?_
                  refine lv_iload_n hx hb dX5_giveLoad_71 rfl (lv_at hl 3 rfl) ?_
                  refine lv_iload hx hb dX5_giveLoad_72 (lv_at hl 4 rfl) ?_
                  obtain ⟨S10, eS10, hf⟩ := bd hf
                  refine klCv (rest := []) (As := [.ref (h 3), .int p1, .int p2, .int y4]) ⟨hx, hb, hml, hown, hts⟩ (c_X5_giveLoadTo_40_3 l dC dI t ts aK aV A h tx H.size (fun q hq => hA q (Nat.le_trans hS.1 hq)) S5 d G ih p1 p2 y4 S10 eS10) (cwV 4 hts gX5_giveLoad_X5_giveLoadTo rfl rfl rfl (by decide +kernel) ⟨(show 11 + 2 * d + 1 ≤ 10 + 2 * (d + 1) from by omega), (show 8 + (5 + 11) + (440 + 80 * d) ≤ 400 + 80 * (d + 1) from by omega)⟩) (va_recv hK hP (ci := 5) (q0 := 40) rfl rfl) rfl hl.1 rfl (Nat.le_of_ble_eq_true rfl) dX5_giveLoad_74 ⟨Nat.zero_le _, Nat.zero_le _⟩ hE hK ⟨g, LP, pf, hP, hD, hG⟩ hS (fun H locs hC hS => ?_)
                  obtain ⟨g, LP, pf, hP, hD, hG⟩ := hC
                  obtain ⟨x11, ex11, hf⟩ := bn hf
                  refine lv_iinc (v := x11) (lv' := [(4, .int x11), (0, .ref (h 40)), (1, .ref (h 3)), (2, .int p1), (3, .int p2)]) hx hb dX5_giveLoad_77 hl (k := 4) rfl (by rw [ex11]; rfl) (by decide) rfl (fun ls hl => ?_)
                  refine lv_goto (tgt := 44) hx hb dX5_giveLoad_80 (by decide) ?_
                  exact ih44 x11 S10 _ _ _ _ _ _ (lp_l hf hq44) hP hD hG hS (lv_sub hl [1, 2, 3, 4, 0] rfl)
        exact L44 FU (-1) S _ _ _ _ _ _ ez44 hP hD hG hS (lv_sub hl [1, 2, 3, 4, 0] rfl)
      · have hf := (if_neg c17).symm.trans hf
        refine lv_aload_n hx hb dX5_giveLoad_30 rfl (lv_at hl 0 rfl) ?_
        refine lv_aload_n hx hb dX5_giveLoad_31 rfl (lv_at hl 1 rfl) ?_
        refine va_get (D := (dC, dI)) (ci := 1) (v := .ref (h 5)) (C := RX1) (T := TX1) (N := 10) hx hb hts hin1 hown hK hP 3 rfl rfl 1 (by decide) (hts _ lk72_1) (fun _ h9 => h9) rfl dX5_giveLoad_32 ?_
        refine lv_iconst (v := 0) hx hb dX5_giveLoad_35 (by decide) ?_
        obtain ⟨x15, hix15, ex15, hf⟩ := rd_b hf
        refine va_iald hx hb hK hP 5 0 rfl rfl hix15 dX5_giveLoad_36 (kI ex15 ?_)
        obtain ⟨S16, eS16, hf⟩ := bd hf
        refine klCv (rest := []) (As := [.int x15]) ⟨hx, hb, hml, hown, hts⟩ (c_X5_keepIfBetter_40 l dC dI t ts aK aV A h tx s.heap.size (fun q hq => hA q (Nat.le_trans hS.1 hq)) S x15 S16 eS16) (cwV 1 hts gX5_giveLoad_X5_keepIfBetter rfl rfl rfl (by decide +kernel) ⟨(show 2 ≤ 10 + 2 * (d + 1) from by omega), (show 83 ≤ 400 + 80 * (d + 1) from by omega)⟩) (va_recv hK hP (ci := 5) (q0 := 40) rfl rfl) rfl hl.1 rfl (Nat.le_of_ble_eq_true rfl) dX5_giveLoad_37 ⟨Nat.zero_le _, Nat.zero_le _⟩ hE hK ⟨g, LP, pf, hP, hD, hG⟩ hS (fun H locs hC hS => ?_)
        obtain ⟨g, LP, pf, hP, hD, hG⟩ := hC
        exact rtCv hx hb hr hlocks ⟨g, LP, pf, hP, hD, hG⟩ hS hf dX5_giveLoad_40
  · have hf := (if_pos c19).symm.trans hf
    exact rtCv hx hb hr hlocks ⟨g, LP, pf, hP, hD, hG⟩ hS hf dX5_giveLoad_16

def f_X5_giveLoad_40_3 : Nat → CS → Int32 → Int32 → Option CS
  | 0 => fun _ _ _ => none
  | d + 1 => f_X5_giveLoadB_40_3 (f_X5_giveLoad_40_3 d)
theorem c_X5_giveLoad_40_3 (l : Launch) (dC : Nat → ClassId) (dI : Nat → Nat → Nat) (t : Nat → ClassId) (ts aK aV : Nat → Nat) (A : Nat → Prop) (h : Nat → Nat) (tx : Nat) : ∀ (d sz : Nat), (∀ q : Nat, sz ≤ q → A q) → ∀ (S : CS) (p1 p2 : Int32) (S' : CS), f_X5_giveLoad_40_3 d S p1 p2 = some S' → cCv l yX5_giveLoad wsX5_giveLoad (rmLG d) dC dI t ts aK aV A h tx tx sz [.ref (h 40), .ref (h 3), .int p1, .int p2] S S' := by
  intro d
  induction d with
  | zero =>
    intro sz hA S p1 p2 S' hf
    cases hf
  | succ d ih =>
    intro sz hA S p1 p2 S' hf
    exact c_X5_giveLoadB_40_3 l dC dI t ts aK aV A h tx sz hA S d _ ih p1 p2 S' hf

def k_X5_share_40_3_15 (S2 : CS) : Option CS :=
  Option.bind (f_X5_findPairs_40_3 S2) (fun S3 => Option.bind (some (siI S3 5001 (fun _ => (-1)))) (fun S4 => Option.bind (f_X5_giveLoad_40_3 7 S4 0 0) (fun S5 => some S5)))
def b_X5_share_40_3_15 (y6 : Int32) (S7 : CS) : Option ((Int32 × CS) ⊕ CS) :=
  (if (S7.1 1306 0) ≤ y6 then (some (Sum.inr S7)) else (Option.bind (f_X1_weightOf_3 S7 y6 0) (fun r8 => Option.bind (wrI S7 43 6 y6 r8) (fun S9 => Option.bind (some (y6 + 1)) (fun x10 => some (Sum.inl (x10, S9)))))))
def f_X5_share_40_3 (S : CS)  : Option CS :=
  (if (S.1 5000 0) = 0 then (Option.bind (some (siI S 5000 (fun _ => 1))) (fun S1 => Option.bind (lp (fun s => b_X5_share_40_3_15 s.1 s.2) FU (0, S1)) (fun s => k_X5_share_40_3_15 s))) else (some S))
def rmX5_share_40_3 : Room := { frames := 25, cells := 0, slots := 0, locals := 984 }
abbrev RRX5_share_40_3 : Room := (headSpec wsX5_share rmX5_share_40_3).room
theorem in1_X5_share_40_3 : ∀ w ∈ wsX10, w ∈ wsX5_share := by decide +kernel
theorem in5_X5_share_40_3 : ∀ w ∈ wsX50, w ∈ wsX5_share := by decide +kernel
set_option maxHeartbeats 4000000 in
set_option maxRecDepth 100000 in
theorem c_X5_share_40_3 (l : Launch) (dC : Nat → ClassId) (dI : Nat → Nat → Nat) (t : Nat → ClassId) (ts aK aV : Nat → Nat) (A : Nat → Prop) (h : Nat → Nat) (tx : Nat) (sz : Nat) (hA0 : ∀ q : Nat, sz ≤ q → A q) (S : CS)  (S' : CS) (hf : f_X5_share_40_3 S = some S') : cCv l yX5_share wsX5_share rmX5_share_40_3 dC dI t ts aK aV A h tx tx sz [.ref (h 40), .ref (h 3)] S S' := by
  refine Met.ofW (cc := cX5_share) (maxL := 3) (ret := none) (by decide) rfl ?_
  intro p e s m args below meth c s₁ B hml hv
  obtain ⟨hargs, hsz, hE, hC, hK⟩ := hv
  have hx := B.exec
  have hb := B.bytes
  have hr := B.returns
  have hts := atoms_spec (ws := wsX5_share) B.pre
  have hown : s.vm.findClass RX5 = some m.cls := findClass_of_methodNamed B.named
  have hlocks := B.notSynchronized
  have hsz : s.heap.size = sz := hsz
  subst hsz
  have hin1 := in1_X5_share_40_3
  have hin5 := in5_X5_share_40_3
  have lk18_5 : Cond.fieldLink RX5 18 (TX5 4).1 (TX5 4).2.1 (TX5 4).2.2.1 ∈ wsX5_share := by decide +kernel
  have lk30_5 : Cond.fieldLink RX5 30 (TX5 0).1 (TX5 0).2.1 (TX5 0).2.2.1 ∈ wsX5_share := by decide +kernel
  have lk34_1 : Cond.fieldLink RX5 34 (TX1 6).1 (TX1 6).2.1 (TX1 6).2.2.1 ∈ wsX5_share := by decide +kernel
  have lk48_5 : Cond.fieldLink RX5 48 (TX5 1).1 (TX5 1).2.1 (TX5 1).2.2.1 ∈ wsX5_share := by decide +kernel
  have hA : ∀ q : Nat, s.heap.size ≤ q → A q := hA0
  obtain ⟨g, LP, pf, hP, hD, hG⟩ := hC
  have hS : va_S A s.heap s.heap [] := va_S.rf
  have hl := lv_entry ([.ref (h 40), .ref (h 3)]) (n := 3) (Nat.le_of_ble_eq_true rfl)
  rw [show entryFrame m args 3 = entryFrame m ([.ref (h 40), .ref (h 3)] : List Value).toArray 3 from by rw [hargs], lg_entry_eq]
  generalize (lg_sl ([.ref (h 40), .ref (h 3)]) ++ List.replicate (3 - (lg_sl ([.ref (h 40), .ref (h 3)])).length) Slot.unset).toArray = ls at hl ⊢
  have hl : lv_has ls 3 [(0, .ref (h 40)), (1, .ref (h 3))] := hl
  unfold f_X5_share_40_3 at hf
  refine lv_aload_n hx hb dX5_share_0 rfl (lv_at hl 0 rfl) ?_
  refine va_get (D := (dC, dI)) (ci := 5) (v := .int (S.1 5000 0)) (C := RX5) (T := TX5) (N := 9) hx hb hts hin5 hown hK hP 40 rfl rfl 0 (by decide) (hts _ lk30_5) (fun _ h9 => h9) rfl dX5_share_1 ?_
  refine lv_if_eq (tgt := 8) hx hb dX5_share_4 (by decide) (fun c12 => ?_) (fun c12 => ?_)
  · have hf := (if_pos c12).symm.trans hf
    refine lv_aload_n hx hb dX5_share_8 rfl (lv_at hl 0 rfl) ?_
    refine lv_iconst (v := 1) hx hb dX5_share_9 (by decide) ?_
    obtain ⟨S1, eS1, hf⟩ := bn hf
    refine va_put (D := (dC, dI)) (ci := 5) (v := .int 1) (ty := .boolean) (C := RX5) (T := TX5) (N := 9) hx hb hts hin5 tyX5 tyX5_ok nmX5 hown hK hP hD hS 40 rfl rfl 0 (by decide) (hts _ lk30_5) (fun _ h9 => h9) rfl (by decide +kernel) rfl rfl (Nat.le_of_ble_eq_true rfl) dX5_share_10 (fun H locs hP hD hS => ?_)
    have hP : va_P (dC, dI) vwCl (wC t h tx g S1 ++ va_pl LP pf) H := by rw [eS1]; exact hP
    have hD : va_D A (wC t h tx g S1 ++ va_pl LP pf) := by rw [eS1]; exact hD
    have hG : rlC g LP pf S1 := by rw [eS1]; exact hG
    refine lv_iconst (v := 0) hx hb dX5_share_13 (by decide) ?_
    refine lv_istore_n (lv' := [(2, .int 0), (0, .ref (h 40)), (1, .ref (h 3))]) hx hb dX5_share_14 rfl hl (by decide) rfl (fun ls hl => ?_)
    have K15 : ∀ (S2 : CS) (g : Nat → Nat → Option Nat) (LP : List Nat) (pf : Nat → va_E) (H : Heap) (locs : List Loc) (ls : Array Slot), k_X5_share_40_3_15 S2 = some S' → va_P (dC, dI) vwCl (wC t h tx g S2 ++ va_pl LP pf) H → va_D A (wC t h tx g S2 ++ va_pl LP pf) → rlC g LP pf S2 → va_S A s.heap H locs → lv_has ls 3 [(0, .ref (h 40)), (1, .ref (h 3))] → W p l e RRX5_share_40_3 s m args below meth c H locs 0 0 (MQ below (qcCv dC dI t A h tx S') args s 0 0 A) (F0 m 41 ls []) := by
      intro S2 g LP pf H locs ls hf hP hD hG hS hl
      unfold k_X5_share_40_3_15 at hf
      refine lv_aload_n hx hb dX5_share_41 rfl (lv_at hl 0 rfl) ?_
      refine lv_aload_n hx hb dX5_share_42 rfl (lv_at hl 1 rfl) ?_
      obtain ⟨S3, eS3, hf⟩ := bd hf
      refine klCv (rest := []) (As := [.ref (h 3)]) ⟨hx, hb, hml, hown, hts⟩ (c_X5_findPairs_40_3 l dC dI t ts aK aV A h tx H.size (fun q hq => hA q (Nat.le_trans hS.1 hq)) S2 S3 eS3) (cwV 1 hts gX5_share_X5_findPairs rfl rfl rfl (by decide +kernel) ⟨Nat.le_of_ble_eq_true rfl, Nat.le_of_ble_eq_true rfl⟩) (va_recv hK hP (ci := 5) (q0 := 40) rfl rfl) rfl hl.1 rfl (Nat.le_of_ble_eq_true rfl) dX5_share_43 ⟨Nat.zero_le _, Nat.zero_le _⟩ hE hK ⟨g, LP, pf, hP, hD, hG⟩ hS (fun H locs hC hS => ?_)
      obtain ⟨g, LP, pf, hP, hD, hG⟩ := hC
      refine lv_aload_n hx hb dX5_share_46 rfl (lv_at hl 0 rfl) ?_
      refine lv_iconst (v := (-1)) hx hb dX5_share_47 (by decide) ?_
      obtain ⟨S4, eS4, hf⟩ := bn hf
      refine va_put (D := (dC, dI)) (ci := 5) (v := .int (-1)) (ty := .int) (C := RX5) (T := TX5) (N := 9) hx hb hts hin5 tyX5 tyX5_ok nmX5 hown hK hP hD hS 40 rfl rfl 1 (by decide) (hts _ lk48_5) (fun _ h9 => h9) rfl (by decide +kernel) rfl rfl (Nat.le_of_ble_eq_true rfl) dX5_share_48 (fun H locs hP hD hS => ?_)
      have hP : va_P (dC, dI) vwCl (wC t h tx g S4 ++ va_pl LP pf) H := by rw [eS4]; exact hP
      have hD : va_D A (wC t h tx g S4 ++ va_pl LP pf) := by rw [eS4]; exact hD
      have hG : rlC g LP pf S4 := by rw [eS4]; exact hG
      refine lv_aload_n hx hb dX5_share_51 rfl (lv_at hl 0 rfl) ?_
      refine lv_aload_n hx hb dX5_share_52 rfl (lv_at hl 1 rfl) ?_
      refine lv_iconst (v := 0) hx hb dX5_share_53 (by decide) ?_
      refine lv_iconst (v := 0) hx hb dX5_share_54 (by decide) ?_
      obtain ⟨S5, eS5, hf⟩ := bd hf
      refine klCv (rest := []) (As := [.ref (h 3), .int 0, .int 0]) ⟨hx, hb, hml, hown, hts⟩ (c_X5_giveLoad_40_3 l dC dI t ts aK aV A h tx 7 H.size (fun q hq => hA q (Nat.le_trans hS.1 hq)) S4 0 0 S5 eS5) (cwV 3 hts gX5_share_X5_giveLoad rfl rfl rfl (by decide +kernel) ⟨Nat.le_of_ble_eq_true rfl, Nat.le_of_ble_eq_true rfl⟩) (va_recv hK hP (ci := 5) (q0 := 40) rfl rfl) rfl hl.1 rfl (Nat.le_of_ble_eq_true rfl) dX5_share_55 ⟨Nat.zero_le _, Nat.zero_le _⟩ hE hK ⟨g, LP, pf, hP, hD, hG⟩ hS (fun H locs hC hS => ?_)
      obtain ⟨g, LP, pf, hP, hD, hG⟩ := hC
      exact rtCv hx hb hr hlocks ⟨g, LP, pf, hP, hD, hG⟩ hS hf dX5_share_58
    obtain ⟨z15, ez15, hz15⟩ := bd hf
    have L15 : ∀ (n : Nat) (y6 : Int32) (S7 : CS) (g : Nat → Nat → Option Nat) (LP : List Nat) (pf : Nat → va_E) (H : Heap) (locs : List Loc) (ls : Array Slot), lp (fun s => b_X5_share_40_3_15 s.1 s.2) n (y6, S7) = some z15 → va_P (dC, dI) vwCl (wC t h tx g S7 ++ va_pl LP pf) H → va_D A (wC t h tx g S7 ++ va_pl LP pf) → rlC g LP pf S7 → va_S A s.heap H locs → lv_has ls 3 [(0, .ref (h 40)), (1, .ref (h 3)), (2, .int y6)] → W p l e RRX5_share_40_3 s m args below meth c H locs 0 0 (MQ below (qcCv dC dI t A h tx S') args s 0 0 A) (F0 m 15 ls []) := by
      intro n
      induction n with
      | zero => intro y6 S7 g LP pf H locs ls hf; exact lp_z hf
      | succ n ih15 =>
        intro y6 S7 g LP pf H locs ls hf hP hD hG hS hl
        obtain ⟨q15, hf, hq15⟩ := lp_i hf
        have hf : b_X5_share_40_3_15 y6 S7 = some q15 := hf
        unfold b_X5_share_40_3_15 at hf
        refine lv_iload_n hx hb dX5_share_15 rfl (lv_at hl 2 rfl) ?_
        refine lv_aload_n hx hb dX5_share_16 rfl (lv_at hl 1 rfl) ?_
        refine va_get (D := (dC, dI)) (ci := 1) (v := .int (S7.1 1306 0)) (C := RX1) (T := TX1) (N := 10) hx hb hts hin1 hown hK hP 3 rfl rfl 6 (by decide) (hts _ lk34_1) (fun _ h9 => h9) rfl dX5_share_17 ?_
        refine lv_icmp_ge (tgt := 41) hx hb dX5_share_20 (by decide) (fun c11 => ?_) (fun c11 => ?_)
        · have hf := (if_pos c11).symm.trans hf
          exact K15 S7 _ _ _ _ _ _ (lp_x (k := (fun s => k_X5_share_40_3_15 s)) (lp_r hf hq15) hz15) hP hD hG hS (lv_sub hl [0, 1] rfl)
        · have hf := (if_neg c11).symm.trans hf
          refine lv_aload_n hx hb dX5_share_23 rfl (lv_at hl 0 rfl) ?_
          refine va_get (D := (dC, dI)) (ci := 5) (v := .ref (h 43)) (C := RX5) (T := TX5) (N := 9) hx hb hts hin5 hown hK hP 40 rfl rfl 4 (by decide) (hts _ lk18_5) (fun _ h9 => h9) rfl dX5_share_24 ?_
          refine lv_iload_n hx hb dX5_share_27 rfl (lv_at hl 2 rfl) ?_
          refine lv_aload_n hx hb dX5_share_28 rfl (lv_at hl 1 rfl) ?_
          refine lv_iload_n hx hb dX5_share_29 rfl (lv_at hl 2 rfl) ?_
          refine lv_iconst (v := 0) hx hb dX5_share_30 (by decide) ?_
          obtain ⟨r8, er8, hf⟩ := bd hf
          refine klCi (rest := [.int y6, .ref (h 43)]) (As := [.int y6, .int 0]) ⟨hx, hb, hml, hown, hts⟩ (c_X1_weightOf_3 l dC dI t ts aK aV A h tx H.size (fun q hq => hA q (Nat.le_trans hS.1 hq)) S7 y6 0 r8 er8) (cwV 2 hts gX5_share_X1_weightOf rfl rfl rfl (by decide +kernel) ⟨Nat.le_of_ble_eq_true rfl, Nat.le_of_ble_eq_true rfl⟩) (va_recv hK hP (ci := 1) (q0 := 3) rfl rfl) rfl hl.1 rfl (Nat.le_of_ble_eq_true rfl) dX5_share_31 ⟨Nat.zero_le _, Nat.zero_le _⟩ hE hK ⟨g, LP, pf, hP, hD, hG⟩ hS (fun H locs hC hS => ?_)
          obtain ⟨g, LP, pf, hP, hD, hG⟩ := hC
          obtain ⟨S9, hiS9, eS9, hf⟩ := wrI_b hf
          refine va_iast hx hb hK hP hD hS 43 0 rfl rfl hiS9 dX5_share_34 (fun H locs hP hD hS => ?_)
          have hP : va_P (dC, dI) vwCl (wC t h tx g S9 ++ va_pl LP pf) H := by rw [eS9]; exact hP
          have hD : va_D A (wC t h tx g S9 ++ va_pl LP pf) := by rw [eS9]; exact hD
          have hG : rlC g LP pf S9 := by rw [eS9]; exact hG
          obtain ⟨x10, ex10, hf⟩ := bn hf
          refine lv_iinc (v := x10) (lv' := [(2, .int x10), (0, .ref (h 40)), (1, .ref (h 3))]) hx hb dX5_share_35 hl (k := 2) rfl (by rw [ex10]; rfl) (by decide) rfl (fun ls hl => ?_)
          refine lv_goto (tgt := 15) hx hb dX5_share_38 (by decide) ?_
          exact ih15 x10 S9 _ _ _ _ _ _ (lp_l hf hq15) hP hD hG hS (lv_sub hl [1, 2, 0] rfl)
    exact L15 FU 0 S1 _ _ _ _ _ _ ez15 hP hD hG hS (lv_sub hl [1, 2, 0] rfl)
  · have hf := (if_neg c12).symm.trans hf
    exact rtCv hx hb hr hlocks ⟨g, LP, pf, hP, hD, hG⟩ hS hf dX5_share_7

def f_X10_carries_0 (S : CS) (p0 : Int32) : Option (Int32 × CS) :=
  (if p0 < (-1) then (bi2 (f_X10_bad_0 S (-10)) (fun r1 S2 => some ((r1, S2)))) else ((if (S.1 1309 0) ≤ p0 then (bi2 (f_X10_bad_0 S (-10)) (fun r3 S4 => some ((r3, S4)))) else ((if p0 < 5 then (Option.bind (f_X5_share_40_3 S) (fun S5 => (if p0 = (-1) then (some ((S5.1 5001 0, S5))) else (Option.bind (rdI 5 (S5.1 41) p0) (fun x6 => some ((x6, S5))))))) else (bi2 (f_X10_bad_0 S (-10)) (fun r8 S9 => some ((r8, S9)))))))))
def rmX10_carries_0 : Room := { frames := 26, cells := 0, slots := 0, locals := 1006 }
abbrev RRX10_carries_0 : Room := (headSpec wsX10_carries rmX10_carries_0).room
theorem in1_X10_carries_0 : ∀ w ∈ wsX10, w ∈ wsX10_carries := by decide +kernel
theorem in5_X10_carries_0 : ∀ w ∈ wsX50, w ∈ wsX10_carries := by decide +kernel
theorem in10_X10_carries_0 : ∀ w ∈ wsX100, w ∈ wsX10_carries := by decide +kernel
set_option maxHeartbeats 4000000 in
set_option maxRecDepth 100000 in
theorem c_X10_carries_0 (l : Launch) (dC : Nat → ClassId) (dI : Nat → Nat → Nat) (t : Nat → ClassId) (ts aK aV : Nat → Nat) (A : Nat → Prop) (h : Nat → Nat) (tx : Nat) (sz : Nat) (hA0 : ∀ q : Nat, sz ≤ q → A q) (S : CS) (p0 : Int32) (r : Int32) (S' : CS) (hf : f_X10_carries_0 S p0 = some (r, S')) : cCi l yX10_carries wsX10_carries rmX10_carries_0 dC dI t ts aK aV A h tx tx sz [.ref (h 0), .int p0] S r S' := by
  refine Met.ofW (cc := cX10_carries) (maxL := 2) (ret := (some .int)) (by decide) rfl ?_
  intro p e s m args below meth c s₁ B hml hv
  obtain ⟨hargs, hsz, hE, hC, hK⟩ := hv
  have hx := B.exec
  have hb := B.bytes
  have hr := B.returns
  have hts := atoms_spec (ws := wsX10_carries) B.pre
  have hown : s.vm.findClass RX10 = some m.cls := findClass_of_methodNamed B.named
  have hlocks := B.notSynchronized
  have hsz : s.heap.size = sz := hsz
  subst hsz
  have hin1 := in1_X10_carries_0
  have hin5 := in5_X10_carries_0
  have hin10 := in10_X10_carries_0
  have lk10_10 : Cond.fieldLink RX10 10 (TX10 0).1 (TX10 0).2.1 (TX10 0).2.2.1 ∈ wsX10_carries := by decide +kernel
  have lk41_10 : Cond.fieldLink RX10 41 (TX10 5).1 (TX10 5).2.1 (TX10 5).2.2.1 ∈ wsX10_carries := by decide +kernel
  have lk160_1 : Cond.fieldLink RX10 160 (TX1 9).1 (TX1 9).2.1 (TX1 9).2.2.1 ∈ wsX10_carries := by decide +kernel
  have lk169_5 : Cond.fieldLink RX10 169 (TX5 1).1 (TX5 1).2.1 (TX5 1).2.2.1 ∈ wsX10_carries := by decide +kernel
  have lk172_5 : Cond.fieldLink RX10 172 (TX5 2).1 (TX5 2).2.1 (TX5 2).2.2.1 ∈ wsX10_carries := by decide +kernel
  have hA : ∀ q : Nat, s.heap.size ≤ q → A q := hA0
  obtain ⟨g, LP, pf, hP, hD, hG⟩ := hC
  have hS : va_S A s.heap s.heap [] := va_S.rf
  have hl := lv_entry ([.ref (h 0), .int p0]) (n := 2) (Nat.le_of_ble_eq_true rfl)
  rw [show entryFrame m args 2 = entryFrame m ([.ref (h 0), .int p0] : List Value).toArray 2 from by rw [hargs], lg_entry_eq]
  generalize (lg_sl ([.ref (h 0), .int p0]) ++ List.replicate (2 - (lg_sl ([.ref (h 0), .int p0])).length) Slot.unset).toArray = ls at hl ⊢
  have hl : lv_has ls 2 [(0, .ref (h 0)), (1, .int p0)] := hl
  unfold f_X10_carries_0 at hf
  refine lv_iload_n hx hb dX10_carries_0 rfl (lv_at hl 1 rfl) ?_
  refine lv_iconst (v := (-1)) hx hb dX10_carries_1 (by decide) ?_
  refine lv_icmp_lt (tgt := 21) hx hb dX10_carries_2 (by decide) (fun c12 => ?_) (fun c12 => ?_)
  · have hf := (if_pos c12).symm.trans hf
    refine lv_aload_n hx hb dX10_carries_21 rfl (lv_at hl 0 rfl) ?_
    refine lv_bipush (v := (-10)) hx hb dX10_carries_22 (by decide) ?_
    obtain ⟨r1, S2, er1, hf⟩ := b2 hf
    refine klCi (rest := []) (As := [.int (-10)]) ⟨hx, hb, hml, hown, hts⟩ (c_X10_bad_0 l dC dI t ts aK aV A h tx s.heap.size (fun q hq => hA q (Nat.le_trans hS.1 hq)) S (-10) r1 S2 er1) (cwV 1 hts gX10_carries_X10_bad rfl rfl rfl (by decide +kernel) ⟨Nat.le_of_ble_eq_true rfl, Nat.le_of_ble_eq_true rfl⟩) (va_recv hK hP (ci := 10) (q0 := 0) rfl rfl) rfl hl.1 rfl (Nat.le_of_ble_eq_true rfl) dX10_carries_24 ⟨Nat.zero_le _, Nat.zero_le _⟩ hE hK ⟨g, LP, pf, hP, hD, hG⟩ hS (fun H locs hC hS => ?_)
    obtain ⟨g, LP, pf, hP, hD, hG⟩ := hC
    exact rtCi hx hb hr hlocks ⟨g, LP, pf, hP, hD, hG⟩ hS hf dX10_carries_27
  · have hf := (if_neg c12).symm.trans hf
    refine lv_iload_n hx hb dX10_carries_5 rfl (lv_at hl 1 rfl) ?_
    refine lv_aload_n hx hb dX10_carries_6 rfl (lv_at hl 0 rfl) ?_
    refine va_get (D := (dC, dI)) (ci := 10) (v := .ref (h 3)) (C := RX10) (T := TX10) (N := 9) hx hb hts hin10 hown hK hP 0 rfl rfl 0 (by decide) (hts _ lk10_10) (fun _ h9 => h9) rfl dX10_carries_7 ?_
    refine va_get (D := (dC, dI)) (ci := 1) (v := .int (S.1 1309 0)) (C := RX1) (T := TX1) (N := 10) hx hb hts hin1 hown hK hP 3 rfl rfl 9 (by decide) (hts _ lk160_1) (fun _ h9 => h9) rfl dX10_carries_10 ?_
    refine lv_icmp_ge (tgt := 21) hx hb dX10_carries_13 (by decide) (fun c11 => ?_) (fun c11 => ?_)
    · have hf := (if_pos c11).symm.trans hf
      refine lv_aload_n hx hb dX10_carries_21 rfl (lv_at hl 0 rfl) ?_
      refine lv_bipush (v := (-10)) hx hb dX10_carries_22 (by decide) ?_
      obtain ⟨r3, S4, er3, hf⟩ := b2 hf
      refine klCi (rest := []) (As := [.int (-10)]) ⟨hx, hb, hml, hown, hts⟩ (c_X10_bad_0 l dC dI t ts aK aV A h tx s.heap.size (fun q hq => hA q (Nat.le_trans hS.1 hq)) S (-10) r3 S4 er3) (cwV 1 hts gX10_carries_X10_bad rfl rfl rfl (by decide +kernel) ⟨Nat.le_of_ble_eq_true rfl, Nat.le_of_ble_eq_true rfl⟩) (va_recv hK hP (ci := 10) (q0 := 0) rfl rfl) rfl hl.1 rfl (Nat.le_of_ble_eq_true rfl) dX10_carries_24 ⟨Nat.zero_le _, Nat.zero_le _⟩ hE hK ⟨g, LP, pf, hP, hD, hG⟩ hS (fun H locs hC hS => ?_)
      obtain ⟨g, LP, pf, hP, hD, hG⟩ := hC
      exact rtCi hx hb hr hlocks ⟨g, LP, pf, hP, hD, hG⟩ hS hf dX10_carries_27
    · have hf := (if_neg c11).symm.trans hf
      refine lv_iload_n hx hb dX10_carries_16 rfl (lv_at hl 1 rfl) ?_
      refine lv_iconst (v := 5) hx hb dX10_carries_17 (by decide) ?_
      refine lv_icmp_lt (tgt := 28) hx hb dX10_carries_18 (by decide) (fun c10 => ?_) (fun c10 => ?_)
      · have hf := (if_pos c10).symm.trans hf
        refine lv_aload_n hx hb dX10_carries_28 rfl (lv_at hl 0 rfl) ?_
        refine va_get (D := (dC, dI)) (ci := 10) (v := .ref (h 40)) (C := RX10) (T := TX10) (N := 9) hx hb hts hin10 hown hK hP 0 rfl rfl 5 (by decide) (hts _ lk41_10) (fun _ h9 => h9) rfl dX10_carries_29 ?_
        refine lv_aload_n hx hb dX10_carries_32 rfl (lv_at hl 0 rfl) ?_
        refine va_get (D := (dC, dI)) (ci := 10) (v := .ref (h 3)) (C := RX10) (T := TX10) (N := 9) hx hb hts hin10 hown hK hP 0 rfl rfl 0 (by decide) (hts _ lk10_10) (fun _ h9 => h9) rfl dX10_carries_33 ?_
        obtain ⟨S5, eS5, hf⟩ := bd hf
        refine klCv (rest := []) (As := [.ref (h 3)]) ⟨hx, hb, hml, hown, hts⟩ (c_X5_share_40_3 l dC dI t ts aK aV A h tx s.heap.size (fun q hq => hA q (Nat.le_trans hS.1 hq)) S S5 eS5) (cwV 1 hts gX10_carries_X5_share rfl rfl rfl (by decide +kernel) ⟨Nat.le_of_ble_eq_true rfl, Nat.le_of_ble_eq_true rfl⟩) (va_recv hK hP (ci := 5) (q0 := 40) rfl rfl) rfl hl.1 rfl (Nat.le_of_ble_eq_true rfl) dX10_carries_36 ⟨Nat.zero_le _, Nat.zero_le _⟩ hE hK ⟨g, LP, pf, hP, hD, hG⟩ hS (fun H locs hC hS => ?_)
        obtain ⟨g, LP, pf, hP, hD, hG⟩ := hC
        refine lv_iload_n hx hb dX10_carries_39 rfl (lv_at hl 1 rfl) ?_
        refine lv_iconst (v := (-1)) hx hb dX10_carries_40 (by decide) ?_
        refine lv_icmp_ne (tgt := 54) hx hb dX10_carries_41 (by decide) (fun c7 => ?_) (fun c7 => ?_)
        · have hf := (if_neg c7).symm.trans hf
          refine lv_aload_n hx hb dX10_carries_54 rfl (lv_at hl 0 rfl) ?_
          refine va_get (D := (dC, dI)) (ci := 10) (v := .ref (h 40)) (C := RX10) (T := TX10) (N := 9) hx hb hts hin10 hown hK hP 0 rfl rfl 5 (by decide) (hts _ lk41_10) (fun _ h9 => h9) rfl dX10_carries_55 ?_
          refine va_get (D := (dC, dI)) (ci := 5) (v := .ref (h 41)) (C := RX5) (T := TX5) (N := 9) hx hb hts hin5 hown hK hP 40 rfl rfl 2 (by decide) (hts _ lk172_5) (fun _ h9 => h9) rfl dX10_carries_58 ?_
          refine lv_iload_n hx hb dX10_carries_61 rfl (lv_at hl 1 rfl) ?_
          obtain ⟨x6, hix6, ex6, hf⟩ := rd_b hf
          refine va_iald hx hb hK hP 41 0 rfl rfl hix6 dX10_carries_62 (kI ex6 ?_)
          exact rtCi hx hb hr hlocks ⟨g, LP, pf, hP, hD, hG⟩ hS hf dX10_carries_63
        · have hf := (if_pos c7).symm.trans hf
          refine lv_aload_n hx hb dX10_carries_44 rfl (lv_at hl 0 rfl) ?_
          refine va_get (D := (dC, dI)) (ci := 10) (v := .ref (h 40)) (C := RX10) (T := TX10) (N := 9) hx hb hts hin10 hown hK hP 0 rfl rfl 5 (by decide) (hts _ lk41_10) (fun _ h9 => h9) rfl dX10_carries_45 ?_
          refine va_get (D := (dC, dI)) (ci := 5) (v := .int (S5.1 5001 0)) (C := RX5) (T := TX5) (N := 9) hx hb hts hin5 hown hK hP 40 rfl rfl 1 (by decide) (hts _ lk169_5) (fun _ h9 => h9) rfl dX10_carries_48 ?_
          refine lv_goto (tgt := 63) hx hb dX10_carries_51 (by decide) ?_
          exact rtCi hx hb hr hlocks ⟨g, LP, pf, hP, hD, hG⟩ hS hf dX10_carries_63
      · have hf := (if_neg c10).symm.trans hf
        refine lv_aload_n hx hb dX10_carries_21 rfl (lv_at hl 0 rfl) ?_
        refine lv_bipush (v := (-10)) hx hb dX10_carries_22 (by decide) ?_
        obtain ⟨r8, S9, er8, hf⟩ := b2 hf
        refine klCi (rest := []) (As := [.int (-10)]) ⟨hx, hb, hml, hown, hts⟩ (c_X10_bad_0 l dC dI t ts aK aV A h tx s.heap.size (fun q hq => hA q (Nat.le_trans hS.1 hq)) S (-10) r8 S9 er8) (cwV 1 hts gX10_carries_X10_bad rfl rfl rfl (by decide +kernel) ⟨Nat.le_of_ble_eq_true rfl, Nat.le_of_ble_eq_true rfl⟩) (va_recv hK hP (ci := 10) (q0 := 0) rfl rfl) rfl hl.1 rfl (Nat.le_of_ble_eq_true rfl) dX10_carries_24 ⟨Nat.zero_le _, Nat.zero_le _⟩ hE hK ⟨g, LP, pf, hP, hD, hG⟩ hS (fun H locs hC hS => ?_)
        obtain ⟨g, LP, pf, hP, hD, hG⟩ := hC
        exact rtCi hx hb hr hlocks ⟨g, LP, pf, hP, hD, hG⟩ hS hf dX10_carries_27
