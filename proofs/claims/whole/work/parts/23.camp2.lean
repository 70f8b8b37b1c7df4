def f_X10_isOnOneSide (p0 : Int32) (p1 : Int32) : Option Int32 :=
  (if (p0 &&& p1) = 0 then (some 1) else ((if (p0 &&& p1) = p0 then (some 1) else (some 0))))
def rmX10_isOnOneSide : Room := { frames := 0, cells := 0, slots := 0, locals := 0 }
abbrev RRX10_isOnOneSide : Room := (headSpec wsX10_isOnOneSide rmX10_isOnOneSide).room
set_option maxHeartbeats 4000000 in
set_option maxRecDepth 100000 in
theorem c_X10_isOnOneSide (l : Launch) (sz : Nat) (p0 : Int32) (p1 : Int32) (r : Int32) (hf : f_X10_isOnOneSide p0 p1 = some r) : cXi l yX10_isOnOneSide wsX10_isOnOneSide rmX10_isOnOneSide sz [.int p0, .int p1] (fun _ => True) r := by
  refine Met.ofW (cc := cX10_isOnOneSide) (maxL := 2) (ret := (some .boolean)) (by decide) rfl ?_
  intro p e s m args below meth c s₁ B hml hv
  obtain ⟨hargs, hsz, hXX⟩ := hv
  have hx := B.exec
  have hb := B.bytes
  have hr := B.returns
  have hts := atoms_spec (ws := wsX10_isOnOneSide) B.pre
  have hown : s.vm.findClass RX10 = some m.cls := findClass_of_methodNamed B.named
  have hlocks := B.notSynchronized
  have hsz : s.heap.size = sz := hsz
  subst hsz
  obtain ⟨A, hAe⟩ : ∃ A : Nat → Prop, A = fun q => s.heap.size ≤ q := ⟨_, rfl⟩
  rw [← hAe]
  have hA : ∀ q : Nat, s.heap.size ≤ q → A q := fun q h => by rw [hAe]; exact h
  have hS : va_S A s.heap s.heap [] := va_S.rf
  have hl := lv_entry ([.int p0, .int p1]) (n := 2) (Nat.le_of_ble_eq_true rfl)
  rw [show entryFrame m args 2 = entryFrame m ([.int p0, .int p1] : List Value).toArray 2 from by rw [hargs], lg_entry_eq]
  generalize (lg_sl ([.int p0, .int p1]) ++ List.replicate (2 - (lg_sl ([.int p0, .int p1])).length) Slot.unset).toArray = ls at hl ⊢
  have hl : lv_has ls 2 [(0, .int p0), (1, .int p1)] := hl
  unfold f_X10_isOnOneSide at hf
  refine lv_iload_n hx hb dX10_isOnOneSide_0 rfl (lv_at hl 0 rfl) ?_
  refine lv_iload_n hx hb dX10_isOnOneSide_1 rfl (lv_at hl 1 rfl) ?_
  refine lv_iand hx hb dX10_isOnOneSide_2 ?_
  refine lv_if_eq (tgt := 13) hx hb dX10_isOnOneSide_3 (by decide) (fun c2 => ?_) (fun c2 => ?_)
  · have hf := (if_pos c2).symm.trans hf
    refine lv_iconst (v := 1) hx hb dX10_isOnOneSide_13 (by decide) ?_
    refine lv_goto (tgt := 18) hx hb dX10_isOnOneSide_14 (by decide) ?_
    exact rtEz hx hb hr hlocks hS rfl hf dX10_isOnOneSide_18
  · have hf := (if_neg c2).symm.trans hf
    refine lv_iload_n hx hb dX10_isOnOneSide_6 rfl (lv_at hl 0 rfl) ?_
    refine lv_iload_n hx hb dX10_isOnOneSide_7 rfl (lv_at hl 1 rfl) ?_
    refine lv_iand hx hb dX10_isOnOneSide_8 ?_
    refine lv_iload_n hx hb dX10_isOnOneSide_9 rfl (lv_at hl 0 rfl) ?_
    refine lv_icmp_ne (tgt := 17) hx hb dX10_isOnOneSide_10 (by decide) (fun c1 => ?_) (fun c1 => ?_)
    · have hf := (if_neg c1).symm.trans hf
      refine lv_iconst (v := 0) hx hb dX10_isOnOneSide_17 (by decide) ?_
      exact rtEz hx hb hr hlocks hS rfl hf dX10_isOnOneSide_18
    · have hf := (if_pos c1).symm.trans hf
      refine lv_iconst (v := 1) hx hb dX10_isOnOneSide_13 (by decide) ?_
      refine lv_goto (tgt := 18) hx hb dX10_isOnOneSide_14 (by decide) ?_
      exact rtEz hx hb hr hlocks hS rfl hf dX10_isOnOneSide_18

def f_X1_whyNoGo_3 (S : CS) (p0 : Int32) (p1 : Int32) (p2 : Int32) : Option Int32 :=
  Option.bind (rdI 20 (S.1 6) p0) (fun x1 => (if p2 ≤ x1 then (Option.bind (rdI 20 (S.1 7) p0) (fun x2 => Option.bind (f_X10_isOnOneSide x2 p1) (fun r3 => (if r3 = 0 then (some 2) else (Option.bind (rdI 20 (S.1 7) p0) (fun x4 => Option.bind (rdI 20 (S.1 6) p0) (fun x5 => Option.bind (rdI 20 (S.1 6) p0) (fun x6 => Option.bind (f_X1_isNight_3 S x6) (fun r7 => Option.bind (f_X1_whyNot_3 S x4 x5 r7) (fun r8 => some r8)))))))))) else (some 1)))
def rmX1_whyNoGo_3 : Room := { frames := 4, cells := 0, slots := 0, locals := 92 }
abbrev RRX1_whyNoGo_3 : Room := (headSpec wsX1_whyNoGo rmX1_whyNoGo_3).room
theorem in1_X1_whyNoGo_3 : ∀ w ∈ wsX10, w ∈ wsX1_whyNoGo := by decide +kernel
set_option maxHeartbeats 4000000 in
set_option maxRecDepth 100000 in
theorem c_X1_whyNoGo_3 (l : Launch) (dC : Nat → ClassId) (dI : Nat → Nat → Nat) (t : Nat → ClassId) (ts aK aV : Nat → Nat) (A : Nat → Prop) (h : Nat → Nat) (tx : Nat) (sz : Nat) (hA0 : ∀ q : Nat, sz ≤ q → A q) (S : CS) (p0 : Int32) (p1 : Int32) (p2 : Int32) (r : Int32) (hf : f_X1_whyNoGo_3 S p0 p1 p2 = some r) : cCi l yX1_whyNoGo wsX1_whyNoGo rmX1_whyNoGo_3 dC dI t ts aK aV A h tx tx sz [.ref (h 3), .int p0, .int p1, .int p2] S r S := by
  refine Met.ofW (cc := cX1_whyNoGo) (maxL := 4) (ret := (some .int)) (by decide) rfl ?_
  intro p e s m args below meth c s₁ B hml hv
  obtain ⟨hargs, hsz, hE, hC, hK⟩ := hv
  have hx := B.exec
  have hb := B.bytes
  have hr := B.returns
  have hts := atoms_spec (ws := wsX1_whyNoGo) B.pre
  have hown : s.vm.findClass RX1 = some m.cls := findClass_of_methodNamed B.named
  have hlocks := B.notSynchronized
  have hsz : s.heap.size = sz := hsz
  subst hsz
  have hin1 := in1_X1_whyNoGo_3
  have lk21_1 : Cond.fieldLink RX1 21 (TX1 2).1 (TX1 2).2.1 (TX1 2).2.2.1 ∈ wsX1_whyNoGo := by decide +kernel
  have lk24_1 : Cond.fieldLink RX1 24 (TX1 3).1 (TX1 3).2.1 (TX1 3).2.2.1 ∈ wsX1_whyNoGo := by decide +kernel
  have hA : ∀ q : Nat, s.heap.size ≤ q → A q := hA0
  obtain ⟨g, LP, pf, hP, hD, hG⟩ := hC
  have hS : va_S A s.heap s.heap [] := va_S.rf
  have hl := lv_entry ([.ref (h 3), .int p0, .int p1, .int p2]) (n := 4) (Nat.le_of_ble_eq_true rfl)
  rw [show entryFrame m args 4 = entryFrame m ([.ref (h 3), .int p0, .int p1, .int p2] : List Value).toArray 4 from by rw [hargs], lg_entry_eq]
  generalize (lg_sl ([.ref (h 3), .int p0, .int p1, .int p2]) ++ List.replicate (4 - (lg_sl ([.ref (h 3), .int p0, .int p1, .int p2])).length) Slot.unset).toArray = ls at hl ⊢
  have hl : lv_has ls 4 [(0, .ref (h 3)), (1, .int p0), (2, .int p1), (3, .int p2)] := hl
  unfold f_X1_whyNoGo_3 at hf
  refine lv_aload_n hx hb dX1_whyNoGo_0 rfl (lv_at hl 0 rfl) ?_
  refine va_get (D := (dC, dI)) (ci := 1) (v := .ref (h 6)) (C := RX1) (T := TX1) (N := 10) hx hb hts hin1 hown hK hP 3 rfl rfl 2 (by decide) (hts _ lk21_1) (fun _ h9 => h9) rfl dX1_whyNoGo_1 ?_
  refine lv_iload_n hx hb dX1_whyNoGo_4 rfl (lv_at hl 1 rfl) ?_
  obtain ⟨x1, hix1, ex1, hf⟩ := rd_b hf
  refine va_iald hx hb hK hP 6 0 rfl rfl hix1 dX1_whyNoGo_5 (kI ex1 ?_)
  refine lv_iload_n hx hb dX1_whyNoGo_6 rfl (lv_at hl 3 rfl) ?_
  refine lv_icmp_ge (tgt := 12) hx hb dX1_whyNoGo_7 (by decide) (fun c10 => ?_) (fun c10 => ?_)
  · have hf := (if_pos c10).symm.trans hf
    refine lv_aload_n hx hb dX1_whyNoGo_12 rfl (lv_at hl 0 rfl) ?_
    refine va_get (D := (dC, dI)) (ci := 1) (v := .ref (h 7)) (C := RX1) (T := TX1) (N := 10) hx hb hts hin1 hown hK hP 3 rfl rfl 3 (by decide) (hts _ lk24_1) (fun _ h9 => h9) rfl dX1_whyNoGo_13 ?_
    refine lv_iload_n hx hb dX1_whyNoGo_16 rfl (lv_at hl 1 rfl) ?_
    obtain ⟨x2, hix2, ex2, hf⟩ := rd_b hf
    refine va_iald hx hb hK hP 7 0 rfl rfl hix2 dX1_whyNoGo_17 (kI ex2 ?_)
    refine lv_iload_n hx hb dX1_whyNoGo_18 rfl (lv_at hl 2 rfl) ?_
    obtain ⟨r3, er3, hf⟩ := bd hf
    refine klXNi (rest := []) (As := [.int x2, .int p1]) ⟨hx, hb, hml, hown, hts⟩ (c_X10_isOnOneSide l s.heap.size x2 p1 r3 er3) (fun _ _ _ _ _ => trivial) (fun _ _ _ => trivial) ⟨va_cnB 2 hts gX1_whyNoGo_X10_isOnOneSide_n121 rfl rfl rfl (hE.1.1 ("OnlyTwo$Camp", 121, ⟨"OnlyTwo", "isOnOneSide", "(II)Z"⟩, "OnlyTwo") (by decide +kernel)) (hts (.initialized RX10) (by decide +kernel)) (by decide +kernel) ⟨Nat.le_of_ble_eq_true rfl, Nat.le_of_ble_eq_true rfl⟩, hts (.static yX10_isOnOneSide) (by decide +kernel), trivial⟩ rfl hl.1 rfl (Nat.le_of_ble_eq_true rfl) dX1_whyNoGo_19 ⟨Nat.zero_le _, Nat.zero_le _⟩ hS hA (fun H2 locs hk hS => ?_)
    have hP := kpP hP hk
    generalize H2 = H at hP hS ⊢
    refine lv_if_ne (tgt := 27) hx hb dX1_whyNoGo_22 (by decide) (fun c9 => ?_) (fun c9 => ?_)
    · have hf := (if_neg c9).symm.trans hf
      refine lv_aload_n hx hb dX1_whyNoGo_27 rfl (lv_at hl 0 rfl) ?_
      refine lv_aload_n hx hb dX1_whyNoGo_28 rfl (lv_at hl 0 rfl) ?_
      refine va_get (D := (dC, dI)) (ci := 1) (v := .ref (h 7)) (C := RX1) (T := TX1) (N := 10) hx hb hts hin1 hown hK hP 3 rfl rfl 3 (by decide) (hts _ lk24_1) (fun _ h9 => h9) rfl dX1_whyNoGo_29 ?_
      refine lv_iload_n hx hb dX1_whyNoGo_32 rfl (lv_at hl 1 rfl) ?_
      obtain ⟨x4, hix4, ex4, hf⟩ := rd_b hf
      refine va_iald hx hb hK hP 7 0 rfl rfl hix4 dX1_whyNoGo_33 (kI ex4 ?_)
      refine lv_aload_n hx hb dX1_whyNoGo_34 rfl (lv_at hl 0 rfl) ?_
      refine va_get (D := (dC, dI)) (ci := 1) (v := .ref (h 6)) (C := RX1) (T := TX1) (N := 10) hx hb hts hin1 hown hK hP 3 rfl rfl 2 (by decide) (hts _ lk21_1) (fun _ h9 => h9) rfl dX1_whyNoGo_35 ?_
      refine lv_iload_n hx hb dX1_whyNoGo_38 rfl (lv_at hl 1 rfl) ?_
      obtain ⟨x5, hix5, ex5, hf⟩ := rd_b hf
      refine va_iald hx hb hK hP 6 0 rfl rfl hix5 dX1_whyNoGo_39 (kI ex5 ?_)
      refine lv_aload_n hx hb dX1_whyNoGo_40 rfl (lv_at hl 0 rfl) ?_
      refine lv_aload_n hx hb dX1_whyNoGo_41 rfl (lv_at hl 0 rfl) ?_
      refine va_get (D := (dC, dI)) (ci := 1) (v := .ref (h 6)) (C := RX1) (T := TX1) (N := 10) hx hb hts hin1 hown hK hP 3 rfl rfl 2 (by decide) (hts _ lk21_1) (fun _ h9 => h9) rfl dX1_whyNoGo_42 ?_
      refine lv_iload_n hx hb dX1_whyNoGo_45 rfl (lv_at hl 1 rfl) ?_
      obtain ⟨x6, hix6, ex6, hf⟩ := rd_b hf
      refine va_iald hx hb hK hP 6 0 rfl rfl hix6 dX1_whyNoGo_46 (kI ex6 ?_)
      obtain ⟨r7, er7, hf⟩ := bd hf
      refine klCi (rest := [.int x5, .int x4, .ref (h 3)]) (As := [.int x6]) ⟨hx, hb, hml, hown, hts⟩ (c_X1_isNight_3 l dC dI t ts aK aV A h tx H.size (fun q hq => hA q (Nat.le_trans hS.1 hq)) S x6 r7 er7) (cwV 1 hts gX1_whyNoGo_X1_isNight rfl rfl rfl (by decide +kernel) ⟨Nat.le_of_ble_eq_true rfl, Nat.le_of_ble_eq_true rfl⟩) (va_recv hK hP (ci := 1) (q0 := 3) rfl rfl) rfl hl.1 rfl (Nat.le_of_ble_eq_true rfl) dX1_whyNoGo_47 ⟨Nat.zero_le _, Nat.zero_le _⟩ hE hK ⟨g, LP, pf, hP, hD, hG⟩ hS (fun H locs hC hS => ?_)
      obtain ⟨g, LP, pf, hP, hD, hG⟩ := hC
      obtain ⟨r8, er8, hf⟩ := bd hf
      refine klCi (rest := []) (As := [.int x4, .int x5, .int r7]) ⟨hx, hb, hml, hown, hts⟩ (c_X1_whyNot_3 l dC dI t ts aK aV A h tx H.size (fun q hq => hA q (Nat.le_trans hS.1 hq)) S x4 x5 r7 r8 er8) (cwV 3 hts gX1_whyNoGo_X1_whyNot rfl rfl rfl (by decide +kernel) ⟨Nat.le_of_ble_eq_true rfl, Nat.le_of_ble_eq_true rfl⟩) (va_recv hK hP (ci := 1) (q0 := 3) rfl rfl) rfl hl.1 rfl (Nat.le_of_ble_eq_true rfl) dX1_whyNoGo_50 ⟨Nat.zero_le _, Nat.zero_le _⟩ hE hK ⟨g, LP, pf, hP, hD, hG⟩ hS (fun H locs hC hS => ?_)
      obtain ⟨g, LP, pf, hP, hD, hG⟩ := hC
      exact rtCi hx hb hr hlocks ⟨g, LP, pf, hP, hD, hG⟩ hS (congrArg (fun z => some (z, S)) (Option.some.inj hf)) dX1_whyNoGo_53
    · have hf := (if_pos c9).symm.trans hf
      refine lv_iconst (v := 2) hx hb dX1_whyNoGo_25 (by decide) ?_
      exact rtCi hx hb hr hlocks ⟨g, LP, pf, hP, hD, hG⟩ hS (congrArg (fun z => some (z, S)) (Option.some.inj hf)) dX1_whyNoGo_26
  · have hf := (if_neg c10).symm.trans hf
    refine lv_iconst (v := 1) hx hb dX1_whyNoGo_10 (by decide) ?_
    exact rtCi hx hb hr hlocks ⟨g, LP, pf, hP, hD, hG⟩ hS (congrArg (fun z => some (z, S)) (Option.some.inj hf)) dX1_whyNoGo_11

def b_X1_firstNoGo_3_6 (S : CS) (y1 : Int32) (y2 : Int32) (y3 : Int32) : Option ((Int32 × Int32 × Int32) ⊕ Int32) :=
  (if (S.1 1307 0) ≤ y3 then (some (Sum.inr (-1))) else (Option.bind (f_X1_whyNoGo_3 S y3 y1 y2) (fun r4 => (if r4 = 0 then (Option.bind (rdI 20 (S.1 7) y3) (fun x5 => Option.bind (some (y1 ^^^ x5)) (fun x6 => Option.bind (rdI 20 (S.1 6) y3) (fun x7 => Option.bind (rdI 20 (S.1 7) y3) (fun x8 => Option.bind (f_X1_minutesOf_3 S x8) (fun r9 => Option.bind (some (x7 + r9)) (fun x10 => Option.bind (some (y3 + 1)) (fun x11 => some (Sum.inl (x6, x10, x11)))))))))) else (some (Sum.inr ((10 * y3) + r4)))))))
def f_X1_firstNoGo_3 (S : CS)  : Option Int32 :=
  lp (fun s => b_X1_firstNoGo_3_6 S s.1 s.2.1 s.2.2) FU (0, 0, 0)
def rmX1_firstNoGo_3 : Room := { frames := 5, cells := 0, slots := 0, locals := 115 }
abbrev RRX1_firstNoGo_3 : Room := (headSpec wsX1_firstNoGo rmX1_firstNoGo_3).room
theorem in1_X1_firstNoGo_3 : ∀ w ∈ wsX10, w ∈ wsX1_firstNoGo := by decide +kernel
set_option maxHeartbeats 4000000 in
set_option maxRecDepth 100000 in
theorem c_X1_firstNoGo_3 (l : Launch) (dC : Nat → ClassId) (dI : Nat → Nat → Nat) (t : Nat → ClassId) (ts aK aV : Nat → Nat) (A : Nat → Prop) (h : Nat → Nat) (tx : Nat) (sz : Nat) (hA0 : ∀ q : Nat, sz ≤ q → A q) (S : CS)  (r : Int32) (hf : f_X1_firstNoGo_3 S = some r) : cCi l yX1_firstNoGo wsX1_firstNoGo rmX1_firstNoGo_3 dC dI t ts aK aV A h tx tx sz [.ref (h 3)] S r S := by
  refine Met.ofW (cc := cX1_firstNoGo) (maxL := 5) (ret := (some .int)) (by decide) rfl ?_
  intro p e s m args below meth c s₁ B hml hv
  obtain ⟨hargs, hsz, hE, hC, hK⟩ := hv
  have hx := B.exec
  have hb := B.bytes
  have hr := B.returns
  have hts := atoms_spec (ws := wsX1_firstNoGo) B.pre
  have hown : s.vm.findClass RX1 = some m.cls := findClass_of_methodNamed B.named
  have hlocks := B.notSynchronized
  have hsz : s.heap.size = sz := hsz
  subst hsz
  have hin1 := in1_X1_firstNoGo_3
  have lk21_1 : Cond.fieldLink RX1 21 (TX1 2).1 (TX1 2).2.1 (TX1 2).2.2.1 ∈ wsX1_firstNoGo := by decide +kernel
  have lk24_1 : Cond.fieldLink RX1 24 (TX1 3).1 (TX1 3).2.1 (TX1 3).2.2.1 ∈ wsX1_firstNoGo := by decide +kernel
  have lk59_1 : Cond.fieldLink RX1 59 (TX1 7).1 (TX1 7).2.1 (TX1 7).2.2.1 ∈ wsX1_firstNoGo := by decide +kernel
  have hA : ∀ q : Nat, s.heap.size ≤ q → A q := hA0
  obtain ⟨g, LP, pf, hP, hD, hG⟩ := hC
  have hS : va_S A s.heap s.heap [] := va_S.rf
  have hl := lv_entry ([.ref (h 3)]) (n := 5) (Nat.le_of_ble_eq_true rfl)
  rw [show entryFrame m args 5 = entryFrame m ([.ref (h 3)] : List Value).toArray 5 from by rw [hargs], lg_entry_eq]
  generalize (lg_sl ([.ref (h 3)]) ++ List.replicate (5 - (lg_sl ([.ref (h 3)])).length) Slot.unset).toArray = ls at hl ⊢
  have hl : lv_has ls 5 [(0, .ref (h 3))] := hl
  unfold f_X1_firstNoGo_3 at hf
  refine lv_iconst (v := 0) hx hb dX1_firstNoGo_0 (by decide) ?_
  refine lv_istore_n (lv' := [(1, .int 0), (0, .ref (h 3))]) hx hb dX1_firstNoGo_1 rfl hl (by decide) rfl (fun ls hl => ?_)
  refine lv_iconst (v := 0) hx hb dX1_firstNoGo_2 (by decide) ?_
  refine lv_istore_n (lv' := [(2, .int 0), (1, .int 0), (0, .ref (h 3))]) hx hb dX1_firstNoGo_3 rfl hl (by decide) rfl (fun ls hl => ?_)
  refine lv_iconst (v := 0) hx hb dX1_firstNoGo_4 (by decide) ?_
  refine lv_istore_n (lv' := [(3, .int 0), (2, .int 0), (1, .int 0), (0, .ref (h 3))]) hx hb dX1_firstNoGo_5 rfl hl (by decide) rfl (fun ls hl => ?_)
  have L6 : ∀ (n : Nat) (y1 : Int32) (y2 : Int32) (y3 : Int32) (g : Nat → Nat → Option Nat) (LP : List Nat) (pf : Nat → va_E) (H : Heap) (locs : List Loc) (ls : Array Slot), lp (fun s => b_X1_firstNoGo_3_6 S s.1 s.2.1 s.2.2) n (y1, y2, y3) = some r → va_P (dC, dI) vwCl (wC t h tx g S ++ va_pl LP pf) H → va_D A (wC t h tx g S ++ va_pl LP pf) → rlC g LP pf S → va_S A s.heap H locs → lv_has ls 5 [(0, .ref (h 3)), (1, .int y1), (2, .int y2), (3, .int y3)] → W p l e RRX1_firstNoGo_3 s m args below meth c H locs 0 0 (MQ below (qcCi dC dI t A h tx r S) args s 0 0 A) (F0 m 6 ls []) := by
    intro n
    induction n with
    | zero => intro y1 y2 y3 g LP pf H locs ls hf; exact lp_z hf
    | succ n ih6 =>
      intro y1 y2 y3 g LP pf H locs ls hf hP hD hG hS hl
      obtain ⟨q6, hf, hq6⟩ := lp_i hf
      have hf : b_X1_firstNoGo_3_6 S y1 y2 y3 = some q6 := hf
      unfold b_X1_firstNoGo_3_6 at hf
      refine lv_iload_n hx hb dX1_firstNoGo_6 rfl (lv_at hl 3 rfl) ?_
      refine lv_aload_n hx hb dX1_firstNoGo_7 rfl (lv_at hl 0 rfl) ?_
      refine va_get (D := (dC, dI)) (ci := 1) (v := .int (S.1 1307 0)) (C := RX1) (T := TX1) (N := 10) hx hb hts hin1 hown hK hP 3 rfl rfl 7 (by decide) (hts _ lk59_1) (fun _ h9 => h9) rfl dX1_firstNoGo_8 ?_
      refine lv_icmp_ge (tgt := 69) hx hb dX1_firstNoGo_11 (by decide) (fun c13 => ?_) (fun c13 => ?_)
      · have hf := (if_pos c13).symm.trans hf
        refine lv_iconst (v := (-1)) hx hb dX1_firstNoGo_69 (by decide) ?_
        have hf := lp_r hf hq6
        exact rtCi hx hb hr hlocks ⟨g, LP, pf, hP, hD, hG⟩ hS (congrArg (fun z => some (z, S)) (Option.some.inj hf)) dX1_firstNoGo_70
      · have hf := (if_neg c13).symm.trans hf
        refine lv_aload_n hx hb dX1_firstNoGo_14 rfl (lv_at hl 0 rfl) ?_
        refine lv_iload_n hx hb dX1_firstNoGo_15 rfl (lv_at hl 3 rfl) ?_
        refine lv_iload_n hx hb dX1_firstNoGo_16 rfl (lv_at hl 1 rfl) ?_
        refine lv_iload_n hx hb dX1_firstNoGo_17 rfl (lv_at hl 2 rfl) ?_
        obtain ⟨r4, er4, hf⟩ := bd hf
        refine klCi (rest := []) (As := [.int y3, .int y1, .int y2]) ⟨hx, hb, hml, hown, hts⟩ (c_X1_whyNoGo_3 l dC dI t ts aK aV A h tx H.size (fun q hq => hA q (Nat.le_trans hS.1 hq)) S y3 y1 y2 r4 er4) (cwV 3 hts gX1_firstNoGo_X1_whyNoGo rfl rfl rfl (by decide +kernel) ⟨Nat.le_of_ble_eq_true rfl, Nat.le_of_ble_eq_true rfl⟩) (va_recv hK hP (ci := 1) (q0 := 3) rfl rfl) rfl hl.1 rfl (Nat.le_of_ble_eq_true rfl) dX1_firstNoGo_18 ⟨Nat.zero_le _, Nat.zero_le _⟩ hE hK ⟨g, LP, pf, hP, hD, hG⟩ hS (fun H locs hC hS => ?_)
        obtain ⟨g, LP, pf, hP, hD, hG⟩ := hC
        refine lv_istore (lv' := [(4, .int r4), (0, .ref (h 3)), (1, .int y1), (2, .int y2), (3, .int y3)]) hx hb dX1_firstNoGo_21 hl (by decide) rfl (fun ls hl => ?_)
        refine lv_iload hx hb dX1_firstNoGo_23 (lv_at hl 0 rfl) ?_
        refine lv_if_eq (tgt := 36) hx hb dX1_firstNoGo_25 (by decide) (fun c12 => ?_) (fun c12 => ?_)
        · have hf := (if_pos c12).symm.trans hf
          refine lv_iload_n hx hb dX1_firstNoGo_36 rfl (lv_at hl 2 rfl) ?_
          refine lv_aload_n hx hb dX1_firstNoGo_37 rfl (lv_at hl 1 rfl) ?_
          refine va_get (D := (dC, dI)) (ci := 1) (v := .ref (h 7)) (C := RX1) (T := TX1) (N := 10) hx hb hts hin1 hown hK hP 3 rfl rfl 3 (by decide) (hts _ lk24_1) (fun _ h9 => h9) rfl dX1_firstNoGo_38 ?_
          refine lv_iload_n hx hb dX1_firstNoGo_41 rfl (lv_at hl 4 rfl) ?_
          obtain ⟨x5, hix5, ex5, hf⟩ := rd_b hf
          refine va_iald hx hb hK hP 7 0 rfl rfl hix5 dX1_firstNoGo_42 (kI ex5 ?_)
          refine lv_ixor hx hb dX1_firstNoGo_43 ?_
          refine lv_topi (fun x6 ex6 => ?_)
          have hf := bs ex6 hf
          refine lv_istore_n (lv' := [(1, .int x6), (4, .int r4), (0, .ref (h 3)), (2, .int y2), (3, .int y3)]) hx hb dX1_firstNoGo_44 rfl hl (by decide) rfl (fun ls hl => ?_)
          refine lv_aload_n hx hb dX1_firstNoGo_45 rfl (lv_at hl 2 rfl) ?_
          refine va_get (D := (dC, dI)) (ci := 1) (v := .ref (h 6)) (C := RX1) (T := TX1) (N := 10) hx hb hts hin1 hown hK hP 3 rfl rfl 2 (by decide) (hts _ lk21_1) (fun _ h9 => h9) rfl dX1_firstNoGo_46 ?_
          refine lv_iload_n hx hb dX1_firstNoGo_49 rfl (lv_at hl 4 rfl) ?_
          obtain ⟨x7, hix7, ex7, hf⟩ := rd_b hf
          refine va_iald hx hb hK hP 6 0 rfl rfl hix7 dX1_firstNoGo_50 (kI ex7 ?_)
          refine lv_aload_n hx hb dX1_firstNoGo_51 rfl (lv_at hl 2 rfl) ?_
          refine lv_aload_n hx hb dX1_firstNoGo_52 rfl (lv_at hl 2 rfl) ?_
          refine va_get (D := (dC, dI)) (ci := 1) (v := .ref (h 7)) (C := RX1) (T := TX1) (N := 10) hx hb hts hin1 hown hK hP 3 rfl rfl 3 (by decide) (hts _ lk24_1) (fun _ h9 => h9) rfl dX1_firstNoGo_53 ?_
          refine lv_iload_n hx hb dX1_firstNoGo_56 rfl (lv_at hl 4 rfl) ?_
          obtain ⟨x8, hix8, ex8, hf⟩ := rd_b hf
          refine va_iald hx hb hK hP 7 0 rfl rfl hix8 dX1_firstNoGo_57 (kI ex8 ?_)
          obtain ⟨r9, er9, hf⟩ := bd hf
          refine klCi (rest := [.int x7]) (As := [.int x8]) ⟨hx, hb, hml, hown, hts⟩ (c_X1_minutesOf_3 l dC dI t ts aK aV A h tx H.size (fun q hq => hA q (Nat.le_trans hS.1 hq)) S x8 r9 er9) (cwV 1 hts gX1_firstNoGo_X1_minutesOf rfl rfl rfl (by decide +kernel) ⟨Nat.le_of_ble_eq_true rfl, Nat.le_of_ble_eq_true rfl⟩) (va_recv hK hP (ci := 1) (q0 := 3) rfl rfl) rfl hl.1 rfl (Nat.le_of_ble_eq_true rfl) dX1_firstNoGo_58 ⟨Nat.zero_le _, Nat.zero_le _⟩ hE hK ⟨g, LP, pf, hP, hD, hG⟩ hS (fun H locs hC hS => ?_)
          obtain ⟨g, LP, pf, hP, hD, hG⟩ := hC
          refine lv_iadd hx hb dX1_firstNoGo_61 ?_
          refine lv_topi (fun x10 ex10 => ?_)
          have hf := bs ex10 hf
          refine lv_istore_n (lv' := [(2, .int x10), (1, .int x6), (4, .int r4), (0, .ref (h 3)), (3, .int y3)]) hx hb dX1_firstNoGo_62 rfl hl (by decide) rfl (fun ls hl => ?_)
          obtain ⟨x11, ex11, hf⟩ := bn hf
          refine lv_iinc (v := x11) (lv' := [(3, .int x11), (2, .int x10), (1, .int x6), (4, .int r4), (0, .ref (h 3))]) hx hb dX1_firstNoGo_63 hl (k := 4) rfl (by rw [ex11]; rfl) (by decide) rfl (fun ls hl => ?_)
          refine lv_goto (tgt := 6) hx hb dX1_firstNoGo_66 (by decide) ?_
          exact ih6 x6 x10 x11 _ _ _ _ _ _ (lp_l hf hq6) hP hD hG hS (lv_sub hl [4, 2, 1, 0] rfl)
        · have hf := (if_neg c12).symm.trans hf
          refine lv_bipush (v := 10) hx hb dX1_firstNoGo_28 (by decide) ?_
          refine lv_iload_n hx hb dX1_firstNoGo_30 rfl (lv_at hl 4 rfl) ?_
          refine lv_imul hx hb dX1_firstNoGo_31 ?_
          refine lv_iload hx hb dX1_firstNoGo_32 (lv_at hl 0 rfl) ?_
          refine lv_iadd hx hb dX1_firstNoGo_34 ?_
          have hf := lp_r hf hq6
          exact rtCi hx hb hr hlocks ⟨g, LP, pf, hP, hD, hG⟩ hS (congrArg (fun z => some (z, S)) (Option.some.inj hf)) dX1_firstNoGo_35
  exact L6 FU 0 0 0 _ _ _ _ _ _ hf hP hD hG hS (lv_sub hl [3, 2, 1, 0] rfl)

def k_X1_weightOfGo_3_4 (y1 : Int32) : Option Int32 :=
  some y1
def b_X1_weightOfGo_3_4 (S : CS) (p0 : Int32) (y2 : Int32) (y3 : Int32) : Option ((Int32 × Int32) ⊕ Int32) :=
  (if (S.1 1306 0) ≤ y3 then (some (Sum.inr y2)) else (Option.bind (rdI 20 (S.1 7) p0) (fun x4 => Option.bind (f_X10_hasPorterIn x4 y3) (fun r5 => (if r5 = 0 then (Option.bind (some (y3 + 1)) (fun x6 => some (Sum.inl (y2, x6)))) else (Option.bind (rdI 20 (S.1 6) p0) (fun x7 => Option.bind (f_X1_weightOf_3 S y3 x7) (fun r8 => Option.bind (some (y2 + r8)) (fun x9 => Option.bind (some (y3 + 1)) (fun x10 => some (Sum.inl (x9, x10))))))))))))
def f_X1_weightOfGo_3 (S : CS) (p0 : Int32) : Option Int32 :=
  Option.bind (lp (fun s => b_X1_weightOfGo_3_4 S p0 s.1 s.2) FU (0, 0)) (fun s => k_X1_weightOfGo_3_4 s)
def rmX1_weightOfGo_3 : Room := { frames := 2, cells := 0, slots := 0, locals := 44 }
abbrev RRX1_weightOfGo_3 : Room := (headSpec wsX1_weightOfGo rmX1_weightOfGo_3).room
theorem in1_X1_weightOfGo_3 : ∀ w ∈ wsX10, w ∈ wsX1_weightOfGo := by decide +kernel
set_option maxHeartbeats 4000000 in
set_option maxRecDepth 100000 in
theorem c_X1_weightOfGo_3 (l : Launch) (dC : Nat → ClassId) (dI : Nat → Nat → Nat) (t : Nat → ClassId) (ts aK aV : Nat → Nat) (A : Nat → Prop) (h : Nat → Nat) (tx : Nat) (sz : Nat) (hA0 : ∀ q : Nat, sz ≤ q → A q) (S : CS) (p0 : Int32) (r : Int32) (hf : f_X1_weightOfGo_3 S p0 = some r) : cCi l yX1_weightOfGo wsX1_weightOfGo rmX1_weightOfGo_3 dC dI t ts aK aV A h tx tx sz [.ref (h 3), .int p0] S r S := by
  refine Met.ofW (cc := cX1_weightOfGo) (maxL := 4) (ret := (some .int)) (by decide) rfl ?_
  intro p e s m args below meth c s₁ B hml hv
  obtain ⟨hargs, hsz, hE, hC, hK⟩ := hv
  have hx := B.exec
  have hb := B.bytes
  have hr := B.returns
  have hts := atoms_spec (ws := wsX1_weightOfGo) B.pre
  have hown : s.vm.findClass RX1 = some m.cls := findClass_of_methodNamed B.named
  have hlocks := B.notSynchronized
  have hsz : s.heap.size = sz := hsz
  subst hsz
  have hin1 := in1_X1_weightOfGo_3
  have lk21_1 : Cond.fieldLink RX1 21 (TX1 2).1 (TX1 2).2.1 (TX1 2).2.2.1 ∈ wsX1_weightOfGo := by decide +kernel
  have lk24_1 : Cond.fieldLink RX1 24 (TX1 3).1 (TX1 3).2.1 (TX1 3).2.2.1 ∈ wsX1_weightOfGo := by decide +kernel
  have lk56_1 : Cond.fieldLink RX1 56 (TX1 6).1 (TX1 6).2.1 (TX1 6).2.2.1 ∈ wsX1_weightOfGo := by decide +kernel
  have hA : ∀ q : Nat, s.heap.size ≤ q → A q := hA0
  obtain ⟨g, LP, pf, hP, hD, hG⟩ := hC
  have hS : va_S A s.heap s.heap [] := va_S.rf
  have hl := lv_entry ([.ref (h 3), .int p0]) (n := 4) (Nat.le_of_ble_eq_true rfl)
  rw [show entryFrame m args 4 = entryFrame m ([.ref (h 3), .int p0] : List Value).toArray 4 from by rw [hargs], lg_entry_eq]
  generalize (lg_sl ([.ref (h 3), .int p0]) ++ List.replicate (4 - (lg_sl ([.ref (h 3), .int p0])).length) Slot.unset).toArray = ls at hl ⊢
  have hl : lv_has ls 4 [(0, .ref (h 3)), (1, .int p0)] := hl
  unfold f_X1_weightOfGo_3 at hf
  refine lv_iconst (v := 0) hx hb dX1_weightOfGo_0 (by decide) ?_
  refine lv_istore_n (lv' := [(2, .int 0), (0, .ref (h 3)), (1, .int p0)]) hx hb dX1_weightOfGo_1 rfl hl (by decide) rfl (fun ls hl => ?_)
  refine lv_iconst (v := 0) hx hb dX1_weightOfGo_2 (by decide) ?_
  refine lv_istore_n (lv' := [(3, .int 0), (2, .int 0), (0, .ref (h 3)), (1, .int p0)]) hx hb dX1_weightOfGo_3 rfl hl (by decide) rfl (fun ls hl => ?_)
  have K4 : ∀ (y1 : Int32) (g : Nat → Nat → Option Nat) (LP : List Nat) (pf : Nat → va_E) (H : Heap) (locs : List Loc) (ls : Array Slot), k_X1_weightOfGo_3_4 y1 = some r → va_P (dC, dI) vwCl (wC t h tx g S ++ va_pl LP pf) H → va_D A (wC t h tx g S ++ va_pl LP pf) → rlC g LP pf S → va_S A s.heap H locs → lv_has ls 4 [(2, .int y1)] → W p l e RRX1_weightOfGo_3 s m args below meth c H locs 0 0 (MQ below (qcCi dC dI t A h tx r S) args s 0 0 A) (F0 m 45 ls []) := by
    intro y1 g LP pf H locs ls hf hP hD hG hS hl
    unfold k_X1_weightOfGo_3_4 at hf
    refine lv_iload_n hx hb dX1_weightOfGo_45 rfl (lv_at hl 0 rfl) ?_
    exact rtCi hx hb hr hlocks ⟨g, LP, pf, hP, hD, hG⟩ hS (congrArg (fun z => some (z, S)) (Option.some.inj hf)) dX1_weightOfGo_46
  obtain ⟨z4, ez4, hz4⟩ := bd hf
  have L4 : ∀ (n : Nat) (y2 : Int32) (y3 : Int32) (g : Nat → Nat → Option Nat) (LP : List Nat) (pf : Nat → va_E) (H : Heap) (locs : List Loc) (ls : Array Slot), lp (fun s => b_X1_weightOfGo_3_4 S p0 s.1 s.2) n (y2, y3) = some z4 → va_P (dC, dI) vwCl (wC t h tx g S ++ va_pl LP pf) H → va_D A (wC t h tx g S ++ va_pl LP pf) → rlC g LP pf S → va_S A s.heap H locs → lv_has ls 4 [(0, .ref (h 3)), (1, .int p0), (2, .int y2), (3, .int y3)] → W p l e RRX1_weightOfGo_3 s m args below meth c H locs 0 0 (MQ below (qcCi dC dI t A h tx r S) args s 0 0 A) (F0 m 4 ls []) := by
    intro n
    induction n with
    | zero => intro y2 y3 g LP pf H locs ls hf; exact lp_z hf
    | succ n ih4 =>
      intro y2 y3 g LP pf H locs ls hf hP hD hG hS hl
      obtain ⟨q4, hf, hq4⟩ := lp_i hf
      have hf : b_X1_weightOfGo_3_4 S p0 y2 y3 = some q4 := hf
      unfold b_X1_weightOfGo_3_4 at hf
      refine lv_iload_n hx hb dX1_weightOfGo_4 rfl (lv_at hl 3 rfl) ?_
      refine lv_aload_n hx hb dX1_weightOfGo_5 rfl (lv_at hl 0 rfl) ?_
      refine va_get (D := (dC, dI)) (ci := 1) (v := .int (S.1 1306 0)) (C := RX1) (T := TX1) (N := 10) hx hb hts hin1 hown hK hP 3 rfl rfl 6 (by decide) (hts _ lk56_1) (fun _ h9 => h9) rfl dX1_weightOfGo_6 ?_
      refine lv_icmp_ge (tgt := 45) hx hb dX1_weightOfGo_9 (by decide) (fun c12 => ?_) (fun c12 => ?_)
      · have hf := (if_pos c12).symm.trans hf
        exact K4 y2 _ _ _ _ _ _ (lp_x (k := (fun s => k_X1_weightOfGo_3_4 s)) (lp_r hf hq4) hz4) hP hD hG hS (lv_sub hl [2] rfl)
      · have hf := (if_neg c12).symm.trans hf
        refine lv_aload_n hx hb dX1_weightOfGo_12 rfl (lv_at hl 0 rfl) ?_
        refine va_get (D := (dC, dI)) (ci := 1) (v := .ref (h 7)) (C := RX1) (T := TX1) (N := 10) hx hb hts hin1 hown hK hP 3 rfl rfl 3 (by decide) (hts _ lk24_1) (fun _ h9 => h9) rfl dX1_weightOfGo_13 ?_
        refine lv_iload_n hx hb dX1_weightOfGo_16 rfl (lv_at hl 1 rfl) ?_
        obtain ⟨x4, hix4, ex4, hf⟩ := rd_b hf
        refine va_iald hx hb hK hP 7 0 rfl rfl hix4 dX1_weightOfGo_17 (kI ex4 ?_)
        refine lv_iload_n hx hb dX1_weightOfGo_18 rfl (lv_at hl 3 rfl) ?_
        obtain ⟨r5, er5, hf⟩ := bd hf
        refine klXNi (rest := []) (As := [.int x4, .int y3]) ⟨hx, hb, hml, hown, hts⟩ (c_X10_hasPorterIn l H.size x4 y3 r5 er5) (fun _ _ _ _ _ => trivial) (fun _ _ _ => trivial) ⟨va_cnB 2 hts gX1_weightOfGo_X10_hasPorterIn_n66 rfl rfl rfl (hE.1.1 ("OnlyTwo$Camp", 66, ⟨"OnlyTwo", "hasPorterIn", "(II)Z"⟩, "OnlyTwo") (by decide +kernel)) (hts (.initialized RX10) (by decide +kernel)) (by decide +kernel) ⟨Nat.le_of_ble_eq_true rfl, Nat.le_of_ble_eq_true rfl⟩, hts (.static yX10_hasPorterIn) (by decide +kernel), trivial⟩ rfl hl.1 rfl (Nat.le_of_ble_eq_true rfl) dX1_weightOfGo_19 ⟨Nat.zero_le _, Nat.zero_le _⟩ hS hA (fun H2 locs hk hS => ?_)
        have hP := kpP hP hk
        generalize H2 = H at hP hS ⊢
        refine lv_if_eq (tgt := 39) hx hb dX1_weightOfGo_22 (by decide) (fun c11 => ?_) (fun c11 => ?_)
        · have hf := (if_pos c11).symm.trans hf
          obtain ⟨x6, ex6, hf⟩ := bn hf
          refine lv_iinc (v := x6) (lv' := [(3, .int x6), (0, .ref (h 3)), (1, .int p0), (2, .int y2)]) hx hb dX1_weightOfGo_39 hl (k := 3) rfl (by rw [ex6]; rfl) (by decide) rfl (fun ls hl => ?_)
          refine lv_goto (tgt := 4) hx hb dX1_weightOfGo_42 (by decide) ?_
          exact ih4 y2 x6 _ _ _ _ _ _ (lp_l hf hq4) hP hD hG hS (lv_sub hl [1, 2, 3, 0] rfl)
        · have hf := (if_neg c11).symm.trans hf
          refine lv_iload_n hx hb dX1_weightOfGo_25 rfl (lv_at hl 2 rfl) ?_
          refine lv_aload_n hx hb dX1_weightOfGo_26 rfl (lv_at hl 0 rfl) ?_
          refine lv_iload_n hx hb dX1_weightOfGo_27 rfl (lv_at hl 3 rfl) ?_
          refine lv_aload_n hx hb dX1_weightOfGo_28 rfl (lv_at hl 0 rfl) ?_
          refine va_get (D := (dC, dI)) (ci := 1) (v := .ref (h 6)) (C := RX1) (T := TX1) (N := 10) hx hb hts hin1 hown hK hP 3 rfl rfl 2 (by decide) (hts _ lk21_1) (fun _ h9 => h9) rfl dX1_weightOfGo_29 ?_
          refine lv_iload_n hx hb dX1_weightOfGo_32 rfl (lv_at hl 1 rfl) ?_
          obtain ⟨x7, hix7, ex7, hf⟩ := rd_b hf
          refine va_iald hx hb hK hP 6 0 rfl rfl hix7 dX1_weightOfGo_33 (kI ex7 ?_)
          obtain ⟨r8, er8, hf⟩ := bd hf
          refine klCi (rest := [.int y2]) (As := [.int y3, .int x7]) ⟨hx, hb, hml, hown, hts⟩ (c_X1_weightOf_3 l dC dI t ts aK aV A h tx H.size (fun q hq => hA q (Nat.le_trans hS.1 hq)) S y3 x7 r8 er8) (cwV 2 hts gX1_weightOfGo_X1_weightOf rfl rfl rfl (by decide +kernel) ⟨Nat.le_of_ble_eq_true rfl, Nat.le_of_ble_eq_true rfl⟩) (va_recv hK hP (ci := 1) (q0 := 3) rfl rfl) rfl hl.1 rfl (Nat.le_of_ble_eq_true rfl) dX1_weightOfGo_34 ⟨Nat.zero_le _, Nat.zero_le _⟩ hE hK ⟨g, LP, pf, hP, hD, hG⟩ hS (fun H locs hC hS => ?_)
          obtain ⟨g, LP, pf, hP, hD, hG⟩ := hC
          refine lv_iadd hx hb dX1_weightOfGo_37 ?_
          refine lv_topi (fun x9 ex9 => ?_)
          have hf := bs ex9 hf
          refine lv_istore_n (lv' := [(2, .int x9), (0, .ref (h 3)), (1, .int p0), (3, .int y3)]) hx hb dX1_weightOfGo_38 rfl hl (by decide) rfl (fun ls hl => ?_)
          obtain ⟨x10, ex10, hf⟩ := bn hf
          refine lv_iinc (v := x10) (lv' := [(3, .int x10), (2, .int x9), (0, .ref (h 3)), (1, .int p0)]) hx hb dX1_weightOfGo_39 hl (k := 3) rfl (by rw [ex10]; rfl) (by decide) rfl (fun ls hl => ?_)
          refine lv_goto (tgt := 4) hx hb dX1_weightOfGo_42 (by decide) ?_
          exact ih4 x9 x10 _ _ _ _ _ _ (lp_l hf hq4) hP hD hG hS (lv_sub hl [2, 3, 1, 0] rfl)
  exact L4 FU 0 0 _ _ _ _ _ _ ez4 hP hD hG hS (lv_sub hl [2, 3, 1, 0] rfl)

def k_X10_crossed_15 (y1 : Int64) (y2 : Int64) (y3 : Int64) : Option Int64 :=
  some (y1 &&& (y2 ||| y3))
def b_X10_crossed_15 (p1 : Int32) (y4 : Int64) (y5 : Int64) (y6 : Int64) (y7 : Int32) : Option ((Int64 × Int64 × Int64 × Int32) ⊕ (Int64 × Int64 × Int64)) :=
  (if 6 ≤ y7 then (some (Sum.inr (y4, y5, y6))) else (Option.bind (f_X10_hasPorterIn p1 y7) (fun r8 => (if r8 = 0 then (Option.bind (some (y7 + 1)) (fun x9 => some (Sum.inl (y4, y5, y6, x9)))) else (Option.bind (rdJ 6 wiJ y7) (fun x10 => Option.bind (rdJ 6 wiJ y7) (fun x11 => Option.bind (some (((y4 &&& x10) <<< (Int32.toInt64 (1 <<< (y7 &&& 31)) &&& 63)) ||| (((Int64.toUInt64 y4 >>> ((Int32.toInt64 (1 <<< (y7 &&& 31))).toUInt64 &&& Int64.toUInt64 63)).toInt64) &&& x11))) (fun x12 => Option.bind (rdJ 6 wiJ y7) (fun x13 => Option.bind (some (y5 &&& x13)) (fun x14 => Option.bind (rdJ 6 wiJ y7) (fun x15 => Option.bind (some (y6 &&& (x15 ^^^ (-1)))) (fun x16 => Option.bind (some (y7 + 1)) (fun x17 => some (Sum.inl (x12, x14, x16, x17)))))))))))))))
def f_X10_crossed (p0 : Int64) (p1 : Int32) : Option Int64 :=
  Option.bind (lp (fun s => b_X10_crossed_15 p1 s.1 s.2.1 s.2.2.1 s.2.2.2) FU (p0, (-1), (-1), 0)) (fun s => k_X10_crossed_15 s.1 s.2.1 s.2.2)
def rmX10_crossed : Room := { frames := 1, cells := 0, slots := 0, locals := 21 }
abbrev RRX10_crossed : Room := (headSpec wsX10_crossed rmX10_crossed).room
set_option maxHeartbeats 4000000 in
set_option maxRecDepth 100000 in
theorem c_X10_crossed (l : Launch) (ts aK aV : Nat → Nat) (sz : Nat) (p0 : Int64) (p1 : Int32) (r : Int64) (hf : f_X10_crossed p0 p1 = some r) : cXl l yX10_crossed wsX10_crossed rmX10_crossed sz [.long p0, .int p1] (fun U => enC ts aK aV (fun q => sz ≤ q) U U.heap) r := by
  refine Met.ofW (cc := cX10_crossed) (maxL := 10) (ret := (some .long)) (by decide) rfl ?_
  intro p e s m args below meth c s₁ B hml hv
  obtain ⟨hargs, hsz, hXX⟩ := hv
  have hx := B.exec
  have hb := B.bytes
  have hr := B.returns
  have hts := atoms_spec (ws := wsX10_crossed) B.pre
  have hown : s.vm.findClass RX10 = some m.cls := findClass_of_methodNamed B.named
  have hlocks := B.notSynchronized
  have hsz : s.heap.size = sz := hsz
  subst hsz
  obtain ⟨A, hAe⟩ : ∃ A : Nat → Prop, A = fun q => s.heap.size ≤ q := ⟨_, rfl⟩
  rw [← hAe]
  have hA : ∀ q : Nat, s.heap.size ≤ q → A q := fun q h => by rw [hAe]; exact h
  have hE : enC ts aK aV A s s.heap := by rw [hAe]; exact hXX
  have hS : va_S A s.heap s.heap [] := va_S.rf
  have hl := lv_entry ([.long p0, .int p1]) (n := 10) (Nat.le_of_ble_eq_true rfl)
  rw [show entryFrame m args 10 = entryFrame m ([.long p0, .int p1] : List Value).toArray 10 from by rw [hargs], lg_entry_eq]
  generalize (lg_sl ([.long p0, .int p1]) ++ List.replicate (10 - (lg_sl ([.long p0, .int p1])).length) Slot.unset).toArray = ls at hl ⊢
  have hl : lv_has ls 10 [(0, .long p0), (2, .int p1)] := hl
  unfold f_X10_crossed at hf
  refine lv_lload_n hx hb dX10_crossed_0 rfl (lv_at hl 0 rfl) ?_
  refine lv_lstore_n (lv' := [(3, .long p0), (0, .long p0), (2, .int p1)]) hx hb dX10_crossed_1 rfl hl (by decide) rfl (fun ls hl => ?_)
  refine lv_ldc2 (v := (-1)) hx hb hown (hts (.constantLong RX10 223 (-1)) (by decide +kernel)) dX10_crossed_2 ?_
  refine lv_lstore (lv' := [(5, .long (-1)), (3, .long p0), (0, .long p0), (2, .int p1)]) hx hb dX10_crossed_5 hl (by decide) rfl (fun ls hl => ?_)
  refine lv_ldc2 (v := (-1)) hx hb hown (hts (.constantLong RX10 223 (-1)) (by decide +kernel)) dX10_crossed_7 ?_
  refine lv_lstore (lv' := [(7, .long (-1)), (5, .long (-1)), (3, .long p0), (0, .long p0), (2, .int p1)]) hx hb dX10_crossed_10 hl (by decide) rfl (fun ls hl => ?_)
  refine lv_iconst (v := 0) hx hb dX10_crossed_12 (by decide) ?_
  refine lv_istore (lv' := [(9, .int 0), (7, .long (-1)), (5, .long (-1)), (3, .long p0), (0, .long p0), (2, .int p1)]) hx hb dX10_crossed_13 hl (by decide) rfl (fun ls hl => ?_)
  have K15 : ∀ (y1 : Int64) (y2 : Int64) (y3 : Int64) (H : Heap) (locs : List Loc) (ls : Array Slot), k_X10_crossed_15 y1 y2 y3 = some r → va_S A s.heap H locs → lv_has ls 10 [(3, .long y1), (5, .long y2), (7, .long y3)] → W p l e RRX10_crossed s m args below meth c H locs 0 0 (MQ below (qcEl A r) args s 0 0 A) (F0 m 91 ls []) := by
    intro y1 y2 y3 H locs ls hf hS hl
    unfold k_X10_crossed_15 at hf
    refine lv_lload_n hx hb dX10_crossed_91 rfl (lv_at hl 0 rfl) ?_
    refine lv_lload hx hb dX10_crossed_92 (lv_at hl 1 rfl) ?_
    refine lv_lload hx hb dX10_crossed_94 (lv_at hl 2 rfl) ?_
    refine lv_lor hx hb dX10_crossed_96 ?_
    refine lv_land hx hb dX10_crossed_97 ?_
    exact rtEl hx hb hr hlocks hS hf dX10_crossed_98
  obtain ⟨z15, ez15, hz15⟩ := bd hf
  have L15 : ∀ (n : Nat) (y4 : Int64) (y5 : Int64) (y6 : Int64) (y7 : Int32) (H : Heap) (locs : List Loc) (ls : Array Slot), lp (fun s => b_X10_crossed_15 p1 s.1 s.2.1 s.2.2.1 s.2.2.2) n (y4, y5, y6, y7) = some z15 → va_S A s.heap H locs → lv_has ls 10 [(2, .int p1), (3, .long y4), (5, .long y5), (7, .long y6), (9, .int y7)] → W p l e RRX10_crossed s m args below meth c H locs 0 0 (MQ below (qcEl A r) args s 0 0 A) (F0 m 15 ls []) := by
    intro n
    induction n with
    | zero => intro y4 y5 y6 y7 H locs ls hf; exact lp_z hf
    | succ n ih15 =>
      intro y4 y5 y6 y7 H locs ls hf hS hl
      obtain ⟨q15, hf, hq15⟩ := lp_i hf
      have hf : b_X10_crossed_15 p1 y4 y5 y6 y7 = some q15 := hf
      unfold b_X10_crossed_15 at hf
      refine lv_iload hx hb dX10_crossed_15 (lv_at hl 4 rfl) ?_
      refine lv_bipush (v := 6) hx hb dX10_crossed_17 (by decide) ?_
      refine lv_icmp_ge (tgt := 91) hx hb dX10_crossed_19 (by decide) (fun c19 => ?_) (fun c19 => ?_)
      · have hf := (if_pos c19).symm.trans hf
        exact K15 y4 y5 y6 _ _ _ (lp_x (k := (fun s => k_X10_crossed_15 s.1 s.2.1 s.2.2)) (lp_r hf hq15) hz15) hS (lv_sub hl [1, 2, 3] rfl)
      · have hf := (if_neg c19).symm.trans hf
        refine lv_iload_n hx hb dX10_crossed_22 rfl (lv_at hl 0 rfl) ?_
        refine lv_iload hx hb dX10_crossed_23 (lv_at hl 4 rfl) ?_
        obtain ⟨r8, er8, hf⟩ := bd hf
        refine klXi (rest := []) (As := [.int p1, .int y7]) ⟨hx, hb, hml, hown, hts⟩ (c_X10_hasPorterIn l H.size p1 y7 r8 er8) (fun _ _ _ _ _ => trivial) (fun _ _ _ => trivial) (va_cwS 2 hts gX10_crossed_X10_hasPorterIn rfl rfl rfl (by decide +kernel) ⟨Nat.le_of_ble_eq_true rfl, Nat.le_of_ble_eq_true rfl⟩) rfl hl.1 rfl (Nat.le_of_ble_eq_true rfl) dX10_crossed_25 ⟨Nat.zero_le _, Nat.zero_le _⟩ hS hA (fun H2 locs hk hS => ?_)
        generalize H2 = H at hS ⊢
        refine lv_if_eq (tgt := 85) hx hb dX10_crossed_28 (by decide) (fun c18 => ?_) (fun c18 => ?_)
        · have hf := (if_pos c18).symm.trans hf
          obtain ⟨x9, ex9, hf⟩ := bn hf
          refine lv_iinc (v := x9) (lv' := [(9, .int x9), (2, .int p1), (3, .long y4), (5, .long y5), (7, .long y6)]) hx hb dX10_crossed_85 hl (k := 4) rfl (by rw [ex9]; rfl) (by decide) rfl (fun ls hl => ?_)
          refine lv_goto (tgt := 15) hx hb dX10_crossed_88 (by decide) ?_
          exact ih15 y4 y5 y6 x9 _ _ _ (lp_l hf hq15) hS (lv_sub hl [1, 2, 3, 4, 0] rfl)
        · have hf := (if_neg c18).symm.trans hf
          refine lv_lload_n hx hb dX10_crossed_31 rfl (lv_at hl 1 rfl) ?_
          refine va_gets hx hb hE.2.2.1.1 hS hown (hts (.fieldLink RX10 225 "OnlyTwo" "WITHOUT" "[J") (by decide +kernel)) (fun _ h9 => h9) dX10_crossed_32 ?_
          refine lv_iload hx hb dX10_crossed_35 (lv_at hl 4 rfl) ?_
          obtain ⟨x10, hix10, ex10, hf⟩ := rdJ_b hf
          refine va_tl hx hb hE.2.2.1.2 hS hix10 rfl dX10_crossed_37 (kJ ex10 ?_)
          refine lv_land hx hb dX10_crossed_38 ?_
          refine lv_iconst (v := 1) hx hb dX10_crossed_39 (by decide) ?_
          refine lv_iload hx hb dX10_crossed_40 (lv_at hl 4 rfl) ?_
          refine lv_ishl hx hb dX10_crossed_42 ?_
          refine lv_lshl hx hb dX10_crossed_43 rfl ?_
          refine lv_lload_n hx hb dX10_crossed_44 rfl (lv_at hl 1 rfl) ?_
          refine lv_iconst (v := 1) hx hb dX10_crossed_45 (by decide) ?_
          refine lv_iload hx hb dX10_crossed_46 (lv_at hl 4 rfl) ?_
          refine lv_ishl hx hb dX10_crossed_48 ?_
          refine lv_lushr hx hb dX10_crossed_49 rfl ?_
          refine va_gets hx hb hE.2.2.1.1 hS hown (hts (.fieldLink RX10 225 "OnlyTwo" "WITHOUT" "[J") (by decide +kernel)) (fun _ h9 => h9) dX10_crossed_50 ?_
          refine lv_iload hx hb dX10_crossed_53 (lv_at hl 4 rfl) ?_
          obtain ⟨x11, hix11, ex11, hf⟩ := rdJ_b hf
          refine va_tl hx hb hE.2.2.1.2 hS hix11 rfl dX10_crossed_55 (kJ ex11 ?_)
          refine lv_land hx hb dX10_crossed_56 ?_
          refine lv_lor hx hb dX10_crossed_57 ?_
          refine lv_topl (fun x12 ex12 => ?_)
          have hf := bs ex12 hf
          refine lv_lstore_n (lv' := [(3, .long x12), (2, .int p1), (5, .long y5), (7, .long y6), (9, .int y7)]) hx hb dX10_crossed_58 rfl hl (by decide) rfl (fun ls hl => ?_)
          refine lv_lload hx hb dX10_crossed_59 (lv_at hl 2 rfl) ?_
          refine va_gets hx hb hE.2.2.1.1 hS hown (hts (.fieldLink RX10 225 "OnlyTwo" "WITHOUT" "[J") (by decide +kernel)) (fun _ h9 => h9) dX10_crossed_61 ?_
          refine lv_iload hx hb dX10_crossed_64 (lv_at hl 4 rfl) ?_
          obtain ⟨x13, hix13, ex13, hf⟩ := rdJ_b hf
          refine va_tl hx hb hE.2.2.1.2 hS hix13 rfl dX10_crossed_66 (kJ ex13 ?_)
          refine lv_land hx hb dX10_crossed_67 ?_
          refine lv_topl (fun x14 ex14 => ?_)
          have hf := bs ex14 hf
          refine lv_lstore (lv' := [(5, .long x14), (3, .long x12), (2, .int p1), (7, .long y6), (9, .int y7)]) hx hb dX10_crossed_68 hl (by decide) rfl (fun ls hl => ?_)
          refine lv_lload hx hb dX10_crossed_70 (lv_at hl 3 rfl) ?_
          refine va_gets hx hb hE.2.2.1.1 hS hown (hts (.fieldLink RX10 225 "OnlyTwo" "WITHOUT" "[J") (by decide +kernel)) (fun _ h9 => h9) dX10_crossed_72 ?_
          refine lv_iload hx hb dX10_crossed_75 (lv_at hl 4 rfl) ?_
          obtain ⟨x15, hix15, ex15, hf⟩ := rdJ_b hf
          refine va_tl hx hb hE.2.2.1.2 hS hix15 rfl dX10_crossed_77 (kJ ex15 ?_)
          refine lv_ldc2 (v := (-1)) hx hb hown (hts (.constantLong RX10 223 (-1)) (by decide +kernel)) dX10_crossed_78 ?_
          refine lv_lxor hx hb dX10_crossed_81 ?_
          refine lv_land hx hb dX10_crossed_82 ?_
          refine lv_topl (fun x16 ex16 => ?_)
          have hf := bs ex16 hf
          refine lv_lstore (lv' := [(7, .long x16), (5, .long x14), (3, .long x12), (2, .int p1), (9, .int y7)]) hx hb dX10_crossed_83 hl (by decide) rfl (fun ls hl => ?_)
          obtain ⟨x17, ex17, hf⟩ := bn hf
          refine lv_iinc (v := x17) (lv' := [(9, .int x17), (7, .long x16), (5, .long x14), (3, .long x12), (2, .int p1)]) hx hb dX10_crossed_85 hl (k := 4) rfl (by rw [ex17]; rfl) (by decide) rfl (fun ls hl => ?_)
          refine lv_goto (tgt := 15) hx hb dX10_crossed_88 (by decide) ?_
          exact ih15 x12 x14 x16 x17 _ _ _ (lp_l hf hq15) hS (lv_sub hl [4, 3, 2, 1, 0] rfl)
  exact L15 FU p0 (-1) (-1) 0 _ _ _ ez15 hS (lv_sub hl [5, 3, 2, 1, 0] rfl)

def k_X1_turnsUntilOver_3_41 (y1 : Int64) (y2 : Int32) (y3 : Int64) : Option ((Int64 × Int32) ⊕ Int32) :=
  (if (lg_cmp y3 y1) = 0 then (some (Sum.inr (-1))) else (Option.bind (some (y2 + 1)) (fun x4 => some (Sum.inl (y3, x4)))))
def b_X1_turnsUntilOver_3_41 (S : CS) (p0 : Int32) (y1 : Int64) (y6 : Int64) (y7 : Int32) : Option ((Int64 × Int32) ⊕ Int64) :=
  (if 21 ≤ y7 then (some (Sum.inr y6)) else (Option.bind (rdI 21 (ssI 0) y7) (fun x8 => (if (x8 &&& p0) = x8 then (Option.bind (f_X1_whyNot_3 S x8 0 0) (fun r10 => (if r10 = 0 then (Option.bind (f_X10_crossed y1 x8) (fun r12 => Option.bind (some (y6 ||| r12)) (fun x13 => Option.bind (some (y7 + 1)) (fun x14 => some (Sum.inl (x13, x14)))))) else (Option.bind (some (y7 + 1)) (fun x11 => some (Sum.inl (y6, x11))))))) else (Option.bind (some (y7 + 1)) (fun x9 => some (Sum.inl (y6, x9))))))))
def b_X1_turnsUntilOver_3_5 (S : CS) (p0 : Int32) (y1 : Int64) (y2 : Int32) : Option ((Int64 × Int32) ⊕ Int32) :=
  (if 64 ≤ y2 then (some (Sum.inr (-1))) else ((if (lg_cmp (((Int64.toUInt64 y1 >>> ((Int32.toInt64 p0).toUInt64 &&& Int64.toUInt64 63)).toInt64) &&& 1) 0) = 0 then (Option.bind (lp (fun s => b_X1_turnsUntilOver_3_41 S p0 y1 s.1 s.2) FU (y1, 0)) (fun s => k_X1_turnsUntilOver_3_41 y1 y2 s)) else (some (Sum.inr y2)))))
def f_X1_turnsUntilOver_3 (S : CS) (p0 : Int32) : Option Int32 :=
  lp (fun s => b_X1_turnsUntilOver_3_5 S p0 s.1 s.2) FU (1, 0)
def rmX1_turnsUntilOver_3 : Room := { frames := 4, cells := 0, slots := 0, locals := 92 }
abbrev RRX1_turnsUntilOver_3 : Room := (headSpec wsX1_turnsUntilOver rmX1_turnsUntilOver_3).room
set_option maxHeartbeats 4000000 in
set_option maxRecDepth 100000 in
theorem c_X1_turnsUntilOver_3 (l : Launch) (dC : Nat → ClassId) (dI : Nat → Nat → Nat) (t : Nat → ClassId) (ts aK aV : Nat → Nat) (A : Nat → Prop) (h : Nat → Nat) (tx : Nat) (sz : Nat) (hA0 : ∀ q : Nat, sz ≤ q → A q) (S : CS) (p0 : Int32) (r : Int32) (hf : f_X1_turnsUntilOver_3 S p0 = some r) : cCi l yX1_turnsUntilOver wsX1_turnsUntilOver rmX1_turnsUntilOver_3 dC dI t ts aK aV A h tx tx sz [.ref (h 3), .int p0] S r S := by
  refine Met.ofW (cc := cX1_turnsUntilOver) (maxL := 11) (ret := (some .int)) (by decide) rfl ?_
  intro p e s m args below meth c s₁ B hml hv
  obtain ⟨hargs, hsz, hE, hC, hK⟩ := hv
  have hx := B.exec
  have hb := B.bytes
  have hr := B.returns
  have hts := atoms_spec (ws := wsX1_turnsUntilOver) B.pre
  have hown : s.vm.findClass RX1 = some m.cls := findClass_of_methodNamed B.named
  have hlocks := B.notSynchronized
  have hsz : s.heap.size = sz := hsz
  subst hsz
  have hA : ∀ q : Nat, s.heap.size ≤ q → A q := hA0
  obtain ⟨g, LP, pf, hP, hD, hG⟩ := hC
  have hS : va_S A s.heap s.heap [] := va_S.rf
  have hl := lv_entry ([.ref (h 3), .int p0]) (n := 11) (Nat.le_of_ble_eq_true rfl)
  rw [show entryFrame m args 11 = entryFrame m ([.ref (h 3), .int p0] : List Value).toArray 11 from by rw [hargs], lg_entry_eq]
  generalize (lg_sl ([.ref (h 3), .int p0]) ++ List.replicate (11 - (lg_sl ([.ref (h 3), .int p0])).length) Slot.unset).toArray = ls at hl ⊢
  have hl : lv_has ls 11 [(0, .ref (h 3)), (1, .int p0)] := hl
  unfold f_X1_turnsUntilOver_3 at hf
  refine lv_lconst (v := 1) hx hb dX1_turnsUntilOver_0 (by decide) ?_
  refine lv_lstore_n (lv' := [(2, .long 1), (0, .ref (h 3)), (1, .int p0)]) hx hb dX1_turnsUntilOver_1 rfl hl (by decide) rfl (fun ls hl => ?_)
  refine lv_iconst (v := 0) hx hb dX1_turnsUntilOver_2 (by decide) ?_
  refine lv_istore (lv' := [(4, .int 0), (2, .long 1), (0, .ref (h 3)), (1, .int p0)]) hx hb dX1_turnsUntilOver_3 hl (by decide) rfl (fun ls hl => ?_)
  have L5 : ∀ (n : Nat) (y1 : Int64) (y2 : Int32) (g : Nat → Nat → Option Nat) (LP : List Nat) (pf : Nat → va_E) (H : Heap) (locs : List Loc) (ls : Array Slot), lp (fun s => b_X1_turnsUntilOver_3_5 S p0 s.1 s.2) n (y1, y2) = some r → va_P (dC, dI) vwCl (wC t h tx g S ++ va_pl LP pf) H → va_D A (wC t h tx g S ++ va_pl LP pf) → rlC g LP pf S → va_S A s.heap H locs → lv_has ls 11 [(0, .ref (h 3)), (1, .int p0), (2, .long y1), (4, .int y2)] → W p l e RRX1_turnsUntilOver_3 s m args below meth c H locs 0 0 (MQ below (qcCi dC dI t A h tx r S) args s 0 0 A) (F0 m 5 ls []) := by
    intro n
    induction n with
    | zero => intro y1 y2 g LP pf H locs ls hf; exact lp_z hf
    | succ n ih5 =>
      intro y1 y2 g LP pf H locs ls hf hP hD hG hS hl
      obtain ⟨q5, hf, hq5⟩ := lp_i hf
      have hf : b_X1_turnsUntilOver_3_5 S p0 y1 y2 = some q5 := hf
      unfold b_X1_turnsUntilOver_3_5 at hf
      refine lv_iload hx hb dX1_turnsUntilOver_5 (lv_at hl 3 rfl) ?_
      refine lv_bipush (v := 64) hx hb dX1_turnsUntilOver_7 (by decide) ?_
      refine lv_icmp_ge (tgt := 110) hx hb dX1_turnsUntilOver_9 (by decide) (fun c19 => ?_) (fun c19 => ?_)
      · have hf := (if_pos c19).symm.trans hf
        refine lv_iconst (v := (-1)) hx hb dX1_turnsUntilOver_110 (by decide) ?_
        have hf := lp_r hf hq5
        exact rtCi hx hb hr hlocks ⟨g, LP, pf, hP, hD, hG⟩ hS (congrArg (fun z => some (z, S)) (Option.some.inj hf)) dX1_turnsUntilOver_111
      · have hf := (if_neg c19).symm.trans hf
        refine lv_lload_n hx hb dX1_turnsUntilOver_12 rfl (lv_at hl 2 rfl) ?_
        refine lv_iload_n hx hb dX1_turnsUntilOver_13 rfl (lv_at hl 1 rfl) ?_
        refine lv_lushr hx hb dX1_turnsUntilOver_14 rfl ?_
        refine lv_lconst (v := 1) hx hb dX1_turnsUntilOver_15 (by decide) ?_
        refine lv_land hx hb dX1_turnsUntilOver_16 ?_
        refine lv_lconst (v := 0) hx hb dX1_turnsUntilOver_17 (by decide) ?_
        refine W.lcmp hx hb dX1_turnsUntilOver_18 ?_
        refine lv_if_eq (tgt := 25) hx hb dX1_turnsUntilOver_19 (by decide) (fun c18 => ?_) (fun c18 => ?_)
        · have hf := (if_pos c18).symm.trans hf
          refine lv_lload_n hx hb dX1_turnsUntilOver_25 rfl (lv_at hl 2 rfl) ?_
          refine lv_lstore (lv' := [(5, .long y1), (0, .ref (h 3)), (1, .int p0), (2, .long y1), (4, .int y2)]) hx hb dX1_turnsUntilOver_26 hl (by decide) rfl (fun ls hl => ?_)
          refine va_getsN hx hb hE.2.1.1 hS hown (va_Nw.use rfl (hE.1.2.1 ("OnlyTwo$Camp", 131, "OnlyTwo", "SMALL_SETS", "[I", "OnlyTwo") (by decide +kernel))) (fun _ h9 => h9) dX1_turnsUntilOver_28 ?_
          refine lv_astore (lv' := [(7, .ref (ts 0)), (5, .long y1), (0, .ref (h 3)), (1, .int p0), (2, .long y1), (4, .int y2)]) hx hb dX1_turnsUntilOver_31 hl (by decide) rfl (fun ls hl => ?_)
          refine lv_aload hx hb dX1_turnsUntilOver_33 (lv_at hl 0 rfl) ?_
          refine va_tlen (v := 21) hx hb hE.2.1.2 hS (by decide) dX1_turnsUntilOver_35 ?_
          refine lv_istore (lv' := [(8, .int 21), (7, .ref (ts 0)), (5, .long y1), (0, .ref (h 3)), (1, .int p0), (2, .long y1), (4, .int y2)]) hx hb dX1_turnsUntilOver_36 hl (by decide) rfl (fun ls hl => ?_)
          refine lv_iconst (v := 0) hx hb dX1_turnsUntilOver_38 (by decide) ?_
          refine lv_istore (lv' := [(9, .int 0), (8, .int 21), (7, .ref (ts 0)), (5, .long y1), (0, .ref (h 3)), (1, .int p0), (2, .long y1), (4, .int y2)]) hx hb dX1_turnsUntilOver_39 hl (by decide) rfl (fun ls hl => ?_)
          have K41 : ∀ (y3 : Int64) (g : Nat → Nat → Option Nat) (LP : List Nat) (pf : Nat → va_E) (H : Heap) (locs : List Loc) (ls : Array Slot), k_X1_turnsUntilOver_3_41 y1 y2 y3 = some q5 → va_P (dC, dI) vwCl (wC t h tx g S ++ va_pl LP pf) H → va_D A (wC t h tx g S ++ va_pl LP pf) → rlC g LP pf S → va_S A s.heap H locs → lv_has ls 11 [(0, .ref (h 3)), (1, .int p0), (2, .long y1), (4, .int y2), (5, .long y3)] → W p l e RRX1_turnsUntilOver_3 s m args below meth c H locs 0 0 (MQ below (qcCi dC dI t A h tx r S) args s 0 0 A) (F0 m 92 ls []) := by
            intro y3 g LP pf H locs ls hf hP hD hG hS hl
            unfold k_X1_turnsUntilOver_3_41 at hf
            refine lv_lload hx hb dX1_turnsUntilOver_92 (lv_at hl 4 rfl) ?_
            refine lv_lload_n hx hb dX1_turnsUntilOver_94 rfl (lv_at hl 2 rfl) ?_
            refine W.lcmp hx hb dX1_turnsUntilOver_95 ?_
            refine lv_if_ne (tgt := 101) hx hb dX1_turnsUntilOver_96 (by decide) (fun c5 => ?_) (fun c5 => ?_)
            · have hf := (if_neg c5).symm.trans hf
              refine lv_lload hx hb dX1_turnsUntilOver_101 (lv_at hl 4 rfl) ?_
              refine lv_lstore_n (lv' := [(2, .long y3), (0, .ref (h 3)), (1, .int p0), (4, .int y2), (5, .long y3)]) hx hb dX1_turnsUntilOver_103 rfl hl (by decide) rfl (fun ls hl => ?_)
              obtain ⟨x4, ex4, hf⟩ := bn hf
              refine lv_iinc (v := x4) (lv' := [(4, .int x4), (2, .long y3), (0, .ref (h 3)), (1, .int p0), (5, .long y3)]) hx hb dX1_turnsUntilOver_104 hl (k := 3) rfl (by rw [ex4]; rfl) (by decide) rfl (fun ls hl => ?_)
              refine lv_goto (tgt := 5) hx hb dX1_turnsUntilOver_107 (by decide) ?_
              exact ih5 y3 x4 _ _ _ _ _ _ (lp_l hf hq5) hP hD hG hS (lv_sub hl [2, 3, 1, 0] rfl)
            · have hf := (if_pos c5).symm.trans hf
              refine lv_iconst (v := (-1)) hx hb dX1_turnsUntilOver_99 (by decide) ?_
              have hf := lp_r hf hq5
              exact rtCi hx hb hr hlocks ⟨g, LP, pf, hP, hD, hG⟩ hS (congrArg (fun z => some (z, S)) (Option.some.inj hf)) dX1_turnsUntilOver_100
          obtain ⟨z41, ez41, hz41⟩ := bd hf
          have L41 : ∀ (n : Nat) (y6 : Int64) (y7 : Int32) (g : Nat → Nat → Option Nat) (LP : List Nat) (pf : Nat → va_E) (H : Heap) (locs : List Loc) (ls : Array Slot), lp (fun s => b_X1_turnsUntilOver_3_41 S p0 y1 s.1 s.2) n (y6, y7) = some z41 → va_P (dC, dI) vwCl (wC t h tx g S ++ va_pl LP pf) H → va_D A (wC t h tx g S ++ va_pl LP pf) → rlC g LP pf S → va_S A s.heap H locs → lv_has ls 11 [(0, .ref (h 3)), (1, .int p0), (2, .long y1), (4, .int y2), (5, .long y6), (7, .ref (ts 0)), (8, .int 21), (9, .int y7)] → W p l e RRX1_turnsUntilOver_3 s m args below meth c H locs 0 0 (MQ below (qcCi dC dI t A h tx r S) args s 0 0 A) (F0 m 41 ls []) := by
            intro n
            induction n with
            | zero => intro y6 y7 g LP pf H locs ls hf; exact lp_z hf
            | succ n ih41 =>
              intro y6 y7 g LP pf H locs ls hf hP hD hG hS hl
              obtain ⟨q41, hf, hq41⟩ := lp_i hf
              have hf : b_X1_turnsUntilOver_3_41 S p0 y1 y6 y7 = some q41 := hf
              unfold b_X1_turnsUntilOver_3_41 at hf
              refine lv_iload hx hb dX1_turnsUntilOver_41 (lv_at hl 7 rfl) ?_
              refine lv_iload hx hb dX1_turnsUntilOver_43 (lv_at hl 6 rfl) ?_
              refine lv_icmp_ge (tgt := 92) hx hb dX1_turnsUntilOver_45 (by decide) (fun c17 => ?_) (fun c17 => ?_)
              · have hf := (if_pos c17).symm.trans hf
                exact K41 y6 _ _ _ _ _ _ (lp_x (k := (fun s => k_X1_turnsUntilOver_3_41 y1 y2 s)) (lp_r hf hq41) hz41) hP hD hG hS (lv_sub hl [0, 1, 2, 3, 4] rfl)
              · have hf := (if_neg c17).symm.trans hf
                refine lv_aload hx hb dX1_turnsUntilOver_48 (lv_at hl 5 rfl) ?_
                refine lv_iload hx hb dX1_turnsUntilOver_50 (lv_at hl 7 rfl) ?_
                obtain ⟨x8, hix8, ex8, hf⟩ := rd_b hf
                refine va_ti hx hb hE.2.1.2 hS hix8 rfl dX1_turnsUntilOver_52 (kI ex8 ?_)
                refine lv_istore (lv' := [(10, .int x8), (0, .ref (h 3)), (1, .int p0), (2, .long y1), (4, .int y2), (5, .long y6), (7, .ref (ts 0)), (8, .int 21), (9, .int y7)]) hx hb dX1_turnsUntilOver_53 hl (by decide) rfl (fun ls hl => ?_)
                refine lv_iload hx hb dX1_turnsUntilOver_55 (lv_at hl 0 rfl) ?_
                refine lv_iload_n hx hb dX1_turnsUntilOver_57 rfl (lv_at hl 2 rfl) ?_
                refine lv_iand hx hb dX1_turnsUntilOver_58 ?_
                refine lv_iload hx hb dX1_turnsUntilOver_59 (lv_at hl 0 rfl) ?_
                refine lv_icmp_ne (tgt := 86) hx hb dX1_turnsUntilOver_61 (by decide) (fun c16 => ?_) (fun c16 => ?_)
                · have hf := (if_neg c16).symm.trans hf
                  obtain ⟨x9, ex9, hf⟩ := bn hf
                  refine lv_iinc (v := x9) (lv' := [(9, .int x9), (10, .int x8), (0, .ref (h 3)), (1, .int p0), (2, .long y1), (4, .int y2), (5, .long y6), (7, .ref (ts 0)), (8, .int 21)]) hx hb dX1_turnsUntilOver_86 hl (k := 8) rfl (by rw [ex9]; rfl) (by decide) rfl (fun ls hl => ?_)
                  refine lv_goto (tgt := 41) hx hb dX1_turnsUntilOver_89 (by decide) ?_
                  exact ih41 y6 x9 _ _ _ _ _ _ (lp_l hf hq41) hP hD hG hS (lv_sub hl [2, 3, 4, 5, 6, 7, 8, 0] rfl)
                · have hf := (if_pos c16).symm.trans hf
                  refine lv_aload_n hx hb dX1_turnsUntilOver_64 rfl (lv_at hl 1 rfl) ?_
                  refine lv_iload hx hb dX1_turnsUntilOver_65 (lv_at hl 0 rfl) ?_
                  refine lv_iconst (v := 0) hx hb dX1_turnsUntilOver_67 (by decide) ?_
                  refine lv_iconst (v := 0) hx hb dX1_turnsUntilOver_68 (by decide) ?_
                  obtain ⟨r10, er10, hf⟩ := bd hf
                  refine klCi (rest := []) (As := [.int x8, .int 0, .int 0]) ⟨hx, hb, hml, hown, hts⟩ (c_X1_whyNot_3 l dC dI t ts aK aV A h tx H.size (fun q hq => hA q (Nat.le_trans hS.1 hq)) S x8 0 0 r10 er10) (cwV 3 hts gX1_turnsUntilOver_X1_whyNot rfl rfl rfl (by decide +kernel) ⟨Nat.le_of_ble_eq_true rfl, Nat.le_of_ble_eq_true rfl⟩) (va_recv hK hP (ci := 1) (q0 := 3) rfl rfl) rfl hl.1 rfl (Nat.le_of_ble_eq_true rfl) dX1_turnsUntilOver_69 ⟨Nat.zero_le _, Nat.zero_le _⟩ hE hK ⟨g, LP, pf, hP, hD, hG⟩ hS (fun H locs hC hS => ?_)
                  obtain ⟨g, LP, pf, hP, hD, hG⟩ := hC
                  refine lv_if_ne (tgt := 86) hx hb dX1_turnsUntilOver_72 (by decide) (fun c15 => ?_) (fun c15 => ?_)
                  · have hf := (if_neg c15).symm.trans hf
                    obtain ⟨x11, ex11, hf⟩ := bn hf
                    refine lv_iinc (v := x11) (lv' := [(9, .int x11), (10, .int x8), (0, .ref (h 3)), (1, .int p0), (2, .long y1), (4, .int y2), (5, .long y6), (7, .ref (ts 0)), (8, .int 21)]) hx hb dX1_turnsUntilOver_86 hl (k := 8) rfl (by rw [ex11]; rfl) (by decide) rfl (fun ls hl => ?_)
                    refine lv_goto (tgt := 41) hx hb dX1_turnsUntilOver_89 (by decide) ?_
                    exact ih41 y6 x11 _ _ _ _ _ _ (lp_l hf hq41) hP hD hG hS (lv_sub hl [2, 3, 4, 5, 6, 7, 8, 0] rfl)
                  · have hf := (if_pos c15).symm.trans hf
                    refine lv_lload hx hb dX1_turnsUntilOver_75 (lv_at hl 5 rfl) ?_
                    refine lv_lload_n hx hb dX1_turnsUntilOver_77 rfl (lv_at hl 3 rfl) ?_
                    refine lv_iload hx hb dX1_turnsUntilOver_78 (lv_at hl 0 rfl) ?_
                    obtain ⟨r12, er12, hf⟩ := bd hf
                    refine klXNl (rest := [.long y6]) (As := [.long y1, .int x8]) ⟨hx, hb, hml, hown, hts⟩ (c_X10_crossed l ts aK aV H.size y1 x8 r12 er12) (fun _ _ _ _ h9 => h9.blind) (fun U hU hW => hE.go hS hU hW (fun q hq => hA q (Nat.le_trans hS.1 hq))) ⟨va_cnB 2 hts gX1_turnsUntilOver_X10_crossed_n134 rfl rfl rfl (hE.1.1 ("OnlyTwo$Camp", 134, ⟨"OnlyTwo", "crossed", "(JI)J"⟩, "OnlyTwo") (by decide +kernel)) (hts (.initialized RX10) (by decide +kernel)) (by decide +kernel) ⟨Nat.le_of_ble_eq_true rfl, Nat.le_of_ble_eq_true rfl⟩, hts (.static yX10_crossed) (by decide +kernel), trivial⟩ rfl hl.1 rfl (Nat.le_of_ble_eq_true rfl) dX1_turnsUntilOver_80 ⟨Nat.zero_le _, Nat.zero_le _⟩ hS hA (fun H2 locs hk hS => ?_)
                    have hP := kpP hP hk
                    generalize H2 = H at hP hS ⊢
                    refine lv_lor hx hb dX1_turnsUntilOver_83 ?_
                    refine lv_topl (fun x13 ex13 => ?_)
                    have hf := bs ex13 hf
                    refine lv_lstore (lv' := [(5, .long x13), (10, .int x8), (0, .ref (h 3)), (1, .int p0), (2, .long y1), (4, .int y2), (7, .ref (ts 0)), (8, .int 21), (9, .int y7)]) hx hb dX1_turnsUntilOver_84 hl (by decide) rfl (fun ls hl => ?_)
                    obtain ⟨x14, ex14, hf⟩ := bn hf
                    refine lv_iinc (v := x14) (lv' := [(9, .int x14), (5, .long x13), (10, .int x8), (0, .ref (h 3)), (1, .int p0), (2, .long y1), (4, .int y2), (7, .ref (ts 0)), (8, .int 21)]) hx hb dX1_turnsUntilOver_86 hl (k := 8) rfl (by rw [ex14]; rfl) (by decide) rfl (fun ls hl => ?_)
                    refine lv_goto (tgt := 41) hx hb dX1_turnsUntilOver_89 (by decide) ?_
                    exact ih41 x13 x14 _ _ _ _ _ _ (lp_l hf hq41) hP hD hG hS (lv_sub hl [3, 4, 5, 6, 1, 7, 8, 0] rfl)
          exact L41 FU y1 0 _ _ _ _ _ _ ez41 hP hD hG hS (lv_sub hl [4, 5, 6, 7, 3, 2, 1, 0] rfl)
        · have hf := (if_neg c18).symm.trans hf
          refine lv_iload hx hb dX1_turnsUntilOver_22 (lv_at hl 3 rfl) ?_
          have hf := lp_r hf hq5
          exact rtCi hx hb hr hlocks ⟨g, LP, pf, hP, hD, hG⟩ hS (congrArg (fun z => some (z, S)) (Option.some.inj hf)) dX1_turnsUntilOver_24
  exact L5 FU 1 0 _ _ _ _ _ _ hf hP hD hG hS (lv_sub hl [2, 3, 1, 0] rfl)

def k_X1_digestOf_5_6 (y1 : Int64) : Option Int64 :=
  some y1
def b_X1_digestOf_5_6 (S : CS) (p2 : Int32) (y2 : Int64) (y3 : Int32) : Option ((Int64 × Int32) ⊕ Int64) :=
  (if p2 ≤ y3 then (some (Sum.inr y2)) else ((if 4 ≤ y3 then (some (Sum.inr y2)) else (Option.bind (rdI 4 (S.1 5) y3) (fun x4 => Option.bind (some ((31 * y2) + (Int32.toInt64 x4))) (fun x5 => Option.bind (some (y3 + 1)) (fun x6 => some (Sum.inl (x5, x6)))))))))
def f_X1_digestOf_5 (S : CS) (p0 : Int64) (p2 : Int32) : Option Int64 :=
  Option.bind (lp (fun s => b_X1_digestOf_5_6 S p2 s.1 s.2) FU (p0, 0)) (fun s => k_X1_digestOf_5_6 s)
def rmX1_digestOf_5 : Room := { frames := 0, cells := 0, slots := 0, locals := 0 }
abbrev RRX1_digestOf_5 : Room := (headSpec wsX1_digestOf rmX1_digestOf_5).room
set_option maxHeartbeats 4000000 in
set_option maxRecDepth 100000 in
theorem c_X1_digestOf_5 (l : Launch) (dC : Nat → ClassId) (dI : Nat → Nat → Nat) (t : Nat → ClassId) (ts aK aV : Nat → Nat) (A : Nat → Prop) (h : Nat → Nat) (tx : Nat) (sz : Nat) (hA0 : ∀ q : Nat, sz ≤ q → A q) (S : CS) (p0 : Int64) (p2 : Int32) (r : Int64) (hf : f_X1_digestOf_5 S p0 p2 = some r) : cCl l yX1_digestOf wsX1_digestOf rmX1_digestOf_5 dC dI t ts aK aV A h tx tx sz [.long p0, .ref (h 5), .int p2] S r S := by
  refine Met.ofW (cc := cX1_digestOf) (maxL := 7) (ret := (some .long)) (by decide) rfl ?_
  intro p e s m args below meth c s₁ B hml hv
  obtain ⟨hargs, hsz, hE, hC, hK⟩ := hv
  have hx := B.exec
  have hb := B.bytes
  have hr := B.returns
  have hts := atoms_spec (ws := wsX1_digestOf) B.pre
  have hown : s.vm.findClass RX1 = some m.cls := findClass_of_methodNamed B.named
  have hlocks := B.notSynchronized
  have hsz : s.heap.size = sz := hsz
  subst hsz
  have hA : ∀ q : Nat, s.heap.size ≤ q → A q := hA0
  obtain ⟨g, LP, pf, hP, hD, hG⟩ := hC
  have hS : va_S A s.heap s.heap [] := va_S.rf
  have hl := lv_entry ([.long p0, .ref (h 5), .int p2]) (n := 7) (Nat.le_of_ble_eq_true rfl)
  rw [show entryFrame m args 7 = entryFrame m ([.long p0, .ref (h 5), .int p2] : List Value).toArray 7 from by rw [hargs], lg_entry_eq]
  generalize (lg_sl ([.long p0, .ref (h 5), .int p2]) ++ List.replicate (7 - (lg_sl ([.long p0, .ref (h 5), .int p2])).length) Slot.unset).toArray = ls at hl ⊢
  have hl : lv_has ls 7 [(0, .long p0), (2, .ref (h 5)), (3, .int p2)] := hl
  unfold f_X1_digestOf_5 at hf
  refine lv_lload_n hx hb dX1_digestOf_0 rfl (lv_at hl 0 rfl) ?_
  refine lv_lstore (lv' := [(4, .long p0), (0, .long p0), (2, .ref (h 5)), (3, .int p2)]) hx hb dX1_digestOf_1 hl (by decide) rfl (fun ls hl => ?_)
  refine lv_iconst (v := 0) hx hb dX1_digestOf_3 (by decide) ?_
  refine lv_istore (lv' := [(6, .int 0), (4, .long p0), (0, .long p0), (2, .ref (h 5)), (3, .int p2)]) hx hb dX1_digestOf_4 hl (by decide) rfl (fun ls hl => ?_)
  have K6 : ∀ (y1 : Int64) (g : Nat → Nat → Option Nat) (LP : List Nat) (pf : Nat → va_E) (H : Heap) (locs : List Loc) (ls : Array Slot), k_X1_digestOf_5_6 y1 = some r → va_P (dC, dI) vwCl (wC t h tx g S ++ va_pl LP pf) H → va_D A (wC t h tx g S ++ va_pl LP pf) → rlC g LP pf S → va_S A s.heap H locs → lv_has ls 7 [(4, .long y1)] → W p l e RRX1_digestOf_5 s m args below meth c H locs 0 0 (MQ below (qcCl dC dI t A h tx r S) args s 0 0 A) (F0 m 39 ls []) := by
    intro y1 g LP pf H locs ls hf hP hD hG hS hl
    unfold k_X1_digestOf_5_6 at hf
    refine lv_lload hx hb dX1_digestOf_39 (lv_at hl 0 rfl) ?_
    exact rtCl hx hb hr hlocks ⟨g, LP, pf, hP, hD, hG⟩ hS (congrArg (fun z => some (z, S)) (Option.some.inj hf)) dX1_digestOf_41
  obtain ⟨z6, ez6, hz6⟩ := bd hf
  have L6 : ∀ (n : Nat) (y2 : Int64) (y3 : Int32) (g : Nat → Nat → Option Nat) (LP : List Nat) (pf : Nat → va_E) (H : Heap) (locs : List Loc) (ls : Array Slot), lp (fun s => b_X1_digestOf_5_6 S p2 s.1 s.2) n (y2, y3) = some z6 → va_P (dC, dI) vwCl (wC t h tx g S ++ va_pl LP pf) H → va_D A (wC t h tx g S ++ va_pl LP pf) → rlC g LP pf S → va_S A s.heap H locs → lv_has ls 7 [(2, .ref (h 5)), (3, .int p2), (4, .long y2), (6, .int y3)] → W p l e RRX1_digestOf_5 s m args below meth c H locs 0 0 (MQ below (qcCl dC dI t A h tx r S) args s 0 0 A) (F0 m 6 ls []) := by
    intro n
    induction n with
    | zero => intro y2 y3 g LP pf H locs ls hf; exact lp_z hf
    | succ n ih6 =>
      intro y2 y3 g LP pf H locs ls hf hP hD hG hS hl
      obtain ⟨q6, hf, hq6⟩ := lp_i hf
      have hf : b_X1_digestOf_5_6 S p2 y2 y3 = some q6 := hf
      unfold b_X1_digestOf_5_6 at hf
      refine lv_iload hx hb dX1_digestOf_6 (lv_at hl 3 rfl) ?_
      refine lv_iload_n hx hb dX1_digestOf_8 rfl (lv_at hl 1 rfl) ?_
      refine lv_icmp_ge (tgt := 39) hx hb dX1_digestOf_9 (by decide) (fun c8 => ?_) (fun c8 => ?_)
      · have hf := (if_pos c8).symm.trans hf
        exact K6 y2 _ _ _ _ _ _ (lp_x (k := (fun s => k_X1_digestOf_5_6 s)) (lp_r hf hq6) hz6) hP hD hG hS (lv_sub hl [2] rfl)
      · have hf := (if_neg c8).symm.trans hf
        refine lv_iload hx hb dX1_digestOf_12 (lv_at hl 3 rfl) ?_
        refine lv_aload_n hx hb dX1_digestOf_14 rfl (lv_at hl 0 rfl) ?_
        refine va_alen (v := 4) hx hb hK hP 5 0 rfl rfl rfl dX1_digestOf_15 ?_
        refine lv_icmp_ge (tgt := 39) hx hb dX1_digestOf_16 (by decide) (fun c7 => ?_) (fun c7 => ?_)
        · have hf := (if_pos c7).symm.trans hf
          exact K6 y2 _ _ _ _ _ _ (lp_x (k := (fun s => k_X1_digestOf_5_6 s)) (lp_r hf hq6) hz6) hP hD hG hS (lv_sub hl [2] rfl)
        · have hf := (if_neg c7).symm.trans hf
          refine lv_ldc2 (v := 31) hx hb hown (hts (.constantLong RX1 140 (31)) (by decide +kernel)) dX1_digestOf_19 ?_
          refine lv_lload hx hb dX1_digestOf_22 (lv_at hl 2 rfl) ?_
          refine lv_lmul hx hb dX1_digestOf_24 ?_
          refine lv_aload_n hx hb dX1_digestOf_25 rfl (lv_at hl 0 rfl) ?_
          refine lv_iload hx hb dX1_digestOf_26 (lv_at hl 3 rfl) ?_
          obtain ⟨x4, hix4, ex4, hf⟩ := rd_b hf
          refine va_iald hx hb hK hP 5 0 rfl rfl hix4 dX1_digestOf_28 (kI ex4 ?_)
          refine lv_i2l hx hb dX1_digestOf_29 rfl ?_
          refine lv_ladd hx hb dX1_digestOf_30 ?_
          refine lv_topl (fun x5 ex5 => ?_)
          have hf := bs ex5 hf
          refine lv_lstore (lv' := [(4, .long x5), (2, .ref (h 5)), (3, .int p2), (6, .int y3)]) hx hb dX1_digestOf_31 hl (by decide) rfl (fun ls hl => ?_)
          obtain ⟨x6, ex6, hf⟩ := bn hf
          refine lv_iinc (v := x6) (lv' := [(6, .int x6), (4, .long x5), (2, .ref (h 5)), (3, .int p2)]) hx hb dX1_digestOf_33 hl (k := 3) rfl (by rw [ex6]; rfl) (by decide) rfl (fun ls hl => ?_)
          refine lv_goto (tgt := 6) hx hb dX1_digestOf_36 (by decide) ?_
          exact ih6 x5 x6 _ _ _ _ _ _ (lp_l hf hq6) hP hD hG hS (lv_sub hl [2, 3, 1, 0] rfl)
  exact L6 FU p0 0 _ _ _ _ _ _ ez6 hP hD hG hS (lv_sub hl [3, 4, 1, 0] rfl)

def k_X1_digestOf_8_6 (y1 : Int64) : Option Int64 :=
  some y1
def b_X1_digestOf_8_6 (S : CS) (p2 : Int32) (y2 : Int64) (y3 : Int32) : Option ((Int64 × Int32) ⊕ Int64) :=
  (if p2 ≤ y3 then (some (Sum.inr y2)) else ((if 200 ≤ y3 then (some (Sum.inr y2)) else (Option.bind (rdI 200 (S.1 8) y3) (fun x4 => Option.bind (some ((31 * y2) + (Int32.toInt64 x4))) (fun x5 => Option.bind (some (y3 + 1)) (fun x6 => some (Sum.inl (x5, x6)))))))))
def f_X1_digestOf_8 (S : CS) (p0 : Int64) (p2 : Int32) : Option Int64 :=
  Option.bind (lp (fun s => b_X1_digestOf_8_6 S p2 s.1 s.2) FU (p0, 0)) (fun s => k_X1_digestOf_8_6 s)
def rmX1_digestOf_8 : Room := { frames := 0, cells := 0, slots := 0, locals := 0 }
abbrev RRX1_digestOf_8 : Room := (headSpec wsX1_digestOf rmX1_digestOf_8).room
set_option maxHeartbeats 4000000 in
set_option maxRecDepth 100000 in
theorem c_X1_digestOf_8 (l : Launch) (dC : Nat → ClassId) (dI : Nat → Nat → Nat) (t : Nat → ClassId) (ts aK aV : Nat → Nat) (A : Nat → Prop) (h : Nat → Nat) (tx : Nat) (sz : Nat) (hA0 : ∀ q : Nat, sz ≤ q → A q) (S : CS) (p0 : Int64) (p2 : Int32) (r : Int64) (hf : f_X1_digestOf_8 S p0 p2 = some r) : cCl l yX1_digestOf wsX1_digestOf rmX1_digestOf_8 dC dI t ts aK aV A h tx tx sz [.long p0, .ref (h 8), .int p2] S r S := by
  refine Met.ofW (cc := cX1_digestOf) (maxL := 7) (ret := (some .long)) (by decide) rfl ?_
  intro p e s m args below meth c s₁ B hml hv
  obtain ⟨hargs, hsz, hE, hC, hK⟩ := hv
  have hx := B.exec
  have hb := B.bytes
  have hr := B.returns
  have hts := atoms_spec (ws := wsX1_digestOf) B.pre
  have hown : s.vm.findClass RX1 = some m.cls := findClass_of_methodNamed B.named
  have hlocks := B.notSynchronized
  have hsz : s.heap.size = sz := hsz
  subst hsz
  have hA : ∀ q : Nat, s.heap.size ≤ q → A q := hA0
  obtain ⟨g, LP, pf, hP, hD, hG⟩ := hC
  have hS : va_S A s.heap s.heap [] := va_S.rf
  have hl := lv_entry ([.long p0, .ref (h 8), .int p2]) (n := 7) (Nat.le_of_ble_eq_true rfl)
  rw [show entryFrame m args 7 = entryFrame m ([.long p0, .ref (h 8), .int p2] : List Value).toArray 7 from by rw [hargs], lg_entry_eq]
  generalize (lg_sl ([.long p0, .ref (h 8), .int p2]) ++ List.replicate (7 - (lg_sl ([.long p0, .ref (h 8), .int p2])).length) Slot.unset).toArray = ls at hl ⊢
  have hl : lv_has ls 7 [(0, .long p0), (2, .ref (h 8)), (3, .int p2)] := hl
  unfold f_X1_digestOf_8 at hf
  refine lv_lload_n hx hb dX1_digestOf_0 rfl (lv_at hl 0 rfl) ?_
  refine lv_lstore (lv' := [(4, .long p0), (0, .long p0), (2, .ref (h 8)), (3, .int p2)]) hx hb dX1_digestOf_1 hl (by decide) rfl (fun ls hl => ?_)
  refine lv_iconst (v := 0) hx hb dX1_digestOf_3 (by decide) ?_
  refine lv_istore (lv' := [(6, .int 0), (4, .long p0), (0, .long p0), (2, .ref (h 8)), (3, .int p2)]) hx hb dX1_digestOf_4 hl (by decide) rfl (fun ls hl => ?_)
  have K6 : ∀ (y1 : Int64) (g : Nat → Nat → Option Nat) (LP : List Nat) (pf : Nat → va_E) (H : Heap) (locs : List Loc) (ls : Array Slot), k_X1_digestOf_8_6 y1 = some r → va_P (dC, dI) vwCl (wC t h tx g S ++ va_pl LP pf) H → va_D A (wC t h tx g S ++ va_pl LP pf) → rlC g LP pf S → va_S A s.heap H locs → lv_has ls 7 [(4, .long y1)] → W p l e RRX1_digestOf_8 s m args below meth c H locs 0 0 (MQ below (qcCl dC dI t A h tx r S) args s 0 0 A) (F0 m 39 ls []) := by
    intro y1 g LP pf H locs ls hf hP hD hG hS hl
    unfold k_X1_digestOf_8_6 at hf
    refine lv_lload hx hb dX1_digestOf_39 (lv_at hl 0 rfl) ?_
    exact rtCl hx hb hr hlocks ⟨g, LP, pf, hP, hD, hG⟩ hS (congrArg (fun z => some (z, S)) (Option.some.inj hf)) dX1_digestOf_41
  obtain ⟨z6, ez6, hz6⟩ := bd hf
  have L6 : ∀ (n : Nat) (y2 : Int64) (y3 : Int32) (g : Nat → Nat → Option Nat) (LP : List Nat) (pf : Nat → va_E) (H : Heap) (locs : List Loc) (ls : Array Slot), lp (fun s => b_X1_digestOf_8_6 S p2 s.1 s.2) n (y2, y3) = some z6 → va_P (dC, dI) vwCl (wC t h tx g S ++ va_pl LP pf) H → va_D A (wC t h tx g S ++ va_pl LP pf) → rlC g LP pf S → va_S A s.heap H locs → lv_has ls 7 [(2, .ref (h 8)), (3, .int p2), (4, .long y2), (6, .int y3)] → W p l e RRX1_digestOf_8 s m args below meth c H locs 0 0 (MQ below (qcCl dC dI t A h tx r S) args s 0 0 A) (F0 m 6 ls []) := by
    intro n
    induction n with
    | zero => intro y2 y3 g LP pf H locs ls hf; exact lp_z hf
    | succ n ih6 =>
      intro y2 y3 g LP pf H locs ls hf hP hD hG hS hl
      obtain ⟨q6, hf, hq6⟩ := lp_i hf
      have hf : b_X1_digestOf_8_6 S p2 y2 y3 = some q6 := hf
      unfold b_X1_digestOf_8_6 at hf
      refine lv_iload hx hb dX1_digestOf_6 (lv_at hl 3 rfl) ?_
      refine lv_iload_n hx hb dX1_digestOf_8 rfl (lv_at hl 1 rfl) ?_
      refine lv_icmp_ge (tgt := 39) hx hb dX1_digestOf_9 (by decide) (fun c8 => ?_) (fun c8 => ?_)
      · have hf := (if_pos c8).symm.trans hf
        exact K6 y2 _ _ _ _ _ _ (lp_x (k := (fun s => k_X1_digestOf_8_6 s)) (lp_r hf hq6) hz6) hP hD hG hS (lv_sub hl [2] rfl)
      · have hf := (if_neg c8).symm.trans hf
        refine lv_iload hx hb dX1_digestOf_12 (lv_at hl 3 rfl) ?_
        refine lv_aload_n hx hb dX1_digestOf_14 rfl (lv_at hl 0 rfl) ?_
        refine va_alen (v := 200) hx hb hK hP 8 0 rfl rfl rfl dX1_digestOf_15 ?_
        refine lv_icmp_ge (tgt := 39) hx hb dX1_digestOf_16 (by decide) (fun c7 => ?_) (fun c7 => ?_)
        · have hf := (if_pos c7).symm.trans hf
          exact K6 y2 _ _ _ _ _ _ (lp_x (k := (fun s => k_X1_digestOf_8_6 s)) (lp_r hf hq6) hz6) hP hD hG hS (lv_sub hl [2] rfl)
        · have hf := (if_neg c7).symm.trans hf
          refine lv_ldc2 (v := 31) hx hb hown (hts (.constantLong RX1 140 (31)) (by decide +kernel)) dX1_digestOf_19 ?_
          refine lv_lload hx hb dX1_digestOf_22 (lv_at hl 2 rfl) ?_
          refine lv_lmul hx hb dX1_digestOf_24 ?_
          refine lv_aload_n hx hb dX1_digestOf_25 rfl (lv_at hl 0 rfl) ?_
          refine lv_iload hx hb dX1_digestOf_26 (lv_at hl 3 rfl) ?_
          obtain ⟨x4, hix4, ex4, hf⟩ := rd_b hf
          refine va_iald hx hb hK hP 8 0 rfl rfl hix4 dX1_digestOf_28 (kI ex4 ?_)
          refine lv_i2l hx hb dX1_digestOf_29 rfl ?_
          refine lv_ladd hx hb dX1_digestOf_30 ?_
          refine lv_topl (fun x5 ex5 => ?_)
          have hf := bs ex5 hf
          refine lv_lstore (lv' := [(4, .long x5), (2, .ref (h 8)), (3, .int p2), (6, .int y3)]) hx hb dX1_digestOf_31 hl (by decide) rfl (fun ls hl => ?_)
          obtain ⟨x6, ex6, hf⟩ := bn hf
          refine lv_iinc (v := x6) (lv' := [(6, .int x6), (4, .long x5), (2, .ref (h 8)), (3, .int p2)]) hx hb dX1_digestOf_33 hl (k := 3) rfl (by rw [ex6]; rfl) (by decide) rfl (fun ls hl => ?_)
          refine lv_goto (tgt := 6) hx hb dX1_digestOf_36 (by decide) ?_
          exact ih6 x5 x6 _ _ _ _ _ _ (lp_l hf hq6) hP hD hG hS (lv_sub hl [2, 3, 1, 0] rfl)
  exact L6 FU p0 0 _ _ _ _ _ _ ez6 hP hD hG hS (lv_sub hl [3, 4, 1, 0] rfl)

def k_X1_digestOf_9_6 (y1 : Int64) : Option Int64 :=
  some y1
def b_X1_digestOf_9_6 (S : CS) (p2 : Int32) (y2 : Int64) (y3 : Int32) : Option ((Int64 × Int32) ⊕ Int64) :=
  (if p2 ≤ y3 then (some (Sum.inr y2)) else ((if 5 ≤ y3 then (some (Sum.inr y2)) else (Option.bind (rdI 5 (S.1 9) y3) (fun x4 => Option.bind (some ((31 * y2) + (Int32.toInt64 x4))) (fun x5 => Option.bind (some (y3 + 1)) (fun x6 => some (Sum.inl (x5, x6)))))))))
def f_X1_digestOf_9 (S : CS) (p0 : Int64) (p2 : Int32) : Option Int64 :=
  Option.bind (lp (fun s => b_X1_digestOf_9_6 S p2 s.1 s.2) FU (p0, 0)) (fun s => k_X1_digestOf_9_6 s)
def rmX1_digestOf_9 : Room := { frames := 0, cells := 0, slots := 0, locals := 0 }
abbrev RRX1_digestOf_9 : Room := (headSpec wsX1_digestOf rmX1_digestOf_9).room
set_option maxHeartbeats 4000000 in
set_option maxRecDepth 100000 in
theorem c_X1_digestOf_9 (l : Launch) (dC : Nat → ClassId) (dI : Nat → Nat → Nat) (t : Nat → ClassId) (ts aK aV : Nat → Nat) (A : Nat → Prop) (h : Nat → Nat) (tx : Nat) (sz : Nat) (hA0 : ∀ q : Nat, sz ≤ q → A q) (S : CS) (p0 : Int64) (p2 : Int32) (r : Int64) (hf : f_X1_digestOf_9 S p0 p2 = some r) : cCl l yX1_digestOf wsX1_digestOf rmX1_digestOf_9 dC dI t ts aK aV A h tx tx sz [.long p0, .ref (h 9), .int p2] S r S := by
  refine Met.ofW (cc := cX1_digestOf) (maxL := 7) (ret := (some .long)) (by decide) rfl ?_
  intro p e s m args below meth c s₁ B hml hv
  obtain ⟨hargs, hsz, hE, hC, hK⟩ := hv
  have hx := B.exec
  have hb := B.bytes
  have hr := B.returns
  have hts := atoms_spec (ws := wsX1_digestOf) B.pre
  have hown : s.vm.findClass RX1 = some m.cls := findClass_of_methodNamed B.named
  have hlocks := B.notSynchronized
  have hsz : s.heap.size = sz := hsz
  subst hsz
  have hA : ∀ q : Nat, s.heap.size ≤ q → A q := hA0
  obtain ⟨g, LP, pf, hP, hD, hG⟩ := hC
  have hS : va_S A s.heap s.heap [] := va_S.rf
  have hl := lv_entry ([.long p0, .ref (h 9), .int p2]) (n := 7) (Nat.le_of_ble_eq_true rfl)
  rw [show entryFrame m args 7 = entryFrame m ([.long p0, .ref (h 9), .int p2] : List Value).toArray 7 from by rw [hargs], lg_entry_eq]
  generalize (lg_sl ([.long p0, .ref (h 9), .int p2]) ++ List.replicate (7 - (lg_sl ([.long p0, .ref (h 9), .int p2])).length) Slot.unset).toArray = ls at hl ⊢
  have hl : lv_has ls 7 [(0, .long p0), (2, .ref (h 9)), (3, .int p2)] := hl
  unfold f_X1_digestOf_9 at hf
  refine lv_lload_n hx hb dX1_digestOf_0 rfl (lv_at hl 0 rfl) ?_
  refine lv_lstore (lv' := [(4, .long p0), (0, .long p0), (2, .ref (h 9)), (3, .int p2)]) hx hb dX1_digestOf_1 hl (by decide) rfl (fun ls hl => ?_)
  refine lv_iconst (v := 0) hx hb dX1_digestOf_3 (by decide) ?_
  refine lv_istore (lv' := [(6, .int 0), (4, .long p0), (0, .long p0), (2, .ref (h 9)), (3, .int p2)]) hx hb dX1_digestOf_4 hl (by decide) rfl (fun ls hl => ?_)
  have K6 : ∀ (y1 : Int64) (g : Nat → Nat → Option Nat) (LP : List Nat) (pf : Nat → va_E) (H : Heap) (locs : List Loc) (ls : Array Slot), k_X1_digestOf_9_6 y1 = some r → va_P (dC, dI) vwCl (wC t h tx g S ++ va_pl LP pf) H → va_D A (wC t h tx g S ++ va_pl LP pf) → rlC g LP pf S → va_S A s.heap H locs → lv_has ls 7 [(4, .long y1)] → W p l e RRX1_digestOf_9 s m args below meth c H locs 0 0 (MQ below (qcCl dC dI t A h tx r S) args s 0 0 A) (F0 m 39 ls []) := by
    intro y1 g LP pf H locs ls hf hP hD hG hS hl
    unfold k_X1_digestOf_9_6 at hf
    refine lv_lload hx hb dX1_digestOf_39 (lv_at hl 0 rfl) ?_
    exact rtCl hx hb hr hlocks ⟨g, LP, pf, hP, hD, hG⟩ hS (congrArg (fun z => some (z, S)) (Option.some.inj hf)) dX1_digestOf_41
  obtain ⟨z6, ez6, hz6⟩ := bd hf
  have L6 : ∀ (n : Nat) (y2 : Int64) (y3 : Int32) (g : Nat → Nat → Option Nat) (LP : List Nat) (pf : Nat → va_E) (H : Heap) (locs : List Loc) (ls : Array Slot), lp (fun s => b_X1_digestOf_9_6 S p2 s.1 s.2) n (y2, y3) = some z6 → va_P (dC, dI) vwCl (wC t h tx g S ++ va_pl LP pf) H → va_D A (wC t h tx g S ++ va_pl LP pf) → rlC g LP pf S → va_S A s.heap H locs → lv_has ls 7 [(2, .ref (h 9)), (3, .int p2), (4, .long y2), (6, .int y3)] → W p l e RRX1_digestOf_9 s m args below meth c H locs 0 0 (MQ below (qcCl dC dI t A h tx r S) args s 0 0 A) (F0 m 6 ls []) := by
    intro n
    induction n with
    | zero => intro y2 y3 g LP pf H locs ls hf; exact lp_z hf
    | succ n ih6 =>
      intro y2 y3 g LP pf H locs ls hf hP hD hG hS hl
      obtain ⟨q6, hf, hq6⟩ := lp_i hf
      have hf : b_X1_digestOf_9_6 S p2 y2 y3 = some q6 := hf
      unfold b_X1_digestOf_9_6 at hf
      refine lv_iload hx hb dX1_digestOf_6 (lv_at hl 3 rfl) ?_
      refine lv_iload_n hx hb dX1_digestOf_8 rfl (lv_at hl 1 rfl) ?_
      refine lv_icmp_ge (tgt := 39) hx hb dX1_digestOf_9 (by decide) (fun c8 => ?_) (fun c8 => ?_)
      · have hf := (if_pos c8).symm.trans hf
        exact K6 y2 _ _ _ _ _ _ (lp_x (k := (fun s => k_X1_digestOf_9_6 s)) (lp_r hf hq6) hz6) hP hD hG hS (lv_sub hl [2] rfl)
      · have hf := (if_neg c8).symm.trans hf
        refine lv_iload hx hb dX1_digestOf_12 (lv_at hl 3 rfl) ?_
        refine lv_aload_n hx hb dX1_digestOf_14 rfl (lv_at hl 0 rfl) ?_
        refine va_alen (v := 5) hx hb hK hP 9 0 rfl rfl rfl dX1_digestOf_15 ?_
        refine lv_icmp_ge (tgt := 39) hx hb dX1_digestOf_16 (by decide) (fun c7 => ?_) (fun c7 => ?_)
        · have hf := (if_pos c7).symm.trans hf
          exact K6 y2 _ _ _ _ _ _ (lp_x (k := (fun s => k_X1_digestOf_9_6 s)) (lp_r hf hq6) hz6) hP hD hG hS (lv_sub hl [2] rfl)
        · have hf := (if_neg c7).symm.trans hf
          refine lv_ldc2 (v := 31) hx hb hown (hts (.constantLong RX1 140 (31)) (by decide +kernel)) dX1_digestOf_19 ?_
          refine lv_lload hx hb dX1_digestOf_22 (lv_at hl 2 rfl) ?_
          refine lv_lmul hx hb dX1_digestOf_24 ?_
          refine lv_aload_n hx hb dX1_digestOf_25 rfl (lv_at hl 0 rfl) ?_
          refine lv_iload hx hb dX1_digestOf_26 (lv_at hl 3 rfl) ?_
          obtain ⟨x4, hix4, ex4, hf⟩ := rd_b hf
          refine va_iald hx hb hK hP 9 0 rfl rfl hix4 dX1_digestOf_28 (kI ex4 ?_)
          refine lv_i2l hx hb dX1_digestOf_29 rfl ?_
          refine lv_ladd hx hb dX1_digestOf_30 ?_
          refine lv_topl (fun x5 ex5 => ?_)
          have hf := bs ex5 hf
          refine lv_lstore (lv' := [(4, .long x5), (2, .ref (h 9)), (3, .int p2), (6, .int y3)]) hx hb dX1_digestOf_31 hl (by decide) rfl (fun ls hl => ?_)
          obtain ⟨x6, ex6, hf⟩ := bn hf
          refine lv_iinc (v := x6) (lv' := [(6, .int x6), (4, .long x5), (2, .ref (h 9)), (3, .int p2)]) hx hb dX1_digestOf_33 hl (k := 3) rfl (by rw [ex6]; rfl) (by decide) rfl (fun ls hl => ?_)
          refine lv_goto (tgt := 6) hx hb dX1_digestOf_36 (by decide) ?_
          exact ih6 x5 x6 _ _ _ _ _ _ (lp_l hf hq6) hP hD hG hS (lv_sub hl [2, 3, 1, 0] rfl)
  exact L6 FU p0 0 _ _ _ _ _ _ ez6 hP hD hG hS (lv_sub hl [3, 4, 1, 0] rfl)

def k_X1_digestOfAll_3_148 (S : CS) (y7 : Int64) : Option Int64 :=
  Option.bind (f_X1_digestOf_8 S y7 (S.1 1308 0)) (fun r8 => Option.bind (f_X1_digestOf_9 S r8 (S.1 1309 0)) (fun r9 => some r9))
def b_X1_digestOfAll_3_148 (S : CS) (y10 : Int64) (y11 : Int32) : Option ((Int64 × Int32) ⊕ Int64) :=
  (if (S.1 1307 0) ≤ y11 then (some (Sum.inr y10)) else (Option.bind (rdI 20 (S.1 6) y11) (fun x12 => Option.bind (some ((31 * y10) + (Int32.toInt64 x12))) (fun x13 => Option.bind (rdI 20 (S.1 7) y11) (fun x14 => Option.bind (some ((31 * x13) + (Int32.toInt64 x14))) (fun x15 => Option.bind (some (y11 + 1)) (fun x16 => some (Sum.inl (x15, x16)))))))))
def k_X1_digestOfAll_3_54 (S : CS) (y5 : Int64) : Option Int64 :=
  Option.bind (f_X1_digestOf_5 S y5 4) (fun r6 => Option.bind (lp (fun s => b_X1_digestOfAll_3_148 S s.1 s.2) FU (r6, 0)) (fun s => k_X1_digestOfAll_3_148 S s))
def b_X1_digestOfAll_3_54 (S : CS) (y18 : Int64) (y19 : Int32) : Option ((Int64 × Int32) ⊕ Int64) :=
  (if (S.1 1306 0) ≤ y19 then (some (Sum.inr y18)) else (Option.bind (rdP (S.2.2 0) y19) (fun d20 => Option.bind (some ((31 * y18) + (Int32.toInt64 (d20.1)))) (fun x21 => Option.bind (rdP (S.2.2 0) y19) (fun d22 => Option.bind (some ((31 * x21) + (Int32.toInt64 (d22.2.1)))) (fun x23 => Option.bind (rdP (S.2.2 0) y19) (fun d24 => Option.bind (some ((31 * x23) + (Int32.toInt64 (d24.2.2.1)))) (fun x25 => Option.bind (rdP (S.2.2 0) y19) (fun d26 => Option.bind (some ((31 * x25) + (Int32.toInt64 (d26.2.2.2)))) (fun x27 => Option.bind (some (y19 + 1)) (fun x28 => some (Sum.inl (x27, x28)))))))))))))
def f_X1_digestOfAll_3 (S : CS)  : Option Int64 :=
  Option.bind (some ((31 * 631) + (Int32.toInt64 (S.1 1306 0)))) (fun x1 => Option.bind (some ((31 * x1) + (Int32.toInt64 (S.1 1307 0)))) (fun x2 => Option.bind (some ((31 * x2) + (Int32.toInt64 (S.1 1308 0)))) (fun x3 => Option.bind (some ((31 * x3) + (Int32.toInt64 (S.1 1309 0)))) (fun x4 => Option.bind (lp (fun s => b_X1_digestOfAll_3_54 S s.1 s.2) FU (x4, 0)) (fun s => k_X1_digestOfAll_3_54 S s)))))
def rmX1_digestOfAll_3 : Room := { frames := 1, cells := 0, slots := 0, locals := 26 }
abbrev RRX1_digestOfAll_3 : Room := (headSpec wsX1_digestOfAll rmX1_digestOfAll_3).room
theorem in0_X1_digestOfAll_3 : ∀ w ∈ wsX00, w ∈ wsX1_digestOfAll := by decide +kernel
theorem in1_X1_digestOfAll_3 : ∀ w ∈ wsX10, w ∈ wsX1_digestOfAll := by decide +kernel
theorem in2_X1_digestOfAll_3 : ∀ w ∈ wsX20, w ∈ wsX1_digestOfAll := by decide +kernel
theorem in3_X1_digestOfAll_3 : ∀ w ∈ wsX30, w ∈ wsX1_digestOfAll := by decide +kernel
theorem in4_X1_digestOfAll_3 : ∀ w ∈ wsX40, w ∈ wsX1_digestOfAll := by decide +kernel
theorem in6_X1_digestOfAll_3 : ∀ w ∈ wsX60, w ∈ wsX1_digestOfAll := by decide +kernel
theorem in9_X1_digestOfAll_3 : ∀ w ∈ wsX90, w ∈ wsX1_digestOfAll := by decide +kernel
set_option maxHeartbeats 4000000 in
set_option maxRecDepth 100000 in
theorem c_X1_digestOfAll_3 (l : Launch) (dC : Nat → ClassId) (dI : Nat → Nat → Nat) (t : Nat → ClassId) (ts aK aV : Nat → Nat) (A : Nat → Prop) (h : Nat → Nat) (tx : Nat) (sz : Nat) (hA0 : ∀ q : Nat, sz ≤ q → A q) (S : CS)  (r : Int64) (hf : f_X1_digestOfAll_3 S = some r) : cCl l yX1_digestOfAll wsX1_digestOfAll rmX1_digestOfAll_3 dC dI t ts aK aV A h tx tx sz [.ref (h 3)] S r S := by
  refine Met.ofW (cc := cX1_digestOfAll) (maxL := 4) (ret := (some .long)) (by decide) rfl ?_
  intro p e s m args below meth c s₁ B hml hv
  obtain ⟨hargs, hsz, hE, hC, hK⟩ := hv
  have hx := B.exec
  have hb := B.bytes
  have hr := B.returns
  have hts := atoms_spec (ws := wsX1_digestOfAll) B.pre
  have hown : s.vm.findClass RX1 = some m.cls := findClass_of_methodNamed B.named
  have hlocks := B.notSynchronized
  have hsz : s.heap.size = sz := hsz
  subst hsz
  have hin0 := in0_X1_digestOfAll_3
  have hin1 := in1_X1_digestOfAll_3
  have hin2 := in2_X1_digestOfAll_3
  have hin3 := in3_X1_digestOfAll_3
  have hin4 := in4_X1_digestOfAll_3
  have hin6 := in6_X1_digestOfAll_3
  have hin9 := in9_X1_digestOfAll_3
  have lk11_1 : Cond.fieldLink RX1 11 (TX1 0).1 (TX1 0).2.1 (TX1 0).2.2.1 ∈ wsX1_digestOfAll := by decide +kernel
  have lk17_1 : Cond.fieldLink RX1 17 (TX1 1).1 (TX1 1).2.1 (TX1 1).2.2.1 ∈ wsX1_digestOfAll := by decide +kernel
  have lk21_1 : Cond.fieldLink RX1 21 (TX1 2).1 (TX1 2).2.1 (TX1 2).2.2.1 ∈ wsX1_digestOfAll := by decide +kernel
  have lk24_1 : Cond.fieldLink RX1 24 (TX1 3).1 (TX1 3).2.1 (TX1 3).2.2.1 ∈ wsX1_digestOfAll := by decide +kernel
  have lk27_1 : Cond.fieldLink RX1 27 (TX1 4).1 (TX1 4).2.1 (TX1 4).2.2.1 ∈ wsX1_digestOfAll := by decide +kernel
  have lk30_1 : Cond.fieldLink RX1 30 (TX1 5).1 (TX1 5).2.1 (TX1 5).2.2.1 ∈ wsX1_digestOfAll := by decide +kernel
  have lk49_1 : Cond.fieldLink RX1 49 (TX1 8).1 (TX1 8).2.1 (TX1 8).2.2.1 ∈ wsX1_digestOfAll := by decide +kernel
  have lk53_1 : Cond.fieldLink RX1 53 (TX1 9).1 (TX1 9).2.1 (TX1 9).2.2.1 ∈ wsX1_digestOfAll := by decide +kernel
  have lk56_1 : Cond.fieldLink RX1 56 (TX1 6).1 (TX1 6).2.1 (TX1 6).2.2.1 ∈ wsX1_digestOfAll := by decide +kernel
  have lk59_1 : Cond.fieldLink RX1 59 (TX1 7).1 (TX1 7).2.1 (TX1 7).2.2.1 ∈ wsX1_digestOfAll := by decide +kernel
  have lk80_6 : Cond.fieldLink RX1 80 (TX6 2).1 (TX6 2).2.1 (TX6 2).2.2.1 ∈ wsX1_digestOfAll := by decide +kernel
  have lk142_6 : Cond.fieldLink RX1 142 (TX6 0).1 (TX6 0).2.1 (TX6 0).2.2.1 ∈ wsX1_digestOfAll := by decide +kernel
  have lk145_6 : Cond.fieldLink RX1 145 (TX6 1).1 (TX6 1).2.1 (TX6 1).2.2.1 ∈ wsX1_digestOfAll := by decide +kernel
  have lk148_6 : Cond.fieldLink RX1 148 (TX6 3).1 (TX6 3).2.1 (TX6 3).2.2.1 ∈ wsX1_digestOfAll := by decide +kernel
  have hA : ∀ q : Nat, s.heap.size ≤ q → A q := hA0
  obtain ⟨g, LP, pf, hP, hD, hG⟩ := hC
  have hS : va_S A s.heap s.heap [] := va_S.rf
  have hl := lv_entry ([.ref (h 3)]) (n := 4) (Nat.le_of_ble_eq_true rfl)
  rw [show entryFrame m args 4 = entryFrame m ([.ref (h 3)] : List Value).toArray 4 from by rw [hargs], lg_entry_eq]
  generalize (lg_sl ([.ref (h 3)]) ++ List.replicate (4 - (lg_sl ([.ref (h 3)])).length) Slot.unset).toArray = ls at hl ⊢
  have hl : lv_has ls 4 [(0, .ref (h 3))] := hl
  unfold f_X1_digestOfAll_3 at hf
  refine lv_ldc2 (v := 631) hx hb hown (hts (.constantLong RX1 138 (631)) (by decide +kernel)) dX1_digestOfAll_0 ?_
  refine lv_lstore_n (lv' := [(1, .long 631), (0, .ref (h 3))]) hx hb dX1_digestOfAll_3 rfl hl (by decide) rfl (fun ls hl => ?_)
  refine lv_ldc2 (v := 31) hx hb hown (hts (.constantLong RX1 140 (31)) (by decide +kernel)) dX1_digestOfAll_4 ?_
  refine lv_lload_n hx hb dX1_digestOfAll_7 rfl (lv_at hl 0 rfl) ?_
  refine lv_lmul hx hb dX1_digestOfAll_8 ?_
  refine lv_aload_n hx hb dX1_digestOfAll_9 rfl (lv_at hl 1 rfl) ?_
  refine va_get (D := (dC, dI)) (ci := 1) (v := .int (S.1 1306 0)) (C := RX1) (T := TX1) (N := 10) hx hb hts hin1 hown hK hP 3 rfl rfl 6 (by decide) (hts _ lk56_1) (fun _ h9 => h9) rfl dX1_digestOfAll_10 ?_
  refine lv_i2l hx hb dX1_digestOfAll_13 rfl ?_
  refine lv_ladd hx hb dX1_digestOfAll_14 ?_
  refine lv_topl (fun x1 ex1 => ?_)
  have hf := bs ex1 hf
  refine lv_lstore_n (lv' := [(1, .long x1), (0, .ref (h 3))]) hx hb dX1_digestOfAll_15 rfl hl (by decide) rfl (fun ls hl => ?_)
  refine lv_ldc2 (v := 31) hx hb hown (hts (.constantLong RX1 140 (31)) (by decide +kernel)) dX1_digestOfAll_16 ?_
  refine lv_lload_n hx hb dX1_digestOfAll_19 rfl (lv_at hl 0 rfl) ?_
  refine lv_lmul hx hb dX1_digestOfAll_20 ?_
  refine lv_aload_n hx hb dX1_digestOfAll_21 rfl (lv_at hl 1 rfl) ?_
  refine va_get (D := (dC, dI)) (ci := 1) (v := .int (S.1 1307 0)) (C := RX1) (T := TX1) (N := 10) hx hb hts hin1 hown hK hP 3 rfl rfl 7 (by decide) (hts _ lk59_1) (fun _ h9 => h9) rfl dX1_digestOfAll_22 ?_
  refine lv_i2l hx hb dX1_digestOfAll_25 rfl ?_
  refine lv_ladd hx hb dX1_digestOfAll_26 ?_
  refine lv_topl (fun x2 ex2 => ?_)
  have hf := bs ex2 hf
  refine lv_lstore_n (lv' := [(1, .long x2), (0, .ref (h 3))]) hx hb dX1_digestOfAll_27 rfl hl (by decide) rfl (fun ls hl => ?_)
  refine lv_ldc2 (v := 31) hx hb hown (hts (.constantLong RX1 140 (31)) (by decide +kernel)) dX1_digestOfAll_28 ?_
  refine lv_lload_n hx hb dX1_digestOfAll_31 rfl (lv_at hl 0 rfl) ?_
  refine lv_lmul hx hb dX1_digestOfAll_32 ?_
  refine lv_aload_n hx hb dX1_digestOfAll_33 rfl (lv_at hl 1 rfl) ?_
  refine va_get (D := (dC, dI)) (ci := 1) (v := .int (S.1 1308 0)) (C := RX1) (T := TX1) (N := 10) hx hb hts hin1 hown hK hP 3 rfl rfl 8 (by decide) (hts _ lk49_1) (fun _ h9 => h9) rfl dX1_digestOfAll_34 ?_
  refine lv_i2l hx hb dX1_digestOfAll_37 rfl ?_
  refine lv_ladd hx hb dX1_digestOfAll_38 ?_
  refine lv_topl (fun x3 ex3 => ?_)
  have hf := bs ex3 hf
  refine lv_lstore_n (lv' := [(1, .long x3), (0, .ref (h 3))]) hx hb dX1_digestOfAll_39 rfl hl (by decide) rfl (fun ls hl => ?_)
  refine lv_ldc2 (v := 31) hx hb hown (hts (.constantLong RX1 140 (31)) (by decide +kernel)) dX1_digestOfAll_40 ?_
  refine lv_lload_n hx hb dX1_digestOfAll_43 rfl (lv_at hl 0 rfl) ?_
  refine lv_lmul hx hb dX1_digestOfAll_44 ?_
  refine lv_aload_n hx hb dX1_digestOfAll_45 rfl (lv_at hl 1 rfl) ?_
  refine va_get (D := (dC, dI)) (ci := 1) (v := .int (S.1 1309 0)) (C := RX1) (T := TX1) (N := 10) hx hb hts hin1 hown hK hP 3 rfl rfl 9 (by decide) (hts _ lk53_1) (fun _ h9 => h9) rfl dX1_digestOfAll_46 ?_
  refine lv_i2l hx hb dX1_digestOfAll_49 rfl ?_
  refine lv_ladd hx hb dX1_digestOfAll_50 ?_
  refine lv_topl (fun x4 ex4 => ?_)
  have hf := bs ex4 hf
  refine lv_lstore_n (lv' := [(1, .long x4), (0, .ref (h 3))]) hx hb dX1_digestOfAll_51 rfl hl (by decide) rfl (fun ls hl => ?_)
  refine lv_iconst (v := 0) hx hb dX1_digestOfAll_52 (by decide) ?_
  refine lv_istore_n (lv' := [(3, .int 0), (1, .long x4), (0, .ref (h 3))]) hx hb dX1_digestOfAll_53 rfl hl (by decide) rfl (fun ls hl => ?_)
  have K54 : ∀ (y5 : Int64) (g : Nat → Nat → Option Nat) (LP : List Nat) (pf : Nat → va_E) (H : Heap) (locs : List Loc) (ls : Array Slot), k_X1_digestOfAll_3_54 S y5 = some r → va_P (dC, dI) vwCl (wC t h tx g S ++ va_pl LP pf) H → va_D A (wC t h tx g S ++ va_pl LP pf) → rlC g LP pf S → va_S A s.heap H locs → lv_has ls 4 [(0, .ref (h 3)), (1, .long y5)] → W p l e RRX1_digestOfAll_3 s m args below meth c H locs 0 0 (MQ below (qcCl dC dI t A h tx r S) args s 0 0 A) (F0 m 136 ls []) := by
    intro y5 g LP pf H locs ls hf hP hD hG hS hl
    unfold k_X1_digestOfAll_3_54 at hf
    refine lv_lload_n hx hb dX1_digestOfAll_136 rfl (lv_at hl 1 rfl) ?_
    refine lv_aload_n hx hb dX1_digestOfAll_137 rfl (lv_at hl 0 rfl) ?_
    refine va_get (D := (dC, dI)) (ci := 1) (v := .ref (h 5)) (C := RX1) (T := TX1) (N := 10) hx hb hts hin1 hown hK hP 3 rfl rfl 1 (by decide) (hts _ lk17_1) (fun _ h9 => h9) rfl dX1_digestOfAll_138 ?_
    refine lv_iconst (v := 4) hx hb dX1_digestOfAll_141 (by decide) ?_
    obtain ⟨r6, er6, hf⟩ := bd hf
    refine klCsl (rest := []) (As := [.long y5, .ref (h 5), .int 4]) ⟨hx, hb, hml, hown, hts⟩ (c_X1_digestOf_5 l dC dI t ts aK aV A h tx H.size (fun q hq => hA q (Nat.le_trans hS.1 hq)) S y5 4 r6 er6) (va_cwS 3 hts gX1_digestOfAll_X1_digestOf rfl rfl rfl (by decide +kernel) ⟨Nat.le_of_ble_eq_true rfl, Nat.le_of_ble_eq_true rfl⟩) rfl hl.1 rfl (Nat.le_of_ble_eq_true rfl) dX1_digestOfAll_142 ⟨Nat.zero_le _, Nat.zero_le _⟩ hE hK ⟨g, LP, pf, hP, hD, hG⟩ hS (fun H locs hC hS => ?_)
    obtain ⟨g, LP, pf, hP, hD, hG⟩ := hC
    refine lv_lstore_n (lv' := [(1, .long r6), (0, .ref (h 3))]) hx hb dX1_digestOfAll_145 rfl hl (by decide) rfl (fun ls hl => ?_)
    refine lv_iconst (v := 0) hx hb dX1_digestOfAll_146 (by decide) ?_
    refine lv_istore_n (lv' := [(3, .int 0), (1, .long r6), (0, .ref (h 3))]) hx hb dX1_digestOfAll_147 rfl hl (by decide) rfl (fun ls hl => ?_)
    have K148 : ∀ (y7 : Int64) (g : Nat → Nat → Option Nat) (LP : List Nat) (pf : Nat → va_E) (H : Heap) (locs : List Loc) (ls : Array Slot), k_X1_digestOfAll_3_148 S y7 = some r → va_P (dC, dI) vwCl (wC t h tx g S ++ va_pl LP pf) H → va_D A (wC t h tx g S ++ va_pl LP pf) → rlC g LP pf S → va_S A s.heap H locs → lv_has ls 4 [(0, .ref (h 3)), (1, .long y7)] → W p l e RRX1_digestOfAll_3 s m args below meth c H locs 0 0 (MQ below (qcCl dC dI t A h tx r S) args s 0 0 A) (F0 m 190 ls []) := by
      intro y7 g LP pf H locs ls hf hP hD hG hS hl
      unfold k_X1_digestOfAll_3_148 at hf
      refine lv_lload_n hx hb dX1_digestOfAll_190 rfl (lv_at hl 1 rfl) ?_
      refine lv_aload_n hx hb dX1_digestOfAll_191 rfl (lv_at hl 0 rfl) ?_
      refine va_get (D := (dC, dI)) (ci := 1) (v := .ref (h 8)) (C := RX1) (T := TX1) (N := 10) hx hb hts hin1 hown hK hP 3 rfl rfl 4 (by decide) (hts _ lk27_1) (fun _ h9 => h9) rfl dX1_digestOfAll_192 ?_
      refine lv_aload_n hx hb dX1_digestOfAll_195 rfl (lv_at hl 0 rfl) ?_
      refine va_get (D := (dC, dI)) (ci := 1) (v := .int (S.1 1308 0)) (C := RX1) (T := TX1) (N := 10) hx hb hts hin1 hown hK hP 3 rfl rfl 8 (by decide) (hts _ lk49_1) (fun _ h9 => h9) rfl dX1_digestOfAll_196 ?_
      obtain ⟨r8, er8, hf⟩ := bd hf
      refine klCsl (rest := []) (As := [.long y7, .ref (h 8), .int (S.1 1308 0)]) ⟨hx, hb, hml, hown, hts⟩ (c_X1_digestOf_8 l dC dI t ts aK aV A h tx H.size (fun q hq => hA q (Nat.le_trans hS.1 hq)) S y7 (S.1 1308 0) r8 er8) (va_cwS 3 hts gX1_digestOfAll_X1_digestOf rfl rfl rfl (by decide +kernel) ⟨Nat.le_of_ble_eq_true rfl, Nat.le_of_ble_eq_true rfl⟩) rfl hl.1 rfl (Nat.le_of_ble_eq_true rfl) dX1_digestOfAll_199 ⟨Nat.zero_le _, Nat.zero_le _⟩ hE hK ⟨g, LP, pf, hP, hD, hG⟩ hS (fun H locs hC hS => ?_)
      obtain ⟨g, LP, pf, hP, hD, hG⟩ := hC
      refine lv_lstore_n (lv' := [(1, .long r8), (0, .ref (h 3))]) hx hb dX1_digestOfAll_202 rfl hl (by decide) rfl (fun ls hl => ?_)
      refine lv_lload_n hx hb dX1_digestOfAll_203 rfl (lv_at hl 0 rfl) ?_
      refine lv_aload_n hx hb dX1_digestOfAll_204 rfl (lv_at hl 1 rfl) ?_
      refine va_get (D := (dC, dI)) (ci := 1) (v := .ref (h 9)) (C := RX1) (T := TX1) (N := 10) hx hb hts hin1 hown hK hP 3 rfl rfl 5 (by decide) (hts _ lk30_1) (fun _ h9 => h9) rfl dX1_digestOfAll_205 ?_
      refine lv_aload_n hx hb dX1_digestOfAll_208 rfl (lv_at hl 1 rfl) ?_
      refine va_get (D := (dC, dI)) (ci := 1) (v := .int (S.1 1309 0)) (C := RX1) (T := TX1) (N := 10) hx hb hts hin1 hown hK hP 3 rfl rfl 9 (by decide) (hts _ lk53_1) (fun _ h9 => h9) rfl dX1_digestOfAll_209 ?_
      obtain ⟨r9, er9, hf⟩ := bd hf
      refine klCsl (rest := []) (As := [.long r8, .ref (h 9), .int (S.1 1309 0)]) ⟨hx, hb, hml, hown, hts⟩ (c_X1_digestOf_9 l dC dI t ts aK aV A h tx H.size (fun q hq => hA q (Nat.le_trans hS.1 hq)) S r8 (S.1 1309 0) r9 er9) (va_cwS 3 hts gX1_digestOfAll_X1_digestOf rfl rfl rfl (by decide +kernel) ⟨Nat.le_of_ble_eq_true rfl, Nat.le_of_ble_eq_true rfl⟩) rfl hl.1 rfl (Nat.le_of_ble_eq_true rfl) dX1_digestOfAll_212 ⟨Nat.zero_le _, Nat.zero_le _⟩ hE hK ⟨g, LP, pf, hP, hD, hG⟩ hS (fun H locs hC hS => ?_)
      obtain ⟨g, LP, pf, hP, hD, hG⟩ := hC
      exact rtCl hx hb hr hlocks ⟨g, LP, pf, hP, hD, hG⟩ hS (congrArg (fun z => some (z, S)) (Option.some.inj hf)) dX1_digestOfAll_215
    obtain ⟨z148, ez148, hz148⟩ := bd hf
    have L148 : ∀ (n : Nat) (y10 : Int64) (y11 : Int32) (g : Nat → Nat → Option Nat) (LP : List Nat) (pf : Nat → va_E) (H : Heap) (locs : List Loc) (ls : Array Slot), lp (fun s => b_X1_digestOfAll_3_148 S s.1 s.2) n (y10, y11) = some z148 → va_P (dC, dI) vwCl (wC t h tx g S ++ va_pl LP pf) H → va_D A (wC t h tx g S ++ va_pl LP pf) → rlC g LP pf S → va_S A s.heap H locs → lv_has ls 4 [(0, .ref (h 3)), (1, .long y10), (3, .int y11)] → W p l e RRX1_digestOfAll_3 s m args below meth c H locs 0 0 (MQ below (qcCl dC dI t A h tx r S) args s 0 0 A) (F0 m 148 ls []) := by
      intro n
      induction n with
      | zero => intro y10 y11 g LP pf H locs ls hf; exact lp_z hf
      | succ n ih148 =>
        intro y10 y11 g LP pf H locs ls hf hP hD hG hS hl
        obtain ⟨q148, hf, hq148⟩ := lp_i hf
        have hf : b_X1_digestOfAll_3_148 S y10 y11 = some q148 := hf
        unfold b_X1_digestOfAll_3_148 at hf
        refine lv_iload_n hx hb dX1_digestOfAll_148 rfl (lv_at hl 2 rfl) ?_
        refine lv_aload_n hx hb dX1_digestOfAll_149 rfl (lv_at hl 0 rfl) ?_
        refine va_get (D := (dC, dI)) (ci := 1) (v := .int (S.1 1307 0)) (C := RX1) (T := TX1) (N := 10) hx hb hts hin1 hown hK hP 3 rfl rfl 7 (by decide) (hts _ lk59_1) (fun _ h9 => h9) rfl dX1_digestOfAll_150 ?_
        refine lv_icmp_ge (tgt := 190) hx hb dX1_digestOfAll_153 (by decide) (fun c17 => ?_) (fun c17 => ?_)
        · have hf := (if_pos c17).symm.trans hf
          exact K148 y10 _ _ _ _ _ _ (lp_x (k := (fun s => k_X1_digestOfAll_3_148 S s)) (lp_r hf hq148) hz148) hP hD hG hS (lv_sub hl [0, 1] rfl)
        · have hf := (if_neg c17).symm.trans hf
          refine lv_ldc2 (v := 31) hx hb hown (hts (.constantLong RX1 140 (31)) (by decide +kernel)) dX1_digestOfAll_156 ?_
          refine lv_lload_n hx hb dX1_digestOfAll_159 rfl (lv_at hl 1 rfl) ?_
          refine lv_lmul hx hb dX1_digestOfAll_160 ?_
          refine lv_aload_n hx hb dX1_digestOfAll_161 rfl (lv_at hl 0 rfl) ?_
          refine va_get (D := (dC, dI)) (ci := 1) (v := .ref (h 6)) (C := RX1) (T := TX1) (N := 10) hx hb hts hin1 hown hK hP 3 rfl rfl 2 (by decide) (hts _ lk21_1) (fun _ h9 => h9) rfl dX1_digestOfAll_162 ?_
          refine lv_iload_n hx hb dX1_digestOfAll_165 rfl (lv_at hl 2 rfl) ?_
          obtain ⟨x12, hix12, ex12, hf⟩ := rd_b hf
          refine va_iald hx hb hK hP 6 0 rfl rfl hix12 dX1_digestOfAll_166 (kI ex12 ?_)
          refine lv_i2l hx hb dX1_digestOfAll_167 rfl ?_
          refine lv_ladd hx hb dX1_digestOfAll_168 ?_
          refine lv_topl (fun x13 ex13 => ?_)
          have hf := bs ex13 hf
          refine lv_lstore_n (lv' := [(1, .long x13), (0, .ref (h 3)), (3, .int y11)]) hx hb dX1_digestOfAll_169 rfl hl (by decide) rfl (fun ls hl => ?_)
          refine lv_ldc2 (v := 31) hx hb hown (hts (.constantLong RX1 140 (31)) (by decide +kernel)) dX1_digestOfAll_170 ?_
          refine lv_lload_n hx hb dX1_digestOfAll_173 rfl (lv_at hl 0 rfl) ?_
          refine lv_lmul hx hb dX1_digestOfAll_174 ?_
          refine lv_aload_n hx hb dX1_digestOfAll_175 rfl (lv_at hl 1 rfl) ?_
          refine va_get (D := (dC, dI)) (ci := 1) (v := .ref (h 7)) (C := RX1) (T := TX1) (N := 10) hx hb hts hin1 hown hK hP 3 rfl rfl 3 (by decide) (hts _ lk24_1) (fun _ h9 => h9) rfl dX1_digestOfAll_176 ?_
          refine lv_iload_n hx hb dX1_digestOfAll_179 rfl (lv_at hl 2 rfl) ?_
          obtain ⟨x14, hix14, ex14, hf⟩ := rd_b hf
          refine va_iald hx hb hK hP 7 0 rfl rfl hix14 dX1_digestOfAll_180 (kI ex14 ?_)
          refine lv_i2l hx hb dX1_digestOfAll_181 rfl ?_
          refine lv_ladd hx hb dX1_digestOfAll_182 ?_
          refine lv_topl (fun x15 ex15 => ?_)
          have hf := bs ex15 hf
          refine lv_lstore_n (lv' := [(1, .long x15), (0, .ref (h 3)), (3, .int y11)]) hx hb dX1_digestOfAll_183 rfl hl (by decide) rfl (fun ls hl => ?_)
          obtain ⟨x16, ex16, hf⟩ := bn hf
          refine lv_iinc (v := x16) (lv' := [(3, .int x16), (1, .long x15), (0, .ref (h 3))]) hx hb dX1_digestOfAll_184 hl (k := 2) rfl (by rw [ex16]; rfl) (by decide) rfl (fun ls hl => ?_)
          refine lv_goto (tgt := 148) hx hb dX1_digestOfAll_187 (by decide) ?_
          exact ih148 x15 x16 _ _ _ _ _ _ (lp_l hf hq148) hP hD hG hS (lv_sub hl [2, 1, 0] rfl)
    exact L148 FU r6 0 _ _ _ _ _ _ ez148 hP hD hG hS (lv_sub hl [2, 1, 0] rfl)
  obtain ⟨z54, ez54, hz54⟩ := bd hf
  have L54 : ∀ (n : Nat) (y18 : Int64) (y19 : Int32) (g : Nat → Nat → Option Nat) (LP : List Nat) (pf : Nat → va_E) (H : Heap) (locs : List Loc) (ls : Array Slot), lp (fun s => b_X1_digestOfAll_3_54 S s.1 s.2) n (y18, y19) = some z54 → va_P (dC, dI) vwCl (wC t h tx g S ++ va_pl LP pf) H → va_D A (wC t h tx g S ++ va_pl LP pf) → rlC g LP pf S → va_S A s.heap H locs → lv_has ls 4 [(0, .ref (h 3)), (1, .long y18), (3, .int y19)] → W p l e RRX1_digestOfAll_3 s m args below meth c H locs 0 0 (MQ below (qcCl dC dI t A h tx r S) args s 0 0 A) (F0 m 54 ls []) := by
    intro n
    induction n with
    | zero => intro y18 y19 g LP pf H locs ls hf; exact lp_z hf
    | succ n ih54 =>
      intro y18 y19 g LP pf H locs ls hf hP hD hG hS hl
      obtain ⟨q54, hf, hq54⟩ := lp_i hf
      have hf : b_X1_digestOfAll_3_54 S y18 y19 = some q54 := hf
      unfold b_X1_digestOfAll_3_54 at hf
      refine lv_iload_n hx hb dX1_digestOfAll_54 rfl (lv_at hl 2 rfl) ?_
      refine lv_aload_n hx hb dX1_digestOfAll_55 rfl (lv_at hl 0 rfl) ?_
      refine va_get (D := (dC, dI)) (ci := 1) (v := .int (S.1 1306 0)) (C := RX1) (T := TX1) (N := 10) hx hb hts hin1 hown hK hP 3 rfl rfl 6 (by decide) (hts _ lk56_1) (fun _ h9 => h9) rfl dX1_digestOfAll_56 ?_
      refine lv_icmp_ge (tgt := 136) hx hb dX1_digestOfAll_59 (by decide) (fun c29 => ?_) (fun c29 => ?_)
      · have hf := (if_pos c29).symm.trans hf
        exact K54 y18 _ _ _ _ _ _ (lp_x (k := (fun s => k_X1_digestOfAll_3_54 S s)) (lp_r hf hq54) hz54) hP hD hG hS (lv_sub hl [0, 1] rfl)
      · have hf := (if_neg c29).symm.trans hf
        refine lv_ldc2 (v := 31) hx hb hown (hts (.constantLong RX1 140 (31)) (by decide +kernel)) dX1_digestOfAll_62 ?_
        refine lv_lload_n hx hb dX1_digestOfAll_65 rfl (lv_at hl 1 rfl) ?_
        refine lv_lmul hx hb dX1_digestOfAll_66 ?_
        refine lv_aload_n hx hb dX1_digestOfAll_67 rfl (lv_at hl 0 rfl) ?_
        refine va_get (D := (dC, dI)) (ci := 1) (v := .ref (h 4)) (C := RX1) (T := TX1) (N := 10) hx hb hts hin1 hown hK hP 3 rfl rfl 0 (by decide) (hts _ lk11_1) (fun _ h9 => h9) rfl dX1_digestOfAll_68 ?_
        refine lv_iload_n hx hb dX1_digestOfAll_71 rfl (lv_at hl 2 rfl) ?_
        obtain ⟨d20, hid20, ed20, hf⟩ := rdP_b hf
        obtain ⟨ad20, gad20, lad20, pad20⟩ := hG 0 (by decide) _ (in_lt hid20)
        rw [← ed20] at pad20
        obtain ⟨kd20, hkd20⟩ := va_pl_get (X := wC t h tx g S) (f := pf) lad20
        rw [pad20] at hkd20
        refine va_aldq hx hb hK hP 4 4 rfl rfl hid20 dX1_digestOfAll_72 (kR gad20 ?_)
        refine gePd (d := d20) hx hb hts hin0 hin2 hin3 hin4 hin6 hin9 hown hK hP hkd20 0 (by decide) lk142_6 rfl dX1_digestOfAll_73 ?_
        refine lv_i2l hx hb dX1_digestOfAll_76 rfl ?_
        refine lv_ladd hx hb dX1_digestOfAll_77 ?_
        refine lv_topl (fun x21 ex21 => ?_)
        have hf := bs ex21 hf
        refine lv_lstore_n (lv' := [(1, .long x21), (0, .ref (h 3)), (3, .int y19)]) hx hb dX1_digestOfAll_78 rfl hl (by decide) rfl (fun ls hl => ?_)
        refine lv_ldc2 (v := 31) hx hb hown (hts (.constantLong RX1 140 (31)) (by decide +kernel)) dX1_digestOfAll_79 ?_
        refine lv_lload_n hx hb dX1_digestOfAll_82 rfl (lv_at hl 0 rfl) ?_
        refine lv_lmul hx hb dX1_digestOfAll_83 ?_
        refine lv_aload_n hx hb dX1_digestOfAll_84 rfl (lv_at hl 1 rfl) ?_
        refine va_get (D := (dC, dI)) (ci := 1) (v := .ref (h 4)) (C := RX1) (T := TX1) (N := 10) hx hb hts hin1 hown hK hP 3 rfl rfl 0 (by decide) (hts _ lk11_1) (fun _ h9 => h9) rfl dX1_digestOfAll_85 ?_
        refine lv_iload_n hx hb dX1_digestOfAll_88 rfl (lv_at hl 2 rfl) ?_
        obtain ⟨d22, hid22, ed22, hf⟩ := rdP_b hf
        obtain ⟨ad22, gad22, lad22, pad22⟩ := hG 0 (by decide) _ (in_lt hid22)
        rw [← ed22] at pad22
        obtain ⟨kd22, hkd22⟩ := va_pl_get (X := wC t h tx g S) (f := pf) lad22
        rw [pad22] at hkd22
        refine va_aldq hx hb hK hP 4 4 rfl rfl hid22 dX1_digestOfAll_89 (kR gad22 ?_)
        refine gePd (d := d22) hx hb hts hin0 hin2 hin3 hin4 hin6 hin9 hown hK hP hkd22 1 (by decide) lk145_6 rfl dX1_digestOfAll_90 ?_
        refine lv_i2l hx hb dX1_digestOfAll_93 rfl ?_
        refine lv_ladd hx hb dX1_digestOfAll_94 ?_
        refine lv_topl (fun x23 ex23 => ?_)
        have hf := bs ex23 hf
        refine lv_lstore_n (lv' := [(1, .long x23), (0, .ref (h 3)), (3, .int y19)]) hx hb dX1_digestOfAll_95 rfl hl (by decide) rfl (fun ls hl => ?_)
        refine lv_ldc2 (v := 31) hx hb hown (hts (.constantLong RX1 140 (31)) (by decide +kernel)) dX1_digestOfAll_96 ?_
        refine lv_lload_n hx hb dX1_digestOfAll_99 rfl (lv_at hl 0 rfl) ?_
        refine lv_lmul hx hb dX1_digestOfAll_100 ?_
        refine lv_aload_n hx hb dX1_digestOfAll_101 rfl (lv_at hl 1 rfl) ?_
        refine va_get (D := (dC, dI)) (ci := 1) (v := .ref (h 4)) (C := RX1) (T := TX1) (N := 10) hx hb hts hin1 hown hK hP 3 rfl rfl 0 (by decide) (hts _ lk11_1) (fun _ h9 => h9) rfl dX1_digestOfAll_102 ?_
        refine lv_iload_n hx hb dX1_digestOfAll_105 rfl (lv_at hl 2 rfl) ?_
        obtain ⟨d24, hid24, ed24, hf⟩ := rdP_b hf
        obtain ⟨ad24, gad24, lad24, pad24⟩ := hG 0 (by decide) _ (in_lt hid24)
        rw [← ed24] at pad24
        obtain ⟨kd24, hkd24⟩ := va_pl_get (X := wC t h tx g S) (f := pf) lad24
        rw [pad24] at hkd24
        refine va_aldq hx hb hK hP 4 4 rfl rfl hid24 dX1_digestOfAll_106 (kR gad24 ?_)
        refine gePd (d := d24) hx hb hts hin0 hin2 hin3 hin4 hin6 hin9 hown hK hP hkd24 2 (by decide) lk80_6 rfl dX1_digestOfAll_107 ?_
        refine lv_i2l hx hb dX1_digestOfAll_110 rfl ?_
        refine lv_ladd hx hb dX1_digestOfAll_111 ?_
        refine lv_topl (fun x25 ex25 => ?_)
        have hf := bs ex25 hf
        refine lv_lstore_n (lv' := [(1, .long x25), (0, .ref (h 3)), (3, .int y19)]) hx hb dX1_digestOfAll_112 rfl hl (by decide) rfl (fun ls hl => ?_)
        refine lv_ldc2 (v := 31) hx hb hown (hts (.constantLong RX1 140 (31)) (by decide +kernel)) dX1_digestOfAll_113 ?_
        refine lv_lload_n hx hb dX1_digestOfAll_116 rfl (lv_at hl 0 rfl) ?_
        refine lv_lmul hx hb dX1_digestOfAll_117 ?_
        refine lv_aload_n hx hb dX1_digestOfAll_118 rfl (lv_at hl 1 rfl) ?_
        refine va_get (D := (dC, dI)) (ci := 1) (v := .ref (h 4)) (C := RX1) (T := TX1) (N := 10) hx hb hts hin1 hown hK hP 3 rfl rfl 0 (by decide) (hts _ lk11_1) (fun _ h9 => h9) rfl dX1_digestOfAll_119 ?_
        refine lv_iload_n hx hb dX1_digestOfAll_122 rfl (lv_at hl 2 rfl) ?_
        obtain ⟨d26, hid26, ed26, hf⟩ := rdP_b hf
        obtain ⟨ad26, gad26, lad26, pad26⟩ := hG 0 (by decide) _ (in_lt hid26)
        rw [← ed26] at pad26
        obtain ⟨kd26, hkd26⟩ := va_pl_get (X := wC t h tx g S) (f := pf) lad26
        rw [pad26] at hkd26
        refine va_aldq hx hb hK hP 4 4 rfl rfl hid26 dX1_digestOfAll_123 (kR gad26 ?_)
        refine gePd (d := d26) hx hb hts hin0 hin2 hin3 hin4 hin6 hin9 hown hK hP hkd26 3 (by decide) lk148_6 rfl dX1_digestOfAll_124 ?_
        refine lv_i2l hx hb dX1_digestOfAll_127 rfl ?_
        refine lv_ladd hx hb dX1_digestOfAll_128 ?_
        refine lv_topl (fun x27 ex27 => ?_)
        have hf := bs ex27 hf
        refine lv_lstore_n (lv' := [(1, .long x27), (0, .ref (h 3)), (3, .int y19)]) hx hb dX1_digestOfAll_129 rfl hl (by decide) rfl (fun ls hl => ?_)
        obtain ⟨x28, ex28, hf⟩ := bn hf
        refine lv_iinc (v := x28) (lv' := [(3, .int x28), (1, .long x27), (0, .ref (h 3))]) hx hb dX1_digestOfAll_130 hl (k := 2) rfl (by rw [ex28]; rfl) (by decide) rfl (fun ls hl => ?_)
        refine lv_goto (tgt := 54) hx hb dX1_digestOfAll_133 (by decide) ?_
        exact ih54 x27 x28 _ _ _ _ _ _ (lp_l hf hq54) hP hD hG hS (lv_sub hl [2, 1, 0] rfl)
  exact L54 FU x4 0 _ _ _ _ _ _ ez54 hP hD hG hS (lv_sub hl [2, 1, 0] rfl)

def f_X1_addByte_3 (S : CS) (p0 : Int32) : Option CS :=
  (if 200 ≤ (S.1 1308 0) then (some S) else (Option.bind (wrI S 8 200 (S.1 1308 0) p0) (fun S1 => Option.bind (some (siI S1 1308 (fun _ => (S1.1 1308 0) + 1))) (fun S2 => some S2))))
def rmX1_addByte_3 : Room := { frames := 0, cells := 0, slots := 0, locals := 0 }
abbrev RRX1_addByte_3 : Room := (headSpec wsX1_addByte rmX1_addByte_3).room
theorem in1_X1_addByte_3 : ∀ w ∈ wsX10, w ∈ wsX1_addByte := by decide +kernel
set_option maxHeartbeats 4000000 in
set_option maxRecDepth 100000 in
theorem c_X1_addByte_3 (l : Launch) (dC : Nat → ClassId) (dI : Nat → Nat → Nat) (t : Nat → ClassId) (ts aK aV : Nat → Nat) (A : Nat → Prop) (h : Nat → Nat) (tx : Nat) (sz : Nat) (hA0 : ∀ q : Nat, sz ≤ q → A q) (S : CS) (p0 : Int32) (S' : CS) (hf : f_X1_addByte_3 S p0 = some S') : cCv l yX1_addByte wsX1_addByte rmX1_addByte_3 dC dI t ts aK aV A h tx tx sz [.ref (h 3), .int p0] S S' := by
  refine Met.ofW (cc := cX1_addByte) (maxL := 2) (ret := none) (by decide) rfl ?_
  intro p e s m args below meth c s₁ B hml hv
  obtain ⟨hargs, hsz, hE, hC, hK⟩ := hv
  have hx := B.exec
  have hb := B.bytes
  have hr := B.returns
  have hts := atoms_spec (ws := wsX1_addByte) B.pre
  have hown : s.vm.findClass RX1 = some m.cls := findClass_of_methodNamed B.named
  have hlocks := B.notSynchronized
  have hsz : s.heap.size = sz := hsz
  subst hsz
  have hin1 := in1_X1_addByte_3
  have lk27_1 : Cond.fieldLink RX1 27 (TX1 4).1 (TX1 4).2.1 (TX1 4).2.2.1 ∈ wsX1_addByte := by decide +kernel
  have lk49_1 : Cond.fieldLink RX1 49 (TX1 8).1 (TX1 8).2.1 (TX1 8).2.2.1 ∈ wsX1_addByte := by decide +kernel
  have hA : ∀ q : Nat, s.heap.size ≤ q → A q := hA0
  obtain ⟨g, LP, pf, hP, hD, hG⟩ := hC
  have hS : va_S A s.heap s.heap [] := va_S.rf
  have hl := lv_entry ([.ref (h 3), .int p0]) (n := 2) (Nat.le_of_ble_eq_true rfl)
  rw [show entryFrame m args 2 = entryFrame m ([.ref (h 3), .int p0] : List Value).toArray 2 from by rw [hargs], lg_entry_eq]
  generalize (lg_sl ([.ref (h 3), .int p0]) ++ List.replicate (2 - (lg_sl ([.ref (h 3), .int p0])).length) Slot.unset).toArray = ls at hl ⊢
  have hl : lv_has ls 2 [(0, .ref (h 3)), (1, .int p0)] := hl
  unfold f_X1_addByte_3 at hf
  refine lv_aload_n hx hb dX1_addByte_0 rfl (lv_at hl 0 rfl) ?_
  refine va_get (D := (dC, dI)) (ci := 1) (v := .int (S.1 1308 0)) (C := RX1) (T := TX1) (N := 10) hx hb hts hin1 hown hK hP 3 rfl rfl 8 (by decide) (hts _ lk49_1) (fun _ h9 => h9) rfl dX1_addByte_1 ?_
  refine lv_sipush (v := 200) hx hb dX1_addByte_4 (by decide) ?_
  refine lv_icmp_ge (tgt := 30) hx hb dX1_addByte_7 (by decide) (fun c3 => ?_) (fun c3 => ?_)
  · have hf := (if_pos c3).symm.trans hf
    exact rtCv hx hb hr hlocks ⟨g, LP, pf, hP, hD, hG⟩ hS hf dX1_addByte_30
  · have hf := (if_neg c3).symm.trans hf
    refine lv_aload_n hx hb dX1_addByte_10 rfl (lv_at hl 0 rfl) ?_
    refine va_get (D := (dC, dI)) (ci := 1) (v := .ref (h 8)) (C := RX1) (T := TX1) (N := 10) hx hb hts hin1 hown hK hP 3 rfl rfl 4 (by decide) (hts _ lk27_1) (fun _ h9 => h9) rfl dX1_addByte_11 ?_
    refine lv_aload_n hx hb dX1_addByte_14 rfl (lv_at hl 0 rfl) ?_
    refine va_get (D := (dC, dI)) (ci := 1) (v := .int (S.1 1308 0)) (C := RX1) (T := TX1) (N := 10) hx hb hts hin1 hown hK hP 3 rfl rfl 8 (by decide) (hts _ lk49_1) (fun _ h9 => h9) rfl dX1_addByte_15 ?_
    refine lv_iload_n hx hb dX1_addByte_18 rfl (lv_at hl 1 rfl) ?_
    obtain ⟨S1, hiS1, eS1, hf⟩ := wrI_b hf
    refine va_iast hx hb hK hP hD hS 8 0 rfl rfl hiS1 dX1_addByte_19 (fun H locs hP hD hS => ?_)
    have hP : va_P (dC, dI) vwCl (wC t h tx g S1 ++ va_pl LP pf) H := by rw [eS1]; exact hP
    have hD : va_D A (wC t h tx g S1 ++ va_pl LP pf) := by rw [eS1]; exact hD
    have hG : rlC g LP pf S1 := by rw [eS1]; exact hG
    refine lv_aload_n hx hb dX1_addByte_20 rfl (lv_at hl 0 rfl) ?_
    refine lv_dup hx hb dX1_addByte_21 rfl ?_
    refine va_get (D := (dC, dI)) (ci := 1) (v := .int (S1.1 1308 0)) (C := RX1) (T := TX1) (N := 10) hx hb hts hin1 hown hK hP 3 rfl rfl 8 (by decide) (hts _ lk49_1) (fun _ h9 => h9) rfl dX1_addByte_22 ?_
    refine lv_iconst (v := 1) hx hb dX1_addByte_25 (by decide) ?_
    refine lv_iadd hx hb dX1_addByte_26 ?_
    obtain ⟨S2, eS2, hf⟩ := bn hf
    refine va_put (D := (dC, dI)) (ci := 1) (v := .int ((S1.1 1308 0) + 1)) (ty := .int) (C := RX1) (T := TX1) (N := 10) hx hb hts hin1 tyX1 tyX1_ok nmX1 hown hK hP hD hS 3 rfl rfl 8 (by decide) (hts _ lk49_1) (fun _ h9 => h9) rfl (by decide +kernel) rfl rfl (Nat.le_of_ble_eq_true rfl) dX1_addByte_27 (fun H locs hP hD hS => ?_)
    have hP : va_P (dC, dI) vwCl (wC t h tx g S2 ++ va_pl LP pf) H := by rw [eS2]; exact hP
    have hD : va_D A (wC t h tx g S2 ++ va_pl LP pf) := by rw [eS2]; exact hD
    have hG : rlC g LP pf S2 := by rw [eS2]; exact hG
    exact rtCv hx hb hr hlocks ⟨g, LP, pf, hP, hD, hG⟩ hS hf dX1_addByte_30

def f_X1_addLoad_3 (S : CS) (p0 : Int32) : Option CS :=
  (if 5 ≤ (S.1 1309 0) then (some S) else (Option.bind (wrI S 9 5 (S.1 1309 0) p0) (fun S1 => Option.bind (some (siI S1 1309 (fun _ => (S1.1 1309 0) + 1))) (fun S2 => some S2))))
def rmX1_addLoad_3 : Room := { frames := 0, cells := 0, slots := 0, locals := 0 }
abbrev RRX1_addLoad_3 : Room := (headSpec wsX1_addLoad rmX1_addLoad_3).room
theorem in1_X1_addLoad_3 : ∀ w ∈ wsX10, w ∈ wsX1_addLoad := by decide +kernel
set_option maxHeartbeats 4000000 in
set_option maxRecDepth 100000 in
theorem c_X1_addLoad_3 (l : Launch) (dC : Nat → ClassId) (dI : Nat → Nat → Nat) (t : Nat → ClassId) (ts aK aV : Nat → Nat) (A : Nat → Prop) (h : Nat → Nat) (tx : Nat) (sz : Nat) (hA0 : ∀ q : Nat, sz ≤ q → A q) (S : CS) (p0 : Int32) (S' : CS) (hf : f_X1_addLoad_3 S p0 = some S') : cCv l yX1_addLoad wsX1_addLoad rmX1_addLoad_3 dC dI t ts aK aV A h tx tx sz [.ref (h 3), .int p0] S S' := by
  refine Met.ofW (cc := cX1_addLoad) (maxL := 2) (ret := none) (by decide) rfl ?_
  intro p e s m args below meth c s₁ B hml hv
  obtain ⟨hargs, hsz, hE, hC, hK⟩ := hv
  have hx := B.exec
  have hb := B.bytes
  have hr := B.returns
  have hts := atoms_spec (ws := wsX1_addLoad) B.pre
  have hown : s.vm.findClass RX1 = some m.cls := findClass_of_methodNamed B.named
  have hlocks := B.notSynchronized
  have hsz : s.heap.size = sz := hsz
  subst hsz
  have hin1 := in1_X1_addLoad_3
  have lk30_1 : Cond.fieldLink RX1 30 (TX1 5).1 (TX1 5).2.1 (TX1 5).2.2.1 ∈ wsX1_addLoad := by decide +kernel
  have lk53_1 : Cond.fieldLink RX1 53 (TX1 9).1 (TX1 9).2.1 (TX1 9).2.2.1 ∈ wsX1_addLoad := by decide +kernel
  have hA : ∀ q : Nat, s.heap.size ≤ q → A q := hA0
  obtain ⟨g, LP, pf, hP, hD, hG⟩ := hC
  have hS : va_S A s.heap s.heap [] := va_S.rf
  have hl := lv_entry ([.ref (h 3), .int p0]) (n := 2) (Nat.le_of_ble_eq_true rfl)
  rw [show entryFrame m args 2 = entryFrame m ([.ref (h 3), .int p0] : List Value).toArray 2 from by rw [hargs], lg_entry_eq]
  generalize (lg_sl ([.ref (h 3), .int p0]) ++ List.replicate (2 - (lg_sl ([.ref (h 3), .int p0])).length) Slot.unset).toArray = ls at hl ⊢
  have hl : lv_has ls 2 [(0, .ref (h 3)), (1, .int p0)] := hl
  unfold f_X1_addLoad_3 at hf
  refine lv_aload_n hx hb dX1_addLoad_0 rfl (lv_at hl 0 rfl) ?_
  refine va_get (D := (dC, dI)) (ci := 1) (v := .int (S.1 1309 0)) (C := RX1) (T := TX1) (N := 10) hx hb hts hin1 hown hK hP 3 rfl rfl 9 (by decide) (hts _ lk53_1) (fun _ h9 => h9) rfl dX1_addLoad_1 ?_
  refine lv_iconst (v := 5) hx hb dX1_addLoad_4 (by decide) ?_
  refine lv_icmp_ge (tgt := 28) hx hb dX1_addLoad_5 (by decide) (fun c3 => ?_) (fun c3 => ?_)
  · have hf := (if_pos c3).symm.trans hf
    exact rtCv hx hb hr hlocks ⟨g, LP, pf, hP, hD, hG⟩ hS hf dX1_addLoad_28
  · have hf := (if_neg c3).symm.trans hf
    refine lv_aload_n hx hb dX1_addLoad_8 rfl (lv_at hl 0 rfl) ?_
    refine va_get (D := (dC, dI)) (ci := 1) (v := .ref (h 9)) (C := RX1) (T := TX1) (N := 10) hx hb hts hin1 hown hK hP 3 rfl rfl 5 (by decide) (hts _ lk30_1) (fun _ h9 => h9) rfl dX1_addLoad_9 ?_
    refine lv_aload_n hx hb dX1_addLoad_12 rfl (lv_at hl 0 rfl) ?_
    refine va_get (D := (dC, dI)) (ci := 1) (v := .int (S.1 1309 0)) (C := RX1) (T := TX1) (N := 10) hx hb hts hin1 hown hK hP 3 rfl rfl 9 (by decide) (hts _ lk53_1) (fun _ h9 => h9) rfl dX1_addLoad_13 ?_
    refine lv_iload_n hx hb dX1_addLoad_16 rfl (lv_at hl 1 rfl) ?_
    obtain ⟨S1, hiS1, eS1, hf⟩ := wrI_b hf
    refine va_iast hx hb hK hP hD hS 9 0 rfl rfl hiS1 dX1_addLoad_17 (fun H locs hP hD hS => ?_)
    have hP : va_P (dC, dI) vwCl (wC t h tx g S1 ++ va_pl LP pf) H := by rw [eS1]; exact hP
    have hD : va_D A (wC t h tx g S1 ++ va_pl LP pf) := by rw [eS1]; exact hD
    have hG : rlC g LP pf S1 := by rw [eS1]; exact hG
    refine lv_aload_n hx hb dX1_addLoad_18 rfl (lv_at hl 0 rfl) ?_
    refine lv_dup hx hb dX1_addLoad_19 rfl ?_
    refine va_get (D := (dC, dI)) (ci := 1) (v := .int (S1.1 1309 0)) (C := RX1) (T := TX1) (N := 10) hx hb hts hin1 hown hK hP 3 rfl rfl 9 (by decide) (hts _ lk53_1) (fun _ h9 => h9) rfl dX1_addLoad_20 ?_
    refine lv_iconst (v := 1) hx hb dX1_addLoad_23 (by decide) ?_
    refine lv_iadd hx hb dX1_addLoad_24 ?_
    obtain ⟨S2, eS2, hf⟩ := bn hf
    refine va_put (D := (dC, dI)) (ci := 1) (v := .int ((S1.1 1309 0) + 1)) (ty := .int) (C := RX1) (T := TX1) (N := 10) hx hb hts hin1 tyX1 tyX1_ok nmX1 hown hK hP hD hS 3 rfl rfl 9 (by decide) (hts _ lk53_1) (fun _ h9 => h9) rfl (by decide +kernel) rfl rfl (Nat.le_of_ble_eq_true rfl) dX1_addLoad_25 (fun H locs hP hD hS => ?_)
    have hP : va_P (dC, dI) vwCl (wC t h tx g S2 ++ va_pl LP pf) H := by rw [eS2]; exact hP
    have hD : va_D A (wC t h tx g S2 ++ va_pl LP pf) := by rw [eS2]; exact hD
    have hG : rlC g LP pf S2 := by rw [eS2]; exact hG
    exact rtCv hx hb hr hlocks ⟨g, LP, pf, hP, hD, hG⟩ hS hf dX1_addLoad_28

def f_X1_forgetDay_24 (S : CS)  : Option CS :=
  Option.bind (some (siI S 3406 (fun _ => 0))) (fun S1 => Option.bind (some (siI S1 3407 (fun _ => 0))) (fun S2 => Option.bind (some (siI S2 26 (va_cpy (ssI 2) (S2.1 26) 0 0 4))) (fun S3 => some S3)))
def rmX1_forgetDay_24 : Room := { frames := 1, cells := 0, slots := 0, locals := 60 }
abbrev RRX1_forgetDay_24 : Room := (headSpec wsX1_forgetDay rmX1_forgetDay_24).room
theorem in1_X1_forgetDay_24 : ∀ w ∈ wsX10, w ∈ wsX1_forgetDay := by decide +kernel
set_option maxHeartbeats 4000000 in
set_option maxRecDepth 100000 in
theorem c_X1_forgetDay_24 (l : Launch) (dC : Nat → ClassId) (dI : Nat → Nat → Nat) (t : Nat → ClassId) (ts aK aV : Nat → Nat) (A : Nat → Prop) (h : Nat → Nat) (tx : Nat) (sz : Nat) (hA0 : ∀ q : Nat, sz ≤ q → A q) (S : CS)  (S' : CS) (hf : f_X1_forgetDay_24 S = some S') : cCv l yX1_forgetDay wsX1_forgetDay rmX1_forgetDay_24 dC dI t ts aK aV A h tx tx sz [.ref (h 24)] S S' := by
  refine Met.ofW (cc := cX1_forgetDay) (maxL := 1) (ret := none) (by decide) rfl ?_
  intro p e s m args below meth c s₁ B hml hv
  obtain ⟨hargs, hsz, hE, hC, hK⟩ := hv
  have hx := B.exec
  have hb := B.bytes
  have hr := B.returns
  have hts := atoms_spec (ws := wsX1_forgetDay) B.pre
  have hown : s.vm.findClass RX1 = some m.cls := findClass_of_methodNamed B.named
  have hlocks := B.notSynchronized
  have hsz : s.heap.size = sz := hsz
  subst hsz
  have hin1 := in1_X1_forgetDay_24
  have lk17_1 : Cond.fieldLink RX1 17 (TX1 1).1 (TX1 1).2.1 (TX1 1).2.2.1 ∈ wsX1_forgetDay := by decide +kernel
  have lk56_1 : Cond.fieldLink RX1 56 (TX1 6).1 (TX1 6).2.1 (TX1 6).2.2.1 ∈ wsX1_forgetDay := by decide +kernel
  have lk59_1 : Cond.fieldLink RX1 59 (TX1 7).1 (TX1 7).2.1 (TX1 7).2.2.1 ∈ wsX1_forgetDay := by decide +kernel
  have hA : ∀ q : Nat, s.heap.size ≤ q → A q := hA0
  obtain ⟨g, LP, pf, hP, hD, hG⟩ := hC
  have hS : va_S A s.heap s.heap [] := va_S.rf
  have hl := lv_entry ([.ref (h 24)]) (n := 1) (Nat.le_of_ble_eq_true rfl)
  rw [show entryFrame m args 1 = entryFrame m ([.ref (h 24)] : List Value).toArray 1 from by rw [hargs], lg_entry_eq]
  generalize (lg_sl ([.ref (h 24)]) ++ List.replicate (1 - (lg_sl ([.ref (h 24)])).length) Slot.unset).toArray = ls at hl ⊢
  have hl : lv_has ls 1 [(0, .ref (h 24))] := hl
  unfold f_X1_forgetDay_24 at hf
  refine lv_aload_n hx hb dX1_forgetDay_0 rfl (lv_at hl 0 rfl) ?_
  refine lv_iconst (v := 0) hx hb dX1_forgetDay_1 (by decide) ?_
  obtain ⟨S1, eS1, hf⟩ := bn hf
  refine va_put (D := (dC, dI)) (ci := 1) (v := .int 0) (ty := .int) (C := RX1) (T := TX1) (N := 10) hx hb hts hin1 tyX1 tyX1_ok nmX1 hown hK hP hD hS 24 rfl rfl 6 (by decide) (hts _ lk56_1) (fun _ h9 => h9) rfl (by decide +kernel) rfl rfl (Nat.le_of_ble_eq_true rfl) dX1_forgetDay_2 (fun H locs hP hD hS => ?_)
  have hP : va_P (dC, dI) vwCl (wC t h tx g S1 ++ va_pl LP pf) H := by rw [eS1]; exact hP
  have hD : va_D A (wC t h tx g S1 ++ va_pl LP pf) := by rw [eS1]; exact hD
  have hG : rlC g LP pf S1 := by rw [eS1]; exact hG
  refine lv_aload_n hx hb dX1_forgetDay_5 rfl (lv_at hl 0 rfl) ?_
  refine lv_iconst (v := 0) hx hb dX1_forgetDay_6 (by decide) ?_
  obtain ⟨S2, eS2, hf⟩ := bn hf
  refine va_put (D := (dC, dI)) (ci := 1) (v := .int 0) (ty := .int) (C := RX1) (T := TX1) (N := 10) hx hb hts hin1 tyX1 tyX1_ok nmX1 hown hK hP hD hS 24 rfl rfl 7 (by decide) (hts _ lk59_1) (fun _ h9 => h9) rfl (by decide +kernel) rfl rfl (Nat.le_of_ble_eq_true rfl) dX1_forgetDay_7 (fun H locs hP hD hS => ?_)
  have hP : va_P (dC, dI) vwCl (wC t h tx g S2 ++ va_pl LP pf) H := by rw [eS2]; exact hP
  have hD : va_D A (wC t h tx g S2 ++ va_pl LP pf) := by rw [eS2]; exact hD
  have hG : rlC g LP pf S2 := by rw [eS2]; exact hG
  refine va_getsN hx hb hE.2.2.2.1.1 hS hown (va_Nw.use rfl (hE.1.2.1 ("OnlyTwo$Camp", 36, "OnlyTwo", "AT_FIRST", "[I", "OnlyTwo") (by decide +kernel))) (fun _ h9 => h9) dX1_forgetDay_10 ?_
  refine lv_iconst (v := 0) hx hb dX1_forgetDay_13 (by decide) ?_
  refine lv_aload_n hx hb dX1_forgetDay_14 rfl (lv_at hl 0 rfl) ?_
  refine va_get (D := (dC, dI)) (ci := 1) (v := .ref (h 26)) (C := RX1) (T := TX1) (N := 10) hx hb hts hin1 hown hK hP 24 rfl rfl 1 (by decide) (hts _ lk17_1) (fun _ h9 => h9) rfl dX1_forgetDay_15 ?_
  refine lv_iconst (v := 0) hx hb dX1_forgetDay_18 (by decide) ?_
  refine lv_iconst (v := 4) hx hb dX1_forgetDay_19 (by decide) ?_
  obtain ⟨S3, eS3, hf⟩ := bn hf
  refine cpSt hx hb (by rw [hml]; exact hl.1.symm) hown (hts (.methodLink RX1 39 arraycopyName) (by decide +kernel)) (hts (.native arraycopyName) (by decide +kernel)) (hts (.static arraycopyName) (by decide +kernel)) (hts (.initialized "java/lang/System") (by decide +kernel)) hK hP hD hS hE.2.2.2.1.2 26 0 rfl rfl (by decide) (by decide) (by decide) (by decide) (by decide) (Nat.le_of_ble_eq_true rfl) (by decide +kernel) dX1_forgetDay_20 (fun H locs hP hD hS => ?_)
  have hP : va_P (dC, dI) vwCl (wC t h tx g S3 ++ va_pl LP pf) H := by rw [eS3]; exact hP
  have hD : va_D A (wC t h tx g S3 ++ va_pl LP pf) := by rw [eS3]; exact hD
  have hG : rlC g LP pf S3 := by rw [eS3]; exact hG
  exact rtCv hx hb hr hlocks ⟨g, LP, pf, hP, hD, hG⟩ hS hf dX1_forgetDay_23

def f_X1_addGo_24 (S : CS) (p0 : Int32) (p1 : Int32) : Option CS :=
  (if 20 ≤ (S.1 3407 0) then (some S) else (Option.bind (wrI S 27 20 (S.1 3407 0) p0) (fun S1 => Option.bind (wrI S1 28 20 (S1.1 3407 0) p1) (fun S2 => Option.bind (some (siI S2 3407 (fun _ => (S2.1 3407 0) + 1))) (fun S3 => some S3)))))
def rmX1_addGo_24 : Room := { frames := 0, cells := 0, slots := 0, locals := 0 }
abbrev RRX1_addGo_24 : Room := (headSpec wsX1_addGo rmX1_addGo_24).room
theorem in1_X1_addGo_24 : ∀ w ∈ wsX10, w ∈ wsX1_addGo := by decide +kernel
set_option maxHeartbeats 4000000 in
set_option maxRecDepth 100000 in
theorem c_X1_addGo_24 (l : Launch) (dC : Nat → ClassId) (dI : Nat → Nat → Nat) (t : Nat → ClassId) (ts aK aV : Nat → Nat) (A : Nat → Prop) (h : Nat → Nat) (tx : Nat) (sz : Nat) (hA0 : ∀ q : Nat, sz ≤ q → A q) (S : CS) (p0 : Int32) (p1 : Int32) (S' : CS) (hf : f_X1_addGo_24 S p0 p1 = some S') : cCv l yX1_addGo wsX1_addGo rmX1_addGo_24 dC dI t ts aK aV A h tx tx sz [.ref (h 24), .int p0, .int p1] S S' := by
  refine Met.ofW (cc := cX1_addGo) (maxL := 3) (ret := none) (by decide) rfl ?_
  intro p e s m args below meth c s₁ B hml hv
  obtain ⟨hargs, hsz, hE, hC, hK⟩ := hv
  have hx := B.exec
  have hb := B.bytes
  have hr := B.returns
  have hts := atoms_spec (ws := wsX1_addGo) B.pre
  have hown : s.vm.findClass RX1 = some m.cls := findClass_of_methodNamed B.named
  have hlocks := B.notSynchronized
  have hsz : s.heap.size = sz := hsz
  subst hsz
  have hin1 := in1_X1_addGo_24
  have lk21_1 : Cond.fieldLink RX1 21 (TX1 2).1 (TX1 2).2.1 (TX1 2).2.2.1 ∈ wsX1_addGo := by decide +kernel
  have lk24_1 : Cond.fieldLink RX1 24 (TX1 3).1 (TX1 3).2.1 (TX1 3).2.2.1 ∈ wsX1_addGo := by decide +kernel
  have lk59_1 : Cond.fieldLink RX1 59 (TX1 7).1 (TX1 7).2.1 (TX1 7).2.2.1 ∈ wsX1_addGo := by decide +kernel
  have hA : ∀ q : Nat, s.heap.size ≤ q → A q := hA0
  obtain ⟨g, LP, pf, hP, hD, hG⟩ := hC
  have hS : va_S A s.heap s.heap [] := va_S.rf
  have hl := lv_entry ([.ref (h 24), .int p0, .int p1]) (n := 3) (Nat.le_of_ble_eq_true rfl)
  rw [show entryFrame m args 3 = entryFrame m ([.ref (h 24), .int p0, .int p1] : List Value).toArray 3 from by rw [hargs], lg_entry_eq]
  generalize (lg_sl ([.ref (h 24), .int p0, .int p1]) ++ List.replicate (3 - (lg_sl ([.ref (h 24), .int p0, .int p1])).length) Slot.unset).toArray = ls at hl ⊢
  have hl : lv_has ls 3 [(0, .ref (h 24)), (1, .int p0), (2, .int p1)] := hl
  unfold f_X1_addGo_24 at hf
  refine lv_aload_n hx hb dX1_addGo_0 rfl (lv_at hl 0 rfl) ?_
  refine va_get (D := (dC, dI)) (ci := 1) (v := .int (S.1 3407 0)) (C := RX1) (T := TX1) (N := 10) hx hb hts hin1 hown hK hP 24 rfl rfl 7 (by decide) (hts _ lk59_1) (fun _ h9 => h9) rfl dX1_addGo_1 ?_
  refine lv_bipush (v := 20) hx hb dX1_addGo_4 (by decide) ?_
  refine lv_icmp_ge (tgt := 39) hx hb dX1_addGo_6 (by decide) (fun c4 => ?_) (fun c4 => ?_)
  · have hf := (if_pos c4).symm.trans hf
    exact rtCv hx hb hr hlocks ⟨g, LP, pf, hP, hD, hG⟩ hS hf dX1_addGo_39
  · have hf := (if_neg c4).symm.trans hf
    refine lv_aload_n hx hb dX1_addGo_9 rfl (lv_at hl 0 rfl) ?_
    refine va_get (D := (dC, dI)) (ci := 1) (v := .ref (h 27)) (C := RX1) (T := TX1) (N := 10) hx hb hts hin1 hown hK hP 24 rfl rfl 2 (by decide) (hts _ lk21_1) (fun _ h9 => h9) rfl dX1_addGo_10 ?_
    refine lv_aload_n hx hb dX1_addGo_13 rfl (lv_at hl 0 rfl) ?_
    refine va_get (D := (dC, dI)) (ci := 1) (v := .int (S.1 3407 0)) (C := RX1) (T := TX1) (N := 10) hx hb hts hin1 hown hK hP 24 rfl rfl 7 (by decide) (hts _ lk59_1) (fun _ h9 => h9) rfl dX1_addGo_14 ?_
    refine lv_iload_n hx hb dX1_addGo_17 rfl (lv_at hl 1 rfl) ?_
    obtain ⟨S1, hiS1, eS1, hf⟩ := wrI_b hf
    refine va_iast hx hb hK hP hD hS 27 0 rfl rfl hiS1 dX1_addGo_18 (fun H locs hP hD hS => ?_)
    have hP : va_P (dC, dI) vwCl (wC t h tx g S1 ++ va_pl LP pf) H := by rw [eS1]; exact hP
    have hD : va_D A (wC t h tx g S1 ++ va_pl LP pf) := by rw [eS1]; exact hD
    have hG : rlC g LP pf S1 := by rw [eS1]; exact hG
    refine lv_aload_n hx hb dX1_addGo_19 rfl (lv_at hl 0 rfl) ?_
    refine va_get (D := (dC, dI)) (ci := 1) (v := .ref (h 28)) (C := RX1) (T := TX1) (N := 10) hx hb hts hin1 hown hK hP 24 rfl rfl 3 (by decide) (hts _ lk24_1) (fun _ h9 => h9) rfl dX1_addGo_20 ?_
    refine lv_aload_n hx hb dX1_addGo_23 rfl (lv_at hl 0 rfl) ?_
    refine va_get (D := (dC, dI)) (ci := 1) (v := .int (S1.1 3407 0)) (C := RX1) (T := TX1) (N := 10) hx hb hts hin1 hown hK hP 24 rfl rfl 7 (by decide) (hts _ lk59_1) (fun _ h9 => h9) rfl dX1_addGo_24 ?_
    refine lv_iload_n hx hb dX1_addGo_27 rfl (lv_at hl 2 rfl) ?_
    obtain ⟨S2, hiS2, eS2, hf⟩ := wrI_b hf
    refine va_iast hx hb hK hP hD hS 28 0 rfl rfl hiS2 dX1_addGo_28 (fun H locs hP hD hS => ?_)
    have hP : va_P (dC, dI) vwCl (wC t h tx g S2 ++ va_pl LP pf) H := by rw [eS2]; exact hP
    have hD : va_D A (wC t h tx g S2 ++ va_pl LP pf) := by rw [eS2]; exact hD
    have hG : rlC g LP pf S2 := by rw [eS2]; exact hG
    refine lv_aload_n hx hb dX1_addGo_29 rfl (lv_at hl 0 rfl) ?_
    refine lv_dup hx hb dX1_addGo_30 rfl ?_
    refine va_get (D := (dC, dI)) (ci := 1) (v := .int (S2.1 3407 0)) (C := RX1) (T := TX1) (N := 10) hx hb hts hin1 hown hK hP 24 rfl rfl 7 (by decide) (hts _ lk59_1) (fun _ h9 => h9) rfl dX1_addGo_31 ?_
    refine lv_iconst (v := 1) hx hb dX1_addGo_34 (by decide) ?_
    refine lv_iadd hx hb dX1_addGo_35 ?_
    obtain ⟨S3, eS3, hf⟩ := bn hf
    refine va_put (D := (dC, dI)) (ci := 1) (v := .int ((S2.1 3407 0) + 1)) (ty := .int) (C := RX1) (T := TX1) (N := 10) hx hb hts hin1 tyX1 tyX1_ok nmX1 hown hK hP hD hS 24 rfl rfl 7 (by decide) (hts _ lk59_1) (fun _ h9 => h9) rfl (by decide +kernel) rfl rfl (Nat.le_of_ble_eq_true rfl) dX1_addGo_36 (fun H locs hP hD hS => ?_)
    have hP : va_P (dC, dI) vwCl (wC t h tx g S3 ++ va_pl LP pf) H := by rw [eS3]; exact hP
    have hD : va_D A (wC t h tx g S3 ++ va_pl LP pf) := by rw [eS3]; exact hD
    have hG : rlC g LP pf S3 := by rw [eS3]; exact hG
    exact rtCv hx hb hr hlocks ⟨g, LP, pf, hP, hD, hG⟩ hS hf dX1_addGo_39

def k_X1_takeDay_3_24_2 (S1 : CS) : Option CS :=
  Option.bind (some (siI S1 5 (va_cpy (S1.1 26) (S1.1 5) 0 0 4))) (fun S2 => Option.bind (some (siI S2 6 (va_cpy (S2.1 27) (S2.1 6) 0 0 20))) (fun S3 => Option.bind (some (siI S3 7 (va_cpy (S3.1 28) (S3.1 7) 0 0 20))) (fun S4 => Option.bind (some (siI S4 1306 (fun _ => S4.1 3406 0))) (fun S5 => Option.bind (some (siI S5 1307 (fun _ => S5.1 3407 0))) (fun S6 => some S6)))))
def b_X1_takeDay_3_24_2 (y7 : Int32) (S8 : CS) : Option ((Int32 × CS) ⊕ CS) :=
  (if 6 ≤ y7 then (some (Sum.inr S8)) else (Option.bind (rdP (S8.2.2 3) y7) (fun d9 => Option.bind (wrP S8 0 y7 d9) (fun S10 => Option.bind (some (y7 + 1)) (fun x12 => some (Sum.inl (x12, S10)))))))
def f_X1_takeDay_3_24 (S : CS)  : Option CS :=
  Option.bind (lp (fun s => b_X1_takeDay_3_24_2 s.1 s.2) FU (0, S)) (fun s => k_X1_takeDay_3_24_2 s)
def rmX1_takeDay_3_24 : Room := { frames := 1, cells := 0, slots := 0, locals := 60 }
abbrev RRX1_takeDay_3_24 : Room := (headSpec wsX1_takeDay rmX1_takeDay_3_24).room
theorem in1_X1_takeDay_3_24 : ∀ w ∈ wsX10, w ∈ wsX1_takeDay := by decide +kernel
set_option maxHeartbeats 4000000 in
set_option maxRecDepth 100000 in
theorem c_X1_takeDay_3_24 (l : Launch) (dC : Nat → ClassId) (dI : Nat → Nat → Nat) (t : Nat → ClassId) (ts aK aV : Nat → Nat) (A : Nat → Prop) (h : Nat → Nat) (tx : Nat) (sz : Nat) (hA0 : ∀ q : Nat, sz ≤ q → A q) (S : CS)  (S' : CS) (hf : f_X1_takeDay_3_24 S = some S') : cCv l yX1_takeDay wsX1_takeDay rmX1_takeDay_3_24 dC dI t ts aK aV A h tx tx sz [.ref (h 3), .ref (h 24)] S S' := by
  refine Met.ofW (cc := cX1_takeDay) (maxL := 3) (ret := none) (by decide) rfl ?_
  intro p e s m args below meth c s₁ B hml hv
  obtain ⟨hargs, hsz, hE, hC, hK⟩ := hv
  have hx := B.exec
  have hb := B.bytes
  have hr := B.returns
  have hts := atoms_spec (ws := wsX1_takeDay) B.pre
  have hown : s.vm.findClass RX1 = some m.cls := findClass_of_methodNamed B.named
  have hlocks := B.notSynchronized
  have hsz : s.heap.size = sz := hsz
  subst hsz
  have hin1 := in1_X1_takeDay_3_24
  have lk11_1 : Cond.fieldLink RX1 11 (TX1 0).1 (TX1 0).2.1 (TX1 0).2.2.1 ∈ wsX1_takeDay := by decide +kernel
  have lk17_1 : Cond.fieldLink RX1 17 (TX1 1).1 (TX1 1).2.1 (TX1 1).2.2.1 ∈ wsX1_takeDay := by decide +kernel
  have lk21_1 : Cond.fieldLink RX1 21 (TX1 2).1 (TX1 2).2.1 (TX1 2).2.2.1 ∈ wsX1_takeDay := by decide +kernel
  have lk24_1 : Cond.fieldLink RX1 24 (TX1 3).1 (TX1 3).2.1 (TX1 3).2.2.1 ∈ wsX1_takeDay := by decide +kernel
  have lk56_1 : Cond.fieldLink RX1 56 (TX1 6).1 (TX1 6).2.1 (TX1 6).2.2.1 ∈ wsX1_takeDay := by decide +kernel
  have lk59_1 : Cond.fieldLink RX1 59 (TX1 7).1 (TX1 7).2.1 (TX1 7).2.2.1 ∈ wsX1_takeDay := by decide +kernel
  have hA : ∀ q : Nat, s.heap.size ≤ q → A q := hA0
  obtain ⟨g, LP, pf, hP, hD, hG⟩ := hC
  have hS : va_S A s.heap s.heap [] := va_S.rf
  have hl := lv_entry ([.ref (h 3), .ref (h 24)]) (n := 3) (Nat.le_of_ble_eq_true rfl)
  rw [show entryFrame m args 3 = entryFrame m ([.ref (h 3), .ref (h 24)] : List Value).toArray 3 from by rw [hargs], lg_entry_eq]
  generalize (lg_sl ([.ref (h 3), .ref (h 24)]) ++ List.replicate (3 - (lg_sl ([.ref (h 3), .ref (h 24)])).length) Slot.unset).toArray = ls at hl ⊢
  have hl : lv_has ls 3 [(0, .ref (h 3)), (1, .ref (h 24))] := hl
  unfold f_X1_takeDay_3_24 at hf
  refine lv_iconst (v := 0) hx hb dX1_takeDay_0 (by decide) ?_
  refine lv_istore_n (lv' := [(2, .int 0), (0, .ref (h 3)), (1, .ref (h 24))]) hx hb dX1_takeDay_1 rfl hl (by decide) rfl (fun ls hl => ?_)
  have K2 : ∀ (S1 : CS) (g : Nat → Nat → Option Nat) (LP : List Nat) (pf : Nat → va_E) (H : Heap) (locs : List Loc) (ls : Array Slot), k_X1_takeDay_3_24_2 S1 = some S' → va_P (dC, dI) vwCl (wC t h tx g S1 ++ va_pl LP pf) H → va_D A (wC t h tx g S1 ++ va_pl LP pf) → rlC g LP pf S1 → va_S A s.heap H locs → lv_has ls 3 [(0, .ref (h 3)), (1, .ref (h 24))] → W p l e RRX1_takeDay_3_24 s m args below meth c H locs 0 0 (MQ below (qcCv dC dI t A h tx S') args s 0 0 A) (F0 m 26 ls []) := by
    intro S1 g LP pf H locs ls hf hP hD hG hS hl
    unfold k_X1_takeDay_3_24_2 at hf
    refine lv_aload_n hx hb dX1_takeDay_26 rfl (lv_at hl 1 rfl) ?_
    refine va_get (D := (dC, dI)) (ci := 1) (v := .ref (h 26)) (C := RX1) (T := TX1) (N := 10) hx hb hts hin1 hown hK hP 24 rfl rfl 1 (by decide) (hts _ lk17_1) (fun _ h9 => h9) rfl dX1_takeDay_27 ?_
    refine lv_iconst (v := 0) hx hb dX1_takeDay_30 (by decide) ?_
    refine lv_aload_n hx hb dX1_takeDay_31 rfl (lv_at hl 0 rfl) ?_
    refine va_get (D := (dC, dI)) (ci := 1) (v := .ref (h 5)) (C := RX1) (T := TX1) (N := 10) hx hb hts hin1 hown hK hP 3 rfl rfl 1 (by decide) (hts _ lk17_1) (fun _ h9 => h9) rfl dX1_takeDay_32 ?_
    refine lv_iconst (v := 0) hx hb dX1_takeDay_35 (by decide) ?_
    refine lv_iconst (v := 4) hx hb dX1_takeDay_36 (by decide) ?_
    obtain ⟨S2, eS2, hf⟩ := bn hf
    refine va_copyi hx hb (by rw [hml]; exact hl.1.symm) hown (hts (.methodLink RX1 39 arraycopyName) (by decide +kernel)) (hts (.native arraycopyName) (by decide +kernel)) (hts (.static arraycopyName) (by decide +kernel)) (hts (.initialized "java/lang/System") (by decide +kernel)) hK hP hD hS 26 5 0 0 rfl rfl rfl rfl rfl (by decide) (by decide) (by decide) (by decide) (by decide) (fun _ _ => rfl) (Nat.le_of_ble_eq_true rfl) (by decide +kernel) dX1_takeDay_37 (fun H locs hP hD hS => ?_)
    have hP : va_P (dC, dI) vwCl (wC t h tx g S2 ++ va_pl LP pf) H := by rw [eS2]; exact hP
    have hD : va_D A (wC t h tx g S2 ++ va_pl LP pf) := by rw [eS2]; exact hD
    have hG : rlC g LP pf S2 := by rw [eS2]; exact hG
    refine lv_aload_n hx hb dX1_takeDay_40 rfl (lv_at hl 1 rfl) ?_
    refine va_get (D := (dC, dI)) (ci := 1) (v := .ref (h 27)) (C := RX1) (T := TX1) (N := 10) hx hb hts hin1 hown hK hP 24 rfl rfl 2 (by decide) (hts _ lk21_1) (fun _ h9 => h9) rfl dX1_takeDay_41 ?_
    refine lv_iconst (v := 0) hx hb dX1_takeDay_44 (by decide) ?_
    refine lv_aload_n hx hb dX1_takeDay_45 rfl (lv_at hl 0 rfl) ?_
    refine va_get (D := (dC, dI)) (ci := 1) (v := .ref (h 6)) (C := RX1) (T := TX1) (N := 10) hx hb hts hin1 hown hK hP 3 rfl rfl 2 (by decide) (hts _ lk21_1) (fun _ h9 => h9) rfl dX1_takeDay_46 ?_
    refine lv_iconst (v := 0) hx hb dX1_takeDay_49 (by decide) ?_
    refine lv_bipush (v := 20) hx hb dX1_takeDay_50 (by decide) ?_
    obtain ⟨S3, eS3, hf⟩ := bn hf
    refine va_copyi hx hb (by rw [hml]; exact hl.1.symm) hown (hts (.methodLink RX1 39 arraycopyName) (by decide +kernel)) (hts (.native arraycopyName) (by decide +kernel)) (hts (.static arraycopyName) (by decide +kernel)) (hts (.initialized "java/lang/System") (by decide +kernel)) hK hP hD hS 27 6 0 0 rfl rfl rfl rfl rfl (by decide) (by decide) (by decide) (by decide) (by decide) (fun _ _ => rfl) (Nat.le_of_ble_eq_true rfl) (by decide +kernel) dX1_takeDay_52 (fun H locs hP hD hS => ?_)
    have hP : va_P (dC, dI) vwCl (wC t h tx g S3 ++ va_pl LP pf) H := by rw [eS3]; exact hP
    have hD : va_D A (wC t h tx g S3 ++ va_pl LP pf) := by rw [eS3]; exact hD
    have hG : rlC g LP pf S3 := by rw [eS3]; exact hG
    refine lv_aload_n hx hb dX1_takeDay_55 rfl (lv_at hl 1 rfl) ?_
    refine va_get (D := (dC, dI)) (ci := 1) (v := .ref (h 28)) (C := RX1) (T := TX1) (N := 10) hx hb hts hin1 hown hK hP 24 rfl rfl 3 (by decide) (hts _ lk24_1) (fun _ h9 => h9) rfl dX1_takeDay_56 ?_
    refine lv_iconst (v := 0) hx hb dX1_takeDay_59 (by decide) ?_
    refine lv_aload_n hx hb dX1_takeDay_60 rfl (lv_at hl 0 rfl) ?_
    refine va_get (D := (dC, dI)) (ci := 1) (v := .ref (h 7)) (C := RX1) (T := TX1) (N := 10) hx hb hts hin1 hown hK hP 3 rfl rfl 3 (by decide) (hts _ lk24_1) (fun _ h9 => h9) rfl dX1_takeDay_61 ?_
    refine lv_iconst (v := 0) hx hb dX1_takeDay_64 (by decide) ?_
    refine lv_bipush (v := 20) hx hb dX1_takeDay_65 (by decide) ?_
    obtain ⟨S4, eS4, hf⟩ := bn hf
    refine va_copyi hx hb (by rw [hml]; exact hl.1.symm) hown (hts (.methodLink RX1 39 arraycopyName) (by decide +kernel)) (hts (.native arraycopyName) (by decide +kernel)) (hts (.static arraycopyName) (by decide +kernel)) (hts (.initialized "java/lang/System") (by decide +kernel)) hK hP hD hS 28 7 0 0 rfl rfl rfl rfl rfl (by decide) (by decide) (by decide) (by decide) (by decide) (fun _ _ => rfl) (Nat.le_of_ble_eq_true rfl) (by decide +kernel) dX1_takeDay_67 (fun H locs hP hD hS => ?_)
    have hP : va_P (dC, dI) vwCl (wC t h tx g S4 ++ va_pl LP pf) H := by rw [eS4]; exact hP
    have hD : va_D A (wC t h tx g S4 ++ va_pl LP pf) := by rw [eS4]; exact hD
    have hG : rlC g LP pf S4 := by rw [eS4]; exact hG
    refine lv_aload_n hx hb dX1_takeDay_70 rfl (lv_at hl 0 rfl) ?_
    refine lv_aload_n hx hb dX1_takeDay_71 rfl (lv_at hl 1 rfl) ?_
    refine va_get (D := (dC, dI)) (ci := 1) (v := .int (S4.1 3406 0)) (C := RX1) (T := TX1) (N := 10) hx hb hts hin1 hown hK hP 24 rfl rfl 6 (by decide) (hts _ lk56_1) (fun _ h9 => h9) rfl dX1_takeDay_72 ?_
    obtain ⟨S5, eS5, hf⟩ := bn hf
    refine va_put (D := (dC, dI)) (ci := 1) (v := .int (S4.1 3406 0)) (ty := .int) (C := RX1) (T := TX1) (N := 10) hx hb hts hin1 tyX1 tyX1_ok nmX1 hown hK hP hD hS 3 rfl rfl 6 (by decide) (hts _ lk56_1) (fun _ h9 => h9) rfl (by decide +kernel) rfl rfl (Nat.le_of_ble_eq_true rfl) dX1_takeDay_75 (fun H locs hP hD hS => ?_)
    have hP : va_P (dC, dI) vwCl (wC t h tx g S5 ++ va_pl LP pf) H := by rw [eS5]; exact hP
    have hD : va_D A (wC t h tx g S5 ++ va_pl LP pf) := by rw [eS5]; exact hD
    have hG : rlC g LP pf S5 := by rw [eS5]; exact hG
    refine lv_aload_n hx hb dX1_takeDay_78 rfl (lv_at hl 0 rfl) ?_
    refine lv_aload_n hx hb dX1_takeDay_79 rfl (lv_at hl 1 rfl) ?_
    refine va_get (D := (dC, dI)) (ci := 1) (v := .int (S5.1 3407 0)) (C := RX1) (T := TX1) (N := 10) hx hb hts hin1 hown hK hP 24 rfl rfl 7 (by decide) (hts _ lk59_1) (fun _ h9 => h9) rfl dX1_takeDay_80 ?_
    obtain ⟨S6, eS6, hf⟩ := bn hf
    refine va_put (D := (dC, dI)) (ci := 1) (v := .int (S5.1 3407 0)) (ty := .int) (C := RX1) (T := TX1) (N := 10) hx hb hts hin1 tyX1 tyX1_ok nmX1 hown hK hP hD hS 3 rfl rfl 7 (by decide) (hts _ lk59_1) (fun _ h9 => h9) rfl (by decide +kernel) rfl rfl (Nat.le_of_ble_eq_true rfl) dX1_takeDay_83 (fun H locs hP hD hS => ?_)
    have hP : va_P (dC, dI) vwCl (wC t h tx g S6 ++ va_pl LP pf) H := by rw [eS6]; exact hP
    have hD : va_D A (wC t h tx g S6 ++ va_pl LP pf) := by rw [eS6]; exact hD
    have hG : rlC g LP pf S6 := by rw [eS6]; exact hG
    exact rtCv hx hb hr hlocks ⟨g, LP, pf, hP, hD, hG⟩ hS hf dX1_takeDay_86
  obtain ⟨z2, ez2, hz2⟩ := bd hf
  have L2 : ∀ (n : Nat) (y7 : Int32) (S8 : CS) (g : Nat → Nat → Option Nat) (LP : List Nat) (pf : Nat → va_E) (H : Heap) (locs : List Loc) (ls : Array Slot), lp (fun s => b_X1_takeDay_3_24_2 s.1 s.2) n (y7, S8) = some z2 → va_P (dC, dI) vwCl (wC t h tx g S8 ++ va_pl LP pf) H → va_D A (wC t h tx g S8 ++ va_pl LP pf) → rlC g LP pf S8 → va_S A s.heap H locs → lv_has ls 3 [(0, .ref (h 3)), (1, .ref (h 24)), (2, .int y7)] → W p l e RRX1_takeDay_3_24 s m args below meth c H locs 0 0 (MQ below (qcCv dC dI t A h tx S') args s 0 0 A) (F0 m 2 ls []) := by
    intro n
    induction n with
    | zero => intro y7 S8 g LP pf H locs ls hf; exact lp_z hf
    | succ n ih2 =>
      intro y7 S8 g LP pf H locs ls hf hP hD hG hS hl
      obtain ⟨q2, hf, hq2⟩ := lp_i hf
      have hf : b_X1_takeDay_3_24_2 y7 S8 = some q2 := hf
      unfold b_X1_takeDay_3_24_2 at hf
      refine lv_iload_n hx hb dX1_takeDay_2 rfl (lv_at hl 2 rfl) ?_
      refine lv_bipush (v := 6) hx hb dX1_takeDay_3 (by decide) ?_
      refine lv_icmp_ge (tgt := 26) hx hb dX1_takeDay_5 (by decide) (fun c13 => ?_) (fun c13 => ?_)
      · have hf := (if_pos c13).symm.trans hf
        exact K2 S8 _ _ _ _ _ _ (lp_x (k := (fun s => k_X1_takeDay_3_24_2 s)) (lp_r hf hq2) hz2) hP hD hG hS (lv_sub hl [0, 1] rfl)
      · have hf := (if_neg c13).symm.trans hf
        refine lv_aload_n hx hb dX1_takeDay_8 rfl (lv_at hl 0 rfl) ?_
        refine va_get (D := (dC, dI)) (ci := 1) (v := .ref (h 4)) (C := RX1) (T := TX1) (N := 10) hx hb hts hin1 hown hK hP 3 rfl rfl 0 (by decide) (hts _ lk11_1) (fun _ h9 => h9) rfl dX1_takeDay_9 ?_
        refine lv_iload_n hx hb dX1_takeDay_12 rfl (lv_at hl 2 rfl) ?_
        refine lv_aload_n hx hb dX1_takeDay_13 rfl (lv_at hl 1 rfl) ?_
        refine va_get (D := (dC, dI)) (ci := 1) (v := .ref (h 25)) (C := RX1) (T := TX1) (N := 10) hx hb hts hin1 hown hK hP 24 rfl rfl 0 (by decide) (hts _ lk11_1) (fun _ h9 => h9) rfl dX1_takeDay_14 ?_
        refine lv_iload_n hx hb dX1_takeDay_17 rfl (lv_at hl 2 rfl) ?_
        obtain ⟨d9, hid9, ed9, hf⟩ := rdP_b hf
        obtain ⟨ad9, gad9, lad9, pad9⟩ := hG 3 (by decide) _ (in_lt hid9)
        rw [← ed9] at pad9
        obtain ⟨kd9, hkd9⟩ := va_pl_get (X := wC t h tx g S8) (f := pf) lad9
        rw [pad9] at hkd9
        refine va_aldq hx hb hK hP 25 4 rfl rfl hid9 dX1_takeDay_18 (kR gad9 ?_)
        obtain ⟨S10, hiS10, eS10, hf⟩ := wrP_b hf
        refine asPd (d := d9) hx hb hE.1 hK hP hD hS 4 4 rfl rfl hkd9 hiS10 dX1_takeDay_19 (fun H locs hP hD hS => ?_)
        have hG := hG.set (c := 0) (i := y7.toNatClampNeg) lad9 pad9
        rw [← eS10] at hG
        obtain ⟨g11, eg11⟩ : ∃ z, z = va_up g 0 (va_up (g 0) y7.toNatClampNeg (some ad9)) := ⟨_, rfl⟩
        have hP : va_P (dC, dI) vwCl (wC t h tx g11 S10 ++ va_pl LP pf) H := by rw [eS10, eg11]; exact hP
        have hD : va_D A (wC t h tx g11 S10 ++ va_pl LP pf) := by rw [eS10, eg11]; exact hD
        rw [← eg11] at hG
        clear eg11
        generalize g11 = g at hP hD hG
        obtain ⟨x12, ex12, hf⟩ := bn hf
        refine lv_iinc (v := x12) (lv' := [(2, .int x12), (0, .ref (h 3)), (1, .ref (h 24))]) hx hb dX1_takeDay_20 hl (k := 2) rfl (by rw [ex12]; rfl) (by decide) rfl (fun ls hl => ?_)
        refine lv_goto (tgt := 2) hx hb dX1_takeDay_23 (by decide) ?_
        exact ih2 x12 S10 _ _ _ _ _ _ (lp_l hf hq2) hP hD hG hS (lv_sub hl [1, 2, 0] rfl)
  exact L2 FU 0 S _ _ _ _ _ _ ez2 hP hD hG hS (lv_sub hl [1, 2, 0] rfl)

def k_X1_takeDay_10_3_2 (S1 : CS) : Option CS :=
  Option.bind (some (siI S1 12 (va_cpy (S1.1 5) (S1.1 12) 0 0 4))) (fun S2 => Option.bind (some (siI S2 13 (va_cpy (S2.1 6) (S2.1 13) 0 0 20))) (fun S3 => Option.bind (some (siI S3 14 (va_cpy (S3.1 7) (S3.1 14) 0 0 20))) (fun S4 => Option.bind (some (siI S4 2006 (fun _ => S4.1 1306 0))) (fun S5 => Option.bind (some (siI S5 2007 (fun _ => S5.1 1307 0))) (fun S6 => some S6)))))
def b_X1_takeDay_10_3_2 (y7 : Int32) (S8 : CS) : Option ((Int32 × CS) ⊕ CS) :=
  (if 6 ≤ y7 then (some (Sum.inr S8)) else (Option.bind (rdP (S8.2.2 0) y7) (fun d9 => Option.bind (wrP S8 1 y7 d9) (fun S10 => Option.bind (some (y7 + 1)) (fun x12 => some (Sum.inl (x12, S10)))))))
def f_X1_takeDay_10_3 (S : CS)  : Option CS :=
  Option.bind (lp (fun s => b_X1_takeDay_10_3_2 s.1 s.2) FU (0, S)) (fun s => k_X1_takeDay_10_3_2 s)
def rmX1_takeDay_10_3 : Room := { frames := 1, cells := 0, slots := 0, locals := 60 }
abbrev RRX1_takeDay_10_3 : Room := (headSpec wsX1_takeDay rmX1_takeDay_10_3).room
theorem in1_X1_takeDay_10_3 : ∀ w ∈ wsX10, w ∈ wsX1_takeDay := by decide +kernel
set_option maxHeartbeats 4000000 in
set_option maxRecDepth 100000 in
theorem c_X1_takeDay_10_3 (l : Launch) (dC : Nat → ClassId) (dI : Nat → Nat → Nat) (t : Nat → ClassId) (ts aK aV : Nat → Nat) (A : Nat → Prop) (h : Nat → Nat) (tx : Nat) (sz : Nat) (hA0 : ∀ q : Nat, sz ≤ q → A q) (S : CS)  (S' : CS) (hf : f_X1_takeDay_10_3 S = some S') : cCv l yX1_takeDay wsX1_takeDay rmX1_takeDay_10_3 dC dI t ts aK aV A h tx tx sz [.ref (h 10), .ref (h 3)] S S' := by
  refine Met.ofW (cc := cX1_takeDay) (maxL := 3) (ret := none) (by decide) rfl ?_
  intro p e s m args below meth c s₁ B hml hv
  obtain ⟨hargs, hsz, hE, hC, hK⟩ := hv
  have hx := B.exec
  have hb := B.bytes
  have hr := B.returns
  have hts := atoms_spec (ws := wsX1_takeDay) B.pre
  have hown : s.vm.findClass RX1 = some m.cls := findClass_of_methodNamed B.named
  have hlocks := B.notSynchronized
  have hsz : s.heap.size = sz := hsz
  subst hsz
  have hin1 := in1_X1_takeDay_10_3
  have lk11_1 : Cond.fieldLink RX1 11 (TX1 0).1 (TX1 0).2.1 (TX1 0).2.2.1 ∈ wsX1_takeDay := by decide +kernel
  have lk17_1 : Cond.fieldLink RX1 17 (TX1 1).1 (TX1 1).2.1 (TX1 1).2.2.1 ∈ wsX1_takeDay := by decide +kernel
  have lk21_1 : Cond.fieldLink RX1 21 (TX1 2).1 (TX1 2).2.1 (TX1 2).2.2.1 ∈ wsX1_takeDay := by decide +kernel
  have lk24_1 : Cond.fieldLink RX1 24 (TX1 3).1 (TX1 3).2.1 (TX1 3).2.2.1 ∈ wsX1_takeDay := by decide +kernel
  have lk56_1 : Cond.fieldLink RX1 56 (TX1 6).1 (TX1 6).2.1 (TX1 6).2.2.1 ∈ wsX1_takeDay := by decide +kernel
  have lk59_1 : Cond.fieldLink RX1 59 (TX1 7).1 (TX1 7).2.1 (TX1 7).2.2.1 ∈ wsX1_takeDay := by decide +kernel
  have hA : ∀ q : Nat, s.heap.size ≤ q → A q := hA0
  obtain ⟨g, LP, pf, hP, hD, hG⟩ := hC
  have hS : va_S A s.heap s.heap [] := va_S.rf
  have hl := lv_entry ([.ref (h 10), .ref (h 3)]) (n := 3) (Nat.le_of_ble_eq_true rfl)
  rw [show entryFrame m args 3 = entryFrame m ([.ref (h 10), .ref (h 3)] : List Value).toArray 3 from by rw [hargs], lg_entry_eq]
  generalize (lg_sl ([.ref (h 10), .ref (h 3)]) ++ List.replicate (3 - (lg_sl ([.ref (h 10), .ref (h 3)])).length) Slot.unset).toArray = ls at hl ⊢
  have hl : lv_has ls 3 [(0, .ref (h 10)), (1, .ref (h 3))] := hl
  unfold f_X1_takeDay_10_3 at hf
  refine lv_iconst (v := 0) hx hb dX1_takeDay_0 (by decide) ?_
  refine lv_istore_n (lv' := [(2, .int 0), (0, .ref (h 10)), (1, .ref (h 3))]) hx hb dX1_takeDay_1 rfl hl (by decide) rfl (fun ls hl => ?_)
  have K2 : ∀ (S1 : CS) (g : Nat → Nat → Option Nat) (LP : List Nat) (pf : Nat → va_E) (H : Heap) (locs : List Loc) (ls : Array Slot), k_X1_takeDay_10_3_2 S1 = some S' → va_P (dC, dI) vwCl (wC t h tx g S1 ++ va_pl LP pf) H → va_D A (wC t h tx g S1 ++ va_pl LP pf) → rlC g LP pf S1 → va_S A s.heap H locs → lv_has ls 3 [(0, .ref (h 10)), (1, .ref (h 3))] → W p l e RRX1_takeDay_10_3 s m args below meth c H locs 0 0 (MQ below (qcCv dC dI t A h tx S') args s 0 0 A) (F0 m 26 ls []) := by
    intro S1 g LP pf H locs ls hf hP hD hG hS hl
    unfold k_X1_takeDay_10_3_2 at hf
    refine lv_aload_n hx hb dX1_takeDay_26 rfl (lv_at hl 1 rfl) ?_
    refine va_get (D := (dC, dI)) (ci := 1) (v := .ref (h 5)) (C := RX1) (T := TX1) (N := 10) hx hb hts hin1 hown hK hP 3 rfl rfl 1 (by decide) (hts _ lk17_1) (fun _ h9 => h9) rfl dX1_takeDay_27 ?_
    refine lv_iconst (v := 0) hx hb dX1_takeDay_30 (by decide) ?_
    refine lv_aload_n hx hb dX1_takeDay_31 rfl (lv_at hl 0 rfl) ?_
    refine va_get (D := (dC, dI)) (ci := 1) (v := .ref (h 12)) (C := RX1) (T := TX1) (N := 10) hx hb hts hin1 hown hK hP 10 rfl rfl 1 (by decide) (hts _ lk17_1) (fun _ h9 => h9) rfl dX1_takeDay_32 ?_
    refine lv_iconst (v := 0) hx hb dX1_takeDay_35 (by decide) ?_
    refine lv_iconst (v := 4) hx hb dX1_takeDay_36 (by decide) ?_
    obtain ⟨S2, eS2, hf⟩ := bn hf
    refine va_copyi hx hb (by rw [hml]; exact hl.1.symm) hown (hts (.methodLink RX1 39 arraycopyName) (by decide +kernel)) (hts (.native arraycopyName) (by decide +kernel)) (hts (.static arraycopyName) (by decide +kernel)) (hts (.initialized "java/lang/System") (by decide +kernel)) hK hP hD hS 5 12 0 0 rfl rfl rfl rfl rfl (by decide) (by decide) (by decide) (by decide) (by decide) (fun _ _ => rfl) (Nat.le_of_ble_eq_true rfl) (by decide +kernel) dX1_takeDay_37 (fun H locs hP hD hS => ?_)
    have hP : va_P (dC, dI) vwCl (wC t h tx g S2 ++ va_pl LP pf) H := by rw [eS2]; exact hP
    have hD : va_D A (wC t h tx g S2 ++ va_pl LP pf) := by rw [eS2]; exact hD
    have hG : rlC g LP pf S2 := by rw [eS2]; exact hG
    refine lv_aload_n hx hb dX1_takeDay_40 rfl (lv_at hl 1 rfl) ?_
    refine va_get (D := (dC, dI)) (ci := 1) (v := .ref (h 6)) (C := RX1) (T := TX1) (N := 10) hx hb hts hin1 hown hK hP 3 rfl rfl 2 (by decide) (hts _ lk21_1) (fun _ h9 => h9) rfl dX1_takeDay_41 ?_
    refine lv_iconst (v := 0) hx hb dX1_takeDay_44 (by decide) ?_
    refine lv_aload_n hx hb dX1_takeDay_45 rfl (lv_at hl 0 rfl) ?_
    refine va_get (D := (dC, dI)) (ci := 1) (v := .ref (h 13)) (C := RX1) (T := TX1) (N := 10) hx hb hts hin1 hown hK hP 10 rfl rfl 2 (by decide) (hts _ lk21_1) (fun _ h9 => h9) rfl dX1_takeDay_46 ?_
    refine lv_iconst (v := 0) hx hb dX1_takeDay_49 (by decide) ?_
    refine lv_bipush (v := 20) hx hb dX1_takeDay_50 (by decide) ?_
    obtain ⟨S3, eS3, hf⟩ := bn hf
    refine va_copyi hx hb (by rw [hml]; exact hl.1.symm) hown (hts (.methodLink RX1 39 arraycopyName) (by decide +kernel)) (hts (.native arraycopyName) (by decide +kernel)) (hts (.static arraycopyName) (by decide +kernel)) (hts (.initialized "java/lang/System") (by decide +kernel)) hK hP hD hS 6 13 0 0 rfl rfl rfl rfl rfl (by decide) (by decide) (by decide) (by decide) (by decide) (fun _ _ => rfl) (Nat.le_of_ble_eq_true rfl) (by decide +kernel) dX1_takeDay_52 (fun H locs hP hD hS => ?_)
    have hP : va_P (dC, dI) vwCl (wC t h tx g S3 ++ va_pl LP pf) H := by rw [eS3]; exact hP
    have hD : va_D A (wC t h tx g S3 ++ va_pl LP pf) := by rw [eS3]; exact hD
    have hG : rlC g LP pf S3 := by rw [eS3]; exact hG
    refine lv_aload_n hx hb dX1_takeDay_55 rfl (lv_at hl 1 rfl) ?_
    refine va_get (D := (dC, dI)) (ci := 1) (v := .ref (h 7)) (C := RX1) (T := TX1) (N := 10) hx hb hts hin1 hown hK hP 3 rfl rfl 3 (by decide) (hts _ lk24_1) (fun _ h9 => h9) rfl dX1_takeDay_56 ?_
    refine lv_iconst (v := 0) hx hb dX1_takeDay_59 (by decide) ?_
    refine lv_aload_n hx hb dX1_takeDay_60 rfl (lv_at hl 0 rfl) ?_
    refine va_get (D := (dC, dI)) (ci := 1) (v := .ref (h 14)) (C := RX1) (T := TX1) (N := 10) hx hb hts hin1 hown hK hP 10 rfl rfl 3 (by decide) (hts _ lk24_1) (fun _ h9 => h9) rfl dX1_takeDay_61 ?_
    refine lv_iconst (v := 0) hx hb dX1_takeDay_64 (by decide) ?_
    refine lv_bipush (v := 20) hx hb dX1_takeDay_65 (by decide) ?_
    obtain ⟨S4, eS4, hf⟩ := bn hf
    refine va_copyi hx hb (by rw [hml]; exact hl.1.symm) hown (hts (.methodLink RX1 39 arraycopyName) (by decide +kernel)) (hts (.native arraycopyName) (by decide +kernel)) (hts (.static arraycopyName) (by decide +kernel)) (hts (.initialized "java/lang/System") (by decide +kernel)) hK hP hD hS 7 14 0 0 rfl rfl rfl rfl rfl (by decide) (by decide) (by decide) (by decide) (by decide) (fun _ _ => rfl) (Nat.le_of_ble_eq_true rfl) (by decide +kernel) dX1_takeDay_67 (fun H locs hP hD hS => ?_)
    have hP : va_P (dC, dI) vwCl (wC t h tx g S4 ++ va_pl LP pf) H := by rw [eS4]; exact hP
    have hD : va_D A (wC t h tx g S4 ++ va_pl LP pf) := by rw [eS4]; exact hD
    have hG : rlC g LP pf S4 := by rw [eS4]; exact hG
    refine lv_aload_n hx hb dX1_takeDay_70 rfl (lv_at hl 0 rfl) ?_
    refine lv_aload_n hx hb dX1_takeDay_71 rfl (lv_at hl 1 rfl) ?_
    refine va_get (D := (dC, dI)) (ci := 1) (v := .int (S4.1 1306 0)) (C := RX1) (T := TX1) (N := 10) hx hb hts hin1 hown hK hP 3 rfl rfl 6 (by decide) (hts _ lk56_1) (fun _ h9 => h9) rfl dX1_takeDay_72 ?_
    obtain ⟨S5, eS5, hf⟩ := bn hf
    refine va_put (D := (dC, dI)) (ci := 1) (v := .int (S4.1 1306 0)) (ty := .int) (C := RX1) (T := TX1) (N := 10) hx hb hts hin1 tyX1 tyX1_ok nmX1 hown hK hP hD hS 10 rfl rfl 6 (by decide) (hts _ lk56_1) (fun _ h9 => h9) rfl (by decide +kernel) rfl rfl (Nat.le_of_ble_eq_true rfl) dX1_takeDay_75 (fun H locs hP hD hS => ?_)
    have hP : va_P (dC, dI) vwCl (wC t h tx g S5 ++ va_pl LP pf) H := by rw [eS5]; exact hP
    have hD : va_D A (wC t h tx g S5 ++ va_pl LP pf) := by rw [eS5]; exact hD
    have hG : rlC g LP pf S5 := by rw [eS5]; exact hG
    refine lv_aload_n hx hb dX1_takeDay_78 rfl (lv_at hl 0 rfl) ?_
    refine lv_aload_n hx hb dX1_takeDay_79 rfl (lv_at hl 1 rfl) ?_
    refine va_get (D := (dC, dI)) (ci := 1) (v := .int (S5.1 1307 0)) (C := RX1) (T := TX1) (N := 10) hx hb hts hin1 hown hK hP 3 rfl rfl 7 (by decide) (hts _ lk59_1) (fun _ h9 => h9) rfl dX1_takeDay_80 ?_
    obtain ⟨S6, eS6, hf⟩ := bn hf
    refine va_put (D := (dC, dI)) (ci := 1) (v := .int (S5.1 1307 0)) (ty := .int) (C := RX1) (T := TX1) (N := 10) hx hb hts hin1 tyX1 tyX1_ok nmX1 hown hK hP hD hS 10 rfl rfl 7 (by decide) (hts _ lk59_1) (fun _ h9 => h9) rfl (by decide +kernel) rfl rfl (Nat.le_of_ble_eq_true rfl) dX1_takeDay_83 (fun H locs hP hD hS => ?_)
    have hP : va_P (dC, dI) vwCl (wC t h tx g S6 ++ va_pl LP pf) H := by rw [eS6]; exact hP
    have hD : va_D A (wC t h tx g S6 ++ va_pl LP pf) := by rw [eS6]; exact hD
    have hG : rlC g LP pf S6 := by rw [eS6]; exact hG
    exact rtCv hx hb hr hlocks ⟨g, LP, pf, hP, hD, hG⟩ hS hf dX1_takeDay_86
  obtain ⟨z2, ez2, hz2⟩ := bd hf
  have L2 : ∀ (n : Nat) (y7 : Int32) (S8 : CS) (g : Nat → Nat → Option Nat) (LP : List Nat) (pf : Nat → va_E) (H : Heap) (locs : List Loc) (ls : Array Slot), lp (fun s => b_X1_takeDay_10_3_2 s.1 s.2) n (y7, S8) = some z2 → va_P (dC, dI) vwCl (wC t h tx g S8 ++ va_pl LP pf) H → va_D A (wC t h tx g S8 ++ va_pl LP pf) → rlC g LP pf S8 → va_S A s.heap H locs → lv_has ls 3 [(0, .ref (h 10)), (1, .ref (h 3)), (2, .int y7)] → W p l e RRX1_takeDay_10_3 s m args below meth c H locs 0 0 (MQ below (qcCv dC dI t A h tx S') args s 0 0 A) (F0 m 2 ls []) := by
    intro n
    induction n with
    | zero => intro y7 S8 g LP pf H locs ls hf; exact lp_z hf
    | succ n ih2 =>
      intro y7 S8 g LP pf H locs ls hf hP hD hG hS hl
      obtain ⟨q2, hf, hq2⟩ := lp_i hf
      have hf : b_X1_takeDay_10_3_2 y7 S8 = some q2 := hf
      unfold b_X1_takeDay_10_3_2 at hf
      refine lv_iload_n hx hb dX1_takeDay_2 rfl (lv_at hl 2 rfl) ?_
      refine lv_bipush (v := 6) hx hb dX1_takeDay_3 (by decide) ?_
      refine lv_icmp_ge (tgt := 26) hx hb dX1_takeDay_5 (by decide) (fun c13 => ?_) (fun c13 => ?_)
      · have hf := (if_pos c13).symm.trans hf
        exact K2 S8 _ _ _ _ _ _ (lp_x (k := (fun s => k_X1_takeDay_10_3_2 s)) (lp_r hf hq2) hz2) hP hD hG hS (lv_sub hl [0, 1] rfl)
      · have hf := (if_neg c13).symm.trans hf
        refine lv_aload_n hx hb dX1_takeDay_8 rfl (lv_at hl 0 rfl) ?_
        refine va_get (D := (dC, dI)) (ci := 1) (v := .ref (h 11)) (C := RX1) (T := TX1) (N := 10) hx hb hts hin1 hown hK hP 10 rfl rfl 0 (by decide) (hts _ lk11_1) (fun _ h9 => h9) rfl dX1_takeDay_9 ?_
        refine lv_iload_n hx hb dX1_takeDay_12 rfl (lv_at hl 2 rfl) ?_
        refine lv_aload_n hx hb dX1_takeDay_13 rfl (lv_at hl 1 rfl) ?_
        refine va_get (D := (dC, dI)) (ci := 1) (v := .ref (h 4)) (C := RX1) (T := TX1) (N := 10) hx hb hts hin1 hown hK hP 3 rfl rfl 0 (by decide) (hts _ lk11_1) (fun _ h9 => h9) rfl dX1_takeDay_14 ?_
        refine lv_iload_n hx hb dX1_takeDay_17 rfl (lv_at hl 2 rfl) ?_
        obtain ⟨d9, hid9, ed9, hf⟩ := rdP_b hf
        obtain ⟨ad9, gad9, lad9, pad9⟩ := hG 0 (by decide) _ (in_lt hid9)
        rw [← ed9] at pad9
        obtain ⟨kd9, hkd9⟩ := va_pl_get (X := wC t h tx g S8) (f := pf) lad9
        rw [pad9] at hkd9
        refine va_aldq hx hb hK hP 4 4 rfl rfl hid9 dX1_takeDay_18 (kR gad9 ?_)
        obtain ⟨S10, hiS10, eS10, hf⟩ := wrP_b hf
        refine asPd (d := d9) hx hb hE.1 hK hP hD hS 11 4 rfl rfl hkd9 hiS10 dX1_takeDay_19 (fun H locs hP hD hS => ?_)
        have hG := hG.set (c := 1) (i := y7.toNatClampNeg) lad9 pad9
        rw [← eS10] at hG
        obtain ⟨g11, eg11⟩ : ∃ z, z = va_up g 1 (va_up (g 1) y7.toNatClampNeg (some ad9)) := ⟨_, rfl⟩
        have hP : va_P (dC, dI) vwCl (wC t h tx g11 S10 ++ va_pl LP pf) H := by rw [eS10, eg11]; exact hP
        have hD : va_D A (wC t h tx g11 S10 ++ va_pl LP pf) := by rw [eS10, eg11]; exact hD
        rw [← eg11] at hG
        clear eg11
        generalize g11 = g at hP hD hG
        obtain ⟨x12, ex12, hf⟩ := bn hf
        refine lv_iinc (v := x12) (lv' := [(2, .int x12), (0, .ref (h 10)), (1, .ref (h 3))]) hx hb dX1_takeDay_20 hl (k := 2) rfl (by rw [ex12]; rfl) (by decide) rfl (fun ls hl => ?_)
        refine lv_goto (tgt := 2) hx hb dX1_takeDay_23 (by decide) ?_
        exact ih2 x12 S10 _ _ _ _ _ _ (lp_l hf hq2) hP hD hG hS (lv_sub hl [1, 2, 0] rfl)
  exact L2 FU 0 S _ _ _ _ _ _ ez2 hP hD hG hS (lv_sub hl [1, 2, 0] rfl)

def f_X1_copy_10_3 (S : CS)  : Option CS :=
  Option.bind (f_X1_takeDay_10_3 S) (fun S1 => Option.bind (some (siI S1 15 (va_cpy (S1.1 8) (S1.1 15) 0 0 200))) (fun S2 => Option.bind (some (siI S2 16 (va_cpy (S2.1 9) (S2.1 16) 0 0 5))) (fun S3 => Option.bind (some (siI S3 2008 (fun _ => S3.1 1308 0))) (fun S4 => Option.bind (some (siI S4 2009 (fun _ => S4.1 1309 0))) (fun S5 => some S5)))))
def rmX1_copy_10_3 : Room := { frames := 2, cells := 0, slots := 0, locals := 82 }
abbrev RRX1_copy_10_3 : Room := (headSpec wsX1_copy rmX1_copy_10_3).room
theorem in1_X1_copy_10_3 : ∀ w ∈ wsX10, w ∈ wsX1_copy := by decide +kernel
set_option maxHeartbeats 4000000 in
set_option maxRecDepth 100000 in
theorem c_X1_copy_10_3 (l : Launch) (dC : Nat → ClassId) (dI : Nat → Nat → Nat) (t : Nat → ClassId) (ts aK aV : Nat → Nat) (A : Nat → Prop) (h : Nat → Nat) (tx : Nat) (sz : Nat) (hA0 : ∀ q : Nat, sz ≤ q → A q) (S : CS)  (S' : CS) (hf : f_X1_copy_10_3 S = some S') : cCv l yX1_copy wsX1_copy rmX1_copy_10_3 dC dI t ts aK aV A h tx tx sz [.ref (h 10), .ref (h 3)] S S' := by
  refine Met.ofW (cc := cX1_copy) (maxL := 2) (ret := none) (by decide) rfl ?_
  intro p e s m args below meth c s₁ B hml hv
  obtain ⟨hargs, hsz, hE, hC, hK⟩ := hv
  have hx := B.exec
  have hb := B.bytes
  have hr := B.returns
  have hts := atoms_spec (ws := wsX1_copy) B.pre
  have hown : s.vm.findClass RX1 = some m.cls := findClass_of_methodNamed B.named
  have hlocks := B.notSynchronized
  have hsz : s.heap.size = sz := hsz
  subst hsz
  have hin1 := in1_X1_copy_10_3
  have lk27_1 : Cond.fieldLink RX1 27 (TX1 4).1 (TX1 4).2.1 (TX1 4).2.2.1 ∈ wsX1_copy := by decide +kernel
  have lk30_1 : Cond.fieldLink RX1 30 (TX1 5).1 (TX1 5).2.1 (TX1 5).2.2.1 ∈ wsX1_copy := by decide +kernel
  have lk49_1 : Cond.fieldLink RX1 49 (TX1 8).1 (TX1 8).2.1 (TX1 8).2.2.1 ∈ wsX1_copy := by decide +kernel
  have lk53_1 : Cond.fieldLink RX1 53 (TX1 9).1 (TX1 9).2.1 (TX1 9).2.2.1 ∈ wsX1_copy := by decide +kernel
  have hA : ∀ q : Nat, s.heap.size ≤ q → A q := hA0
  obtain ⟨g, LP, pf, hP, hD, hG⟩ := hC
  have hS : va_S A s.heap s.heap [] := va_S.rf
  have hl := lv_entry ([.ref (h 10), .ref (h 3)]) (n := 2) (Nat.le_of_ble_eq_true rfl)
  rw [show entryFrame m args 2 = entryFrame m ([.ref (h 10), .ref (h 3)] : List Value).toArray 2 from by rw [hargs], lg_entry_eq]
  generalize (lg_sl ([.ref (h 10), .ref (h 3)]) ++ List.replicate (2 - (lg_sl ([.ref (h 10), .ref (h 3)])).length) Slot.unset).toArray = ls at hl ⊢
  have hl : lv_has ls 2 [(0, .ref (h 10)), (1, .ref (h 3))] := hl
  unfold f_X1_copy_10_3 at hf
  refine lv_aload_n hx hb dX1_copy_0 rfl (lv_at hl 0 rfl) ?_
  refine lv_aload_n hx hb dX1_copy_1 rfl (lv_at hl 1 rfl) ?_
  obtain ⟨S1, eS1, hf⟩ := bd hf
  refine klCv (rest := []) (As := [.ref (h 3)]) ⟨hx, hb, hml, hown, hts⟩ (c_X1_takeDay_10_3 l dC dI t ts aK aV A h tx s.heap.size (fun q hq => hA q (Nat.le_trans hS.1 hq)) S S1 eS1) (cwV 1 hts gX1_copy_X1_takeDay rfl rfl rfl (by decide +kernel) ⟨Nat.le_of_ble_eq_true rfl, Nat.le_of_ble_eq_true rfl⟩) (va_recv hK hP (ci := 1) (q0 := 10) rfl rfl) rfl hl.1 rfl (Nat.le_of_ble_eq_true rfl) dX1_copy_2 ⟨Nat.zero_le _, Nat.zero_le _⟩ hE hK ⟨g, LP, pf, hP, hD, hG⟩ hS (fun H locs hC hS => ?_)
  obtain ⟨g, LP, pf, hP, hD, hG⟩ := hC
  refine lv_aload_n hx hb dX1_copy_5 rfl (lv_at hl 1 rfl) ?_
  refine va_get (D := (dC, dI)) (ci := 1) (v := .ref (h 8)) (C := RX1) (T := TX1) (N := 10) hx hb hts hin1 hown hK hP 3 rfl rfl 4 (by decide) (hts _ lk27_1) (fun _ h9 => h9) rfl dX1_copy_6 ?_
  refine lv_iconst (v := 0) hx hb dX1_copy_9 (by decide) ?_
  refine lv_aload_n hx hb dX1_copy_10 rfl (lv_at hl 0 rfl) ?_
  refine va_get (D := (dC, dI)) (ci := 1) (v := .ref (h 15)) (C := RX1) (T := TX1) (N := 10) hx hb hts hin1 hown hK hP 10 rfl rfl 4 (by decide) (hts _ lk27_1) (fun _ h9 => h9) rfl dX1_copy_11 ?_
  refine lv_iconst (v := 0) hx hb dX1_copy_14 (by decide) ?_
  refine lv_sipush (v := 200) hx hb dX1_copy_15 (by decide) ?_
  obtain ⟨S2, eS2, hf⟩ := bn hf
  refine va_copyi hx hb (by rw [hml]; exact hl.1.symm) hown (hts (.methodLink RX1 39 arraycopyName) (by decide +kernel)) (hts (.native arraycopyName) (by decide +kernel)) (hts (.static arraycopyName) (by decide +kernel)) (hts (.initialized "java/lang/System") (by decide +kernel)) hK hP hD hS 8 15 0 0 rfl rfl rfl rfl rfl (by decide) (by decide) (by decide) (by decide) (by decide) (fun _ _ => rfl) (Nat.le_of_ble_eq_true rfl) (by decide +kernel) dX1_copy_18 (fun H locs hP hD hS => ?_)
  have hP : va_P (dC, dI) vwCl (wC t h tx g S2 ++ va_pl LP pf) H := by rw [eS2]; exact hP
  have hD : va_D A (wC t h tx g S2 ++ va_pl LP pf) := by rw [eS2]; exact hD
  have hG : rlC g LP pf S2 := by rw [eS2]; exact hG
  refine lv_aload_n hx hb dX1_copy_21 rfl (lv_at hl 1 rfl) ?_
  refine va_get (D := (dC, dI)) (ci := 1) (v := .ref (h 9)) (C := RX1) (T := TX1) (N := 10) hx hb hts hin1 hown hK hP 3 rfl rfl 5 (by decide) (hts _ lk30_1) (fun _ h9 => h9) rfl dX1_copy_22 ?_
  refine lv_iconst (v := 0) hx hb dX1_copy_25 (by decide) ?_
  refine lv_aload_n hx hb dX1_copy_26 rfl (lv_at hl 0 rfl) ?_
  refine va_get (D := (dC, dI)) (ci := 1) (v := .ref (h 16)) (C := RX1) (T := TX1) (N := 10) hx hb hts hin1 hown hK hP 10 rfl rfl 5 (by decide) (hts _ lk30_1) (fun _ h9 => h9) rfl dX1_copy_27 ?_
  refine lv_iconst (v := 0) hx hb dX1_copy_30 (by decide) ?_
  refine lv_iconst (v := 5) hx hb dX1_copy_31 (by decide) ?_
  obtain ⟨S3, eS3, hf⟩ := bn hf
  refine va_copyi hx hb (by rw [hml]; exact hl.1.symm) hown (hts (.methodLink RX1 39 arraycopyName) (by decide +kernel)) (hts (.native arraycopyName) (by decide +kernel)) (hts (.static arraycopyName) (by decide +kernel)) (hts (.initialized "java/lang/System") (by decide +kernel)) hK hP hD hS 9 16 0 0 rfl rfl rfl rfl rfl (by decide) (by decide) (by decide) (by decide) (by decide) (fun _ _ => rfl) (Nat.le_of_ble_eq_true rfl) (by decide +kernel) dX1_copy_32 (fun H locs hP hD hS => ?_)
  have hP : va_P (dC, dI) vwCl (wC t h tx g S3 ++ va_pl LP pf) H := by rw [eS3]; exact hP
  have hD : va_D A (wC t h tx g S3 ++ va_pl LP pf) := by rw [eS3]; exact hD
  have hG : rlC g LP pf S3 := by rw [eS3]; exact hG
  refine lv_aload_n hx hb dX1_copy_35 rfl (lv_at hl 0 rfl) ?_
  refine lv_aload_n hx hb dX1_copy_36 rfl (lv_at hl 1 rfl) ?_
  refine va_get (D := (dC, dI)) (ci := 1) (v := .int (S3.1 1308 0)) (C := RX1) (T := TX1) (N := 10) hx hb hts hin1 hown hK hP 3 rfl rfl 8 (by decide) (hts _ lk49_1) (fun _ h9 => h9) rfl dX1_copy_37 ?_
  obtain ⟨S4, eS4, hf⟩ := bn hf
  refine va_put (D := (dC, dI)) (ci := 1) (v := .int (S3.1 1308 0)) (ty := .int) (C := RX1) (T := TX1) (N := 10) hx hb hts hin1 tyX1 tyX1_ok nmX1 hown hK hP hD hS 10 rfl rfl 8 (by decide) (hts _ lk49_1) (fun _ h9 => h9) rfl (by decide +kernel) rfl rfl (Nat.le_of_ble_eq_true rfl) dX1_copy_40 (fun H locs hP hD hS => ?_)
  have hP : va_P (dC, dI) vwCl (wC t h tx g S4 ++ va_pl LP pf) H := by rw [eS4]; exact hP
  have hD : va_D A (wC t h tx g S4 ++ va_pl LP pf) := by rw [eS4]; exact hD
  have hG : rlC g LP pf S4 := by rw [eS4]; exact hG
  refine lv_aload_n hx hb dX1_copy_43 rfl (lv_at hl 0 rfl) ?_
  refine lv_aload_n hx hb dX1_copy_44 rfl (lv_at hl 1 rfl) ?_
  refine va_get (D := (dC, dI)) (ci := 1) (v := .int (S4.1 1309 0)) (C := RX1) (T := TX1) (N := 10) hx hb hts hin1 hown hK hP 3 rfl rfl 9 (by decide) (hts _ lk53_1) (fun _ h9 => h9) rfl dX1_copy_45 ?_
  obtain ⟨S5, eS5, hf⟩ := bn hf
  refine va_put (D := (dC, dI)) (ci := 1) (v := .int (S4.1 1309 0)) (ty := .int) (C := RX1) (T := TX1) (N := 10) hx hb hts hin1 tyX1 tyX1_ok nmX1 hown hK hP hD hS 10 rfl rfl 9 (by decide) (hts _ lk53_1) (fun _ h9 => h9) rfl (by decide +kernel) rfl rfl (Nat.le_of_ble_eq_true rfl) dX1_copy_48 (fun H locs hP hD hS => ?_)
  have hP : va_P (dC, dI) vwCl (wC t h tx g S5 ++ va_pl LP pf) H := by rw [eS5]; exact hP
  have hD : va_D A (wC t h tx g S5 ++ va_pl LP pf) := by rw [eS5]; exact hD
  have hG : rlC g LP pf S5 := by rw [eS5]; exact hG
  exact rtCv hx hb hr hlocks ⟨g, LP, pf, hP, hD, hG⟩ hS hf dX1_copy_51

def k_X1_takeDay_17_3_2 (S1 : CS) : Option CS :=
  Option.bind (some (siI S1 19 (va_cpy (S1.1 5) (S1.1 19) 0 0 4))) (fun S2 => Option.bind (some (siI S2 20 (va_cpy (S2.1 6) (S2.1 20) 0 0 20))) (fun S3 => Option.bind (some (siI S3 21 (va_cpy (S3.1 7) (S3.1 21) 0 0 20))) (fun S4 => Option.bind (some (siI S4 2706 (fun _ => S4.1 1306 0))) (fun S5 => Option.bind (some (siI S5 2707 (fun _ => S5.1 1307 0))) (fun S6 => some S6)))))
def b_X1_takeDay_17_3_2 (y7 : Int32) (S8 : CS) : Option ((Int32 × CS) ⊕ CS) :=
  (if 6 ≤ y7 then (some (Sum.inr S8)) else (Option.bind (rdP (S8.2.2 0) y7) (fun d9 => Option.bind (wrP S8 2 y7 d9) (fun S10 => Option.bind (some (y7 + 1)) (fun x12 => some (Sum.inl (x12, S10)))))))
def f_X1_takeDay_17_3 (S : CS)  : Option CS :=
  Option.bind (lp (fun s => b_X1_takeDay_17_3_2 s.1 s.2) FU (0, S)) (fun s => k_X1_takeDay_17_3_2 s)
def rmX1_takeDay_17_3 : Room := { frames := 1, cells := 0, slots := 0, locals := 60 }
abbrev RRX1_takeDay_17_3 : Room := (headSpec wsX1_takeDay rmX1_takeDay_17_3).room
theorem in1_X1_takeDay_17_3 : ∀ w ∈ wsX10, w ∈ wsX1_takeDay := by decide +kernel
set_option maxHeartbeats 4000000 in
set_option maxRecDepth 100000 in
theorem c_X1_takeDay_17_3 (l : Launch) (dC : Nat → ClassId) (dI : Nat → Nat → Nat) (t : Nat → ClassId) (ts aK aV : Nat → Nat) (A : Nat → Prop) (h : Nat → Nat) (tx : Nat) (sz : Nat) (hA0 : ∀ q : Nat, sz ≤ q → A q) (S : CS)  (S' : CS) (hf : f_X1_takeDay_17_3 S = some S') : cCv l yX1_takeDay wsX1_takeDay rmX1_takeDay_17_3 dC dI t ts aK aV A h tx tx sz [.ref (h 17), .ref (h 3)] S S' := by
  refine Met.ofW (cc := cX1_takeDay) (maxL := 3) (ret := none) (by decide) rfl ?_
  intro p e s m args below meth c s₁ B hml hv
  obtain ⟨hargs, hsz, hE, hC, hK⟩ := hv
  have hx := B.exec
  have hb := B.bytes
  have hr := B.returns
  have hts := atoms_spec (ws := wsX1_takeDay) B.pre
  have hown : s.vm.findClass RX1 = some m.cls := findClass_of_methodNamed B.named
  have hlocks := B.notSynchronized
  have hsz : s.heap.size = sz := hsz
  subst hsz
  have hin1 := in1_X1_takeDay_17_3
  have lk11_1 : Cond.fieldLink RX1 11 (TX1 0).1 (TX1 0).2.1 (TX1 0).2.2.1 ∈ wsX1_takeDay := by decide +kernel
  have lk17_1 : Cond.fieldLink RX1 17 (TX1 1).1 (TX1 1).2.1 (TX1 1).2.2.1 ∈ wsX1_takeDay := by decide +kernel
  have lk21_1 : Cond.fieldLink RX1 21 (TX1 2).1 (TX1 2).2.1 (TX1 2).2.2.1 ∈ wsX1_takeDay := by decide +kernel
  have lk24_1 : Cond.fieldLink RX1 24 (TX1 3).1 (TX1 3).2.1 (TX1 3).2.2.1 ∈ wsX1_takeDay := by decide +kernel
  have lk56_1 : Cond.fieldLink RX1 56 (TX1 6).1 (TX1 6).2.1 (TX1 6).2.2.1 ∈ wsX1_takeDay := by decide +kernel
  have lk59_1 : Cond.fieldLink RX1 59 (TX1 7).1 (TX1 7).2.1 (TX1 7).2.2.1 ∈ wsX1_takeDay := by decide +kernel
  have hA : ∀ q : Nat, s.heap.size ≤ q → A q := hA0
  obtain ⟨g, LP, pf, hP, hD, hG⟩ := hC
  have hS : va_S A s.heap s.heap [] := va_S.rf
  have hl := lv_entry ([.ref (h 17), .ref (h 3)]) (n := 3) (Nat.le_of_ble_eq_true rfl)
  rw [show entryFrame m args 3 = entryFrame m ([.ref (h 17), .ref (h 3)] : List Value).toArray 3 from by rw [hargs], lg_entry_eq]
  generalize (lg_sl ([.ref (h 17), .ref (h 3)]) ++ List.replicate (3 - (lg_sl ([.ref (h 17), .ref (h 3)])).length) Slot.unset).toArray = ls at hl ⊢
  have hl : lv_has ls 3 [(0, .ref (h 17)), (1, .ref (h 3))] := hl
  unfold f_X1_takeDay_17_3 at hf
  refine lv_iconst (v := 0) hx hb dX1_takeDay_0 (by decide) ?_
  refine lv_istore_n (lv' := [(2, .int 0), (0, .ref (h 17)), (1, .ref (h 3))]) hx hb dX1_takeDay_1 rfl hl (by decide) rfl (fun ls hl => ?_)
  have K2 : ∀ (S1 : CS) (g : Nat → Nat → Option Nat) (LP : List Nat) (pf : Nat → va_E) (H : Heap) (locs : List Loc) (ls : Array Slot), k_X1_takeDay_17_3_2 S1 = some S' → va_P (dC, dI) vwCl (wC t h tx g S1 ++ va_pl LP pf) H → va_D A (wC t h tx g S1 ++ va_pl LP pf) → rlC g LP pf S1 → va_S A s.heap H locs → lv_has ls 3 [(0, .ref (h 17)), (1, .ref (h 3))] → W p l e RRX1_takeDay_17_3 s m args below meth c H locs 0 0 (MQ below (qcCv dC dI t A h tx S') args s 0 0 A) (F0 m 26 ls []) := by
    intro S1 g LP pf H locs ls hf hP hD hG hS hl
    unfold k_X1_takeDay_17_3_2 at hf
    refine lv_aload_n hx hb dX1_takeDay_26 rfl (lv_at hl 1 rfl) ?_
    refine va_get (D := (dC, dI)) (ci := 1) (v := .ref (h 5)) (C := RX1) (T := TX1) (N := 10) hx hb hts hin1 hown hK hP 3 rfl rfl 1 (by decide) (hts _ lk17_1) (fun _ h9 => h9) rfl dX1_takeDay_27 ?_
    refine lv_iconst (v := 0) hx hb dX1_takeDay_30 (by decide) ?_
    refine lv_aload_n hx hb dX1_takeDay_31 rfl (lv_at hl 0 rfl) ?_
    refine va_get (D := (dC, dI)) (ci := 1) (v := .ref (h 19)) (C := RX1) (T := TX1) (N := 10) hx hb hts hin1 hown hK hP 17 rfl rfl 1 (by decide) (hts _ lk17_1) (fun _ h9 => h9) rfl dX1_takeDay_32 ?_
    refine lv_iconst (v := 0) hx hb dX1_takeDay_35 (by decide) ?_
    refine lv_iconst (v := 4) hx hb dX1_takeDay_36 (by decide) ?_
    obtain ⟨S2, eS2, hf⟩ := bn hf
    refine va_copyi hx hb (by rw [hml]; exact hl.1.symm) hown (hts (.methodLink RX1 39 arraycopyName) (by decide +kernel)) (hts (.native arraycopyName) (by decide +kernel)) (hts (.static arraycopyName) (by decide +kernel)) (hts (.initialized "java/lang/System") (by decide +kernel)) hK hP hD hS 5 19 0 0 rfl rfl rfl rfl rfl (by decide) (by decide) (by decide) (by decide) (by decide) (fun _ _ => rfl) (Nat.le_of_ble_eq_true rfl) (by decide +kernel) dX1_takeDay_37 (fun H locs hP hD hS => ?_)
    have hP : va_P (dC, dI) vwCl (wC t h tx g S2 ++ va_pl LP pf) H := by rw [eS2]; exact hP
    have hD : va_D A (wC t h tx g S2 ++ va_pl LP pf) := by rw [eS2]; exact hD
    have hG : rlC g LP pf S2 := by rw [eS2]; exact hG
    refine lv_aload_n hx hb dX1_takeDay_40 rfl (lv_at hl 1 rfl) ?_
    refine va_get (D := (dC, dI)) (ci := 1) (v := .ref (h 6)) (C := RX1) (T := TX1) (N := 10) hx hb hts hin1 hown hK hP 3 rfl rfl 2 (by decide) (hts _ lk21_1) (fun _ h9 => h9) rfl dX1_takeDay_41 ?_
    refine lv_iconst (v := 0) hx hb dX1_takeDay_44 (by decide) ?_
    refine lv_aload_n hx hb dX1_takeDay_45 rfl (lv_at hl 0 rfl) ?_
    refine va_get (D := (dC, dI)) (ci := 1) (v := .ref (h 20)) (C := RX1) (T := TX1) (N := 10) hx hb hts hin1 hown hK hP 17 rfl rfl 2 (by decide) (hts _ lk21_1) (fun _ h9 => h9) rfl dX1_takeDay_46 ?_
    refine lv_iconst (v := 0) hx hb dX1_takeDay_49 (by decide) ?_
    refine lv_bipush (v := 20) hx hb dX1_takeDay_50 (by decide) ?_
    obtain ⟨S3, eS3, hf⟩ := bn hf
    refine va_copyi hx hb (by rw [hml]; exact hl.1.symm) hown (hts (.methodLink RX1 39 arraycopyName) (by decide +kernel)) (hts (.native arraycopyName) (by decide +kernel)) (hts (.static arraycopyName) (by decide +kernel)) (hts (.initialized "java/lang/System") (by decide +kernel)) hK hP hD hS 6 20 0 0 rfl rfl rfl rfl rfl (by decide) (by decide) (by decide) (by decide) (by decide) (fun _ _ => rfl) (Nat.le_of_ble_eq_true rfl) (by decide +kernel) dX1_takeDay_52 (fun H locs hP hD hS => ?_)
    have hP : va_P (dC, dI) vwCl (wC t h tx g S3 ++ va_pl LP pf) H := by rw [eS3]; exact hP
    have hD : va_D A (wC t h tx g S3 ++ va_pl LP pf) := by rw [eS3]; exact hD
    have hG : rlC g LP pf S3 := by rw [eS3]; exact hG
    refine lv_aload_n hx hb dX1_takeDay_55 rfl (lv_at hl 1 rfl) ?_
    refine va_get (D := (dC, dI)) (ci := 1) (v := .ref (h 7)) (C := RX1) (T := TX1) (N := 10) hx hb hts hin1 hown hK hP 3 rfl rfl 3 (by decide) (hts _ lk24_1) (fun _ h9 => h9) rfl dX1_takeDay_56 ?_
    refine lv_iconst (v := 0) hx hb dX1_takeDay_59 (by decide) ?_
    refine lv_aload_n hx hb dX1_takeDay_60 rfl (lv_at hl 0 rfl) ?_
    refine va_get (D := (dC, dI)) (ci := 1) (v := .ref (h 21)) (C := RX1) (T := TX1) (N := 10) hx hb hts hin1 hown hK hP 17 rfl rfl 3 (by decide) (hts _ lk24_1) (fun _ h9 => h9) rfl dX1_takeDay_61 ?_
    refine lv_iconst (v := 0) hx hb dX1_takeDay_64 (by decide) ?_
    refine lv_bipush (v := 20) hx hb dX1_takeDay_65 (by decide) ?_
    obtain ⟨S4, eS4, hf⟩ := bn hf
    refine va_copyi hx hb (by rw [hml]; exact hl.1.symm) hown (hts (.methodLink RX1 39 arraycopyName) (by decide +kernel)) (hts (.native arraycopyName) (by decide +kernel)) (hts (.static arraycopyName) (by decide +kernel)) (hts (.initialized "java/lang/System") (by decide +kernel)) hK hP hD hS 7 21 0 0 rfl rfl rfl rfl rfl (by decide) (by decide) (by decide) (by decide) (by decide) (fun _ _ => rfl) (Nat.le_of_ble_eq_true rfl) (by decide +kernel) dX1_takeDay_67 (fun H locs hP hD hS => ?_)
    have hP : va_P (dC, dI) vwCl (wC t h tx g S4 ++ va_pl LP pf) H := by rw [eS4]; exact hP
    have hD : va_D A (wC t h tx g S4 ++ va_pl LP pf) := by rw [eS4]; exact hD
    have hG : rlC g LP pf S4 := by rw [eS4]; exact hG
    refine lv_aload_n hx hb dX1_takeDay_70 rfl (lv_at hl 0 rfl) ?_
    refine lv_aload_n hx hb dX1_takeDay_71 rfl (lv_at hl 1 rfl) ?_
    refine va_get (D := (dC, dI)) (ci := 1) (v := .int (S4.1 1306 0)) (C := RX1) (T := TX1) (N := 10) hx hb hts hin1 hown hK hP 3 rfl rfl 6 (by decide) (hts _ lk56_1) (fun _ h9 => h9) rfl dX1_takeDay_72 ?_
    obtain ⟨S5, eS5, hf⟩ := bn hf
    refine va_put (D := (dC, dI)) (ci := 1) (v := .int (S4.1 1306 0)) (ty := .int) (C := RX1) (T := TX1) (N := 10) hx hb hts hin1 tyX1 tyX1_ok nmX1 hown hK hP hD hS 17 rfl rfl 6 (by decide) (hts _ lk56_1) (fun _ h9 => h9) rfl (by decide +kernel) rfl rfl (Nat.le_of_ble_eq_true rfl) dX1_takeDay_75 (fun H locs hP hD hS => ?_)
    have hP : va_P (dC, dI) vwCl (wC t h tx g S5 ++ va_pl LP pf) H := by rw [eS5]; exact hP
    have hD : va_D A (wC t h tx g S5 ++ va_pl LP pf) := by rw [eS5]; exact hD
    have hG : rlC g LP pf S5 := by rw [eS5]; exact hG
    refine lv_aload_n hx hb dX1_takeDay_78 rfl (lv_at hl 0 rfl) ?_
    refine lv_aload_n hx hb dX1_takeDay_79 rfl (lv_at hl 1 rfl) ?_
    refine va_get (D := (dC, dI)) (ci := 1) (v := .int (S5.1 1307 0)) (C := RX1) (T := TX1) (N := 10) hx hb hts hin1 hown hK hP 3 rfl rfl 7 (by decide) (hts _ lk59_1) (fun _ h9 => h9) rfl dX1_takeDay_80 ?_
    obtain ⟨S6, eS6, hf⟩ := bn hf
    refine va_put (D := (dC, dI)) (ci := 1) (v := .int (S5.1 1307 0)) (ty := .int) (C := RX1) (T := TX1) (N := 10) hx hb hts hin1 tyX1 tyX1_ok nmX1 hown hK hP hD hS 17 rfl rfl 7 (by decide) (hts _ lk59_1) (fun _ h9 => h9) rfl (by decide +kernel) rfl rfl (Nat.le_of_ble_eq_true rfl) dX1_takeDay_83 (fun H locs hP hD hS => ?_)
    have hP : va_P (dC, dI) vwCl (wC t h tx g S6 ++ va_pl LP pf) H := by rw [eS6]; exact hP
    have hD : va_D A (wC t h tx g S6 ++ va_pl LP pf) := by rw [eS6]; exact hD
    have hG : rlC g LP pf S6 := by rw [eS6]; exact hG
    exact rtCv hx hb hr hlocks ⟨g, LP, pf, hP, hD, hG⟩ hS hf dX1_takeDay_86
  obtain ⟨z2, ez2, hz2⟩ := bd hf
  have L2 : ∀ (n : Nat) (y7 : Int32) (S8 : CS) (g : Nat → Nat → Option Nat) (LP : List Nat) (pf : Nat → va_E) (H : Heap) (locs : List Loc) (ls : Array Slot), lp (fun s => b_X1_takeDay_17_3_2 s.1 s.2) n (y7, S8) = some z2 → va_P (dC, dI) vwCl (wC t h tx g S8 ++ va_pl LP pf) H → va_D A (wC t h tx g S8 ++ va_pl LP pf) → rlC g LP pf S8 → va_S A s.heap H locs → lv_has ls 3 [(0, .ref (h 17)), (1, .ref (h 3)), (2, .int y7)] → W p l e RRX1_takeDay_17_3 s m args below meth c H locs 0 0 (MQ below (qcCv dC dI t A h tx S') args s 0 0 A) (F0 m 2 ls []) := by
    intro n
    induction n with
    | zero => intro y7 S8 g LP pf H locs ls hf; exact lp_z hf
    | succ n ih2 =>
      intro y7 S8 g LP pf H locs ls hf hP hD hG hS hl
      obtain ⟨q2, hf, hq2⟩ := lp_i hf
      have hf : b_X1_takeDay_17_3_2 y7 S8 = some q2 := hf
      unfold b_X1_takeDay_17_3_2 at hf
      refine lv_iload_n hx hb dX1_takeDay_2 rfl (lv_at hl 2 rfl) ?_
      refine lv_bipush (v := 6) hx hb dX1_takeDay_3 (by decide) ?_
      refine lv_icmp_ge (tgt := 26) hx hb dX1_takeDay_5 (by decide) (fun c13 => ?_) (fun c13 => ?_)
      · have hf := (if_pos c13).symm.trans hf
        exact K2 S8 _ _ _ _ _ _ (lp_x (k := (fun s => k_X1_takeDay_17_3_2 s)) (lp_r hf hq2) hz2) hP hD hG hS (lv_sub hl [0, 1] rfl)
      · have hf := (if_neg c13).symm.trans hf
        refine lv_aload_n hx hb dX1_takeDay_8 rfl (lv_at hl 0 rfl) ?_
        refine va_get (D := (dC, dI)) (ci := 1) (v := .ref (h 18)) (C := RX1) (T := TX1) (N := 10) hx hb hts hin1 hown hK hP 17 rfl rfl 0 (by decide) (hts _ lk11_1) (fun _ h9 => h9) rfl dX1_takeDay_9 ?_
        refine lv_iload_n hx hb dX1_takeDay_12 rfl (lv_at hl 2 rfl) ?_
        refine lv_aload_n hx hb dX1_takeDay_13 rfl (lv_at hl 1 rfl) ?_
        refine va_get (D := (dC, dI)) (ci := 1) (v := .ref (h 4)) (C := RX1) (T := TX1) (N := 10) hx hb hts hin1 hown hK hP 3 rfl rfl 0 (by decide) (hts _ lk11_1) (fun _ h9 => h9) rfl dX1_takeDay_14 ?_
        refine lv_iload_n hx hb dX1_takeDay_17 rfl (lv_at hl 2 rfl) ?_
        obtain ⟨d9, hid9, ed9, hf⟩ := rdP_b hf
        obtain ⟨ad9, gad9, lad9, pad9⟩ := hG 0 (by decide) _ (in_lt hid9)
        rw [← ed9] at pad9
        obtain ⟨kd9, hkd9⟩ := va_pl_get (X := wC t h tx g S8) (f := pf) lad9
        rw [pad9] at hkd9
        refine va_aldq hx hb hK hP 4 4 rfl rfl hid9 dX1_takeDay_18 (kR gad9 ?_)
        obtain ⟨S10, hiS10, eS10, hf⟩ := wrP_b hf
        refine asPd (d := d9) hx hb hE.1 hK hP hD hS 18 4 rfl rfl hkd9 hiS10 dX1_takeDay_19 (fun H locs hP hD hS => ?_)
        have hG := hG.set (c := 2) (i := y7.toNatClampNeg) lad9 pad9
        rw [← eS10] at hG
        obtain ⟨g11, eg11⟩ : ∃ z, z = va_up g 2 (va_up (g 2) y7.toNatClampNeg (some ad9)) := ⟨_, rfl⟩
        have hP : va_P (dC, dI) vwCl (wC t h tx g11 S10 ++ va_pl LP pf) H := by rw [eS10, eg11]; exact hP
        have hD : va_D A (wC t h tx g11 S10 ++ va_pl LP pf) := by rw [eS10, eg11]; exact hD
        rw [← eg11] at hG
        clear eg11
        generalize g11 = g at hP hD hG
        obtain ⟨x12, ex12, hf⟩ := bn hf
        refine lv_iinc (v := x12) (lv' := [(2, .int x12), (0, .ref (h 17)), (1, .ref (h 3))]) hx hb dX1_takeDay_20 hl (k := 2) rfl (by rw [ex12]; rfl) (by decide) rfl (fun ls hl => ?_)
        refine lv_goto (tgt := 2) hx hb dX1_takeDay_23 (by decide) ?_
        exact ih2 x12 S10 _ _ _ _ _ _ (lp_l hf hq2) hP hD hG hS (lv_sub hl [1, 2, 0] rfl)
  exact L2 FU 0 S _ _ _ _ _ _ ez2 hP hD hG hS (lv_sub hl [1, 2, 0] rfl)

def f_X1_copy_17_3 (S : CS)  : Option CS :=
  Option.bind (f_X1_takeDay_17_3 S) (fun S1 => Option.bind (some (siI S1 22 (va_cpy (S1.1 8) (S1.1 22) 0 0 200))) (fun S2 => Option.bind (some (siI S2 23 (va_cpy (S2.1 9) (S2.1 23) 0 0 5))) (fun S3 => Option.bind (some (siI S3 2708 (fun _ => S3.1 1308 0))) (fun S4 => Option.bind (some (siI S4 2709 (fun _ => S4.1 1309 0))) (fun S5 => some S5)))))
def rmX1_copy_17_3 : Room := { frames := 2, cells := 0, slots := 0, locals := 82 }
abbrev RRX1_copy_17_3 : Room := (headSpec wsX1_copy rmX1_copy_17_3).room
theorem in1_X1_copy_17_3 : ∀ w ∈ wsX10, w ∈ wsX1_copy := by decide +kernel
set_option maxHeartbeats 4000000 in
set_option maxRecDepth 100000 in
theorem c_X1_copy_17_3 (l : Launch) (dC : Nat → ClassId) (dI : Nat → Nat → Nat) (t : Nat → ClassId) (ts aK aV : Nat → Nat) (A : Nat → Prop) (h : Nat → Nat) (tx : Nat) (sz : Nat) (hA0 : ∀ q : Nat, sz ≤ q → A q) (S : CS)  (S' : CS) (hf : f_X1_copy_17_3 S = some S') : cCv l yX1_copy wsX1_copy rmX1_copy_17_3 dC dI t ts aK aV A h tx tx sz [.ref (h 17), .ref (h 3)] S S' := by
  refine Met.ofW (cc := cX1_copy) (maxL := 2) (ret := none) (by decide) rfl ?_
  intro p e s m args below meth c s₁ B hml hv
  obtain ⟨hargs, hsz, hE, hC, hK⟩ := hv
  have hx := B.exec
  have hb := B.bytes
  have hr := B.returns
  have hts := atoms_spec (ws := wsX1_copy) B.pre
  have hown : s.vm.findClass RX1 = some m.cls := findClass_of_methodNamed B.named
  have hlocks := B.notSynchronized
  have hsz : s.heap.size = sz := hsz
  subst hsz
  have hin1 := in1_X1_copy_17_3
  have lk27_1 : Cond.fieldLink RX1 27 (TX1 4).1 (TX1 4).2.1 (TX1 4).2.2.1 ∈ wsX1_copy := by decide +kernel
  have lk30_1 : Cond.fieldLink RX1 30 (TX1 5).1 (TX1 5).2.1 (TX1 5).2.2.1 ∈ wsX1_copy := by decide +kernel
  have lk49_1 : Cond.fieldLink RX1 49 (TX1 8).1 (TX1 8).2.1 (TX1 8).2.2.1 ∈ wsX1_copy := by decide +kernel
  have lk53_1 : Cond.fieldLink RX1 53 (TX1 9).1 (TX1 9).2.1 (TX1 9).2.2.1 ∈ wsX1_copy := by decide +kernel
  have hA : ∀ q : Nat, s.heap.size ≤ q → A q := hA0
  obtain ⟨g, LP, pf, hP, hD, hG⟩ := hC
  have hS : va_S A s.heap s.heap [] := va_S.rf
  have hl := lv_entry ([.ref (h 17), .ref (h 3)]) (n := 2) (Nat.le_of_ble_eq_true rfl)
  rw [show entryFrame m args 2 = entryFrame m ([.ref (h 17), .ref (h 3)] : List Value).toArray 2 from by rw [hargs], lg_entry_eq]
  generalize (lg_sl ([.ref (h 17), .ref (h 3)]) ++ List.replicate (2 - (lg_sl ([.ref (h 17), .ref (h 3)])).length) Slot.unset).toArray = ls at hl ⊢
  have hl : lv_has ls 2 [(0, .ref (h 17)), (1, .ref (h 3))] := hl
  unfold f_X1_copy_17_3 at hf
  refine lv_aload_n hx hb dX1_copy_0 rfl (lv_at hl 0 rfl) ?_
  refine lv_aload_n hx hb dX1_copy_1 rfl (lv_at hl 1 rfl) ?_
  obtain ⟨S1, eS1, hf⟩ := bd hf
  refine klCv (rest := []) (As := [.ref (h 3)]) ⟨hx, hb, hml, hown, hts⟩ (c_X1_takeDay_17_3 l dC dI t ts aK aV A h tx s.heap.size (fun q hq => hA q (Nat.le_trans hS.1 hq)) S S1 eS1) (cwV 1 hts gX1_copy_X1_takeDay rfl rfl rfl (by decide +kernel) ⟨Nat.le_of_ble_eq_true rfl, Nat.le_of_ble_eq_true rfl⟩) (va_recv hK hP (ci := 1) (q0 := 17) rfl rfl) rfl hl.1 rfl (Nat.le_of_ble_eq_true rfl) dX1_copy_2 ⟨Nat.zero_le _, Nat.zero_le _⟩ hE hK ⟨g, LP, pf, hP, hD, hG⟩ hS (fun H locs hC hS => ?_)
  obtain ⟨g, LP, pf, hP, hD, hG⟩ := hC
  refine lv_aload_n hx hb dX1_copy_5 rfl (lv_at hl 1 rfl) ?_
  refine va_get (D := (dC, dI)) (ci := 1) (v := .ref (h 8)) (C := RX1) (T := TX1) (N := 10) hx hb hts hin1 hown hK hP 3 rfl rfl 4 (by decide) (hts _ lk27_1) (fun _ h9 => h9) rfl dX1_copy_6 ?_
  refine lv_iconst (v := 0) hx hb dX1_copy_9 (by decide) ?_
  refine lv_aload_n hx hb dX1_copy_10 rfl (lv_at hl 0 rfl) ?_
  refine va_get (D := (dC, dI)) (ci := 1) (v := .ref (h 22)) (C := RX1) (T := TX1) (N := 10) hx hb hts hin1 hown hK hP 17 rfl rfl 4 (by decide) (hts _ lk27_1) (fun _ h9 => h9) rfl dX1_copy_11 ?_
  refine lv_iconst (v := 0) hx hb dX1_copy_14 (by decide) ?_
  refine lv_sipush (v := 200) hx hb dX1_copy_15 (by decide) ?_
  obtain ⟨S2, eS2, hf⟩ := bn hf
  refine va_copyi hx hb (by rw [hml]; exact hl.1.symm) hown (hts (.methodLink RX1 39 arraycopyName) (by decide +kernel)) (hts (.native arraycopyName) (by decide +kernel)) (hts (.static arraycopyName) (by decide +kernel)) (hts (.initialized "java/lang/System") (by decide +kernel)) hK hP hD hS 8 22 0 0 rfl rfl rfl rfl rfl (by decide) (by decide) (by decide) (by decide) (by decide) (fun _ _ => rfl) (Nat.le_of_ble_eq_true rfl) (by decide +kernel) dX1_copy_18 (fun H locs hP hD hS => ?_)
  have hP : va_P (dC, dI) vwCl (wC t h tx g S2 ++ va_pl LP pf) H := by rw [eS2]; exact hP
  have hD : va_D A (wC t h tx g S2 ++ va_pl LP pf) := by rw [eS2]; exact hD
  have hG : rlC g LP pf S2 := by rw [eS2]; exact hG
  refine lv_aload_n hx hb dX1_copy_21 rfl (lv_at hl 1 rfl) ?_
  refine va_get (D := (dC, dI)) (ci := 1) (v := .ref (h 9)) (C := RX1) (T := TX1) (N := 10) hx hb hts hin1 hown hK hP 3 rfl rfl 5 (by decide) (hts _ lk30_1) (fun _ h9 => h9) rfl dX1_copy_22 ?_
  refine lv_iconst (v := 0) hx hb dX1_copy_25 (by decide) ?_
  refine lv_aload_n hx hb dX1_copy_26 rfl (lv_at hl 0 rfl) ?_
  refine va_get (D := (dC, dI)) (ci := 1) (v := .ref (h 23)) (C := RX1) (T := TX1) (N := 10) hx hb hts hin1 hown hK hP 17 rfl rfl 5 (by decide) (hts _ lk30_1) (fun _ h9 => h9) rfl dX1_copy_27 ?_
  refine lv_iconst (v := 0) hx hb dX1_copy_30 (by decide) ?_
  refine lv_iconst (v := 5) hx hb dX1_copy_31 (by decide) ?_
  obtain ⟨S3, eS3, hf⟩ := bn hf
  refine va_copyi hx hb (by rw [hml]; exact hl.1.symm) hown (hts (.methodLink RX1 39 arraycopyName) (by decide +kernel)) (hts (.native arraycopyName) (by decide +kernel)) (hts (.static arraycopyName) (by decide +kernel)) (hts (.initialized "java/lang/System") (by decide +kernel)) hK hP hD hS 9 23 0 0 rfl rfl rfl rfl rfl (by decide) (by decide) (by decide) (by decide) (by decide) (fun _ _ => rfl) (Nat.le_of_ble_eq_true rfl) (by decide +kernel) dX1_copy_32 (fun H locs hP hD hS => ?_)
  have hP : va_P (dC, dI) vwCl (wC t h tx g S3 ++ va_pl LP pf) H := by rw [eS3]; exact hP
  have hD : va_D A (wC t h tx g S3 ++ va_pl LP pf) := by rw [eS3]; exact hD
  have hG : rlC g LP pf S3 := by rw [eS3]; exact hG
  refine lv_aload_n hx hb dX1_copy_35 rfl (lv_at hl 0 rfl) ?_
  refine lv_aload_n hx hb dX1_copy_36 rfl (lv_at hl 1 rfl) ?_
  refine va_get (D := (dC, dI)) (ci := 1) (v := .int (S3.1 1308 0)) (C := RX1) (T := TX1) (N := 10) hx hb hts hin1 hown hK hP 3 rfl rfl 8 (by decide) (hts _ lk49_1) (fun _ h9 => h9) rfl dX1_copy_37 ?_
  obtain ⟨S4, eS4, hf⟩ := bn hf
  refine va_put (D := (dC, dI)) (ci := 1) (v := .int (S3.1 1308 0)) (ty := .int) (C := RX1) (T := TX1) (N := 10) hx hb hts hin1 tyX1 tyX1_ok nmX1 hown hK hP hD hS 17 rfl rfl 8 (by decide) (hts _ lk49_1) (fun _ h9 => h9) rfl (by decide +kernel) rfl rfl (Nat.le_of_ble_eq_true rfl) dX1_copy_40 (fun H locs hP hD hS => ?_)
  have hP : va_P (dC, dI) vwCl (wC t h tx g S4 ++ va_pl LP pf) H := by rw [eS4]; exact hP
  have hD : va_D A (wC t h tx g S4 ++ va_pl LP pf) := by rw [eS4]; exact hD
  have hG : rlC g LP pf S4 := by rw [eS4]; exact hG
  refine lv_aload_n hx hb dX1_copy_43 rfl (lv_at hl 0 rfl) ?_
  refine lv_aload_n hx hb dX1_copy_44 rfl (lv_at hl 1 rfl) ?_
  refine va_get (D := (dC, dI)) (ci := 1) (v := .int (S4.1 1309 0)) (C := RX1) (T := TX1) (N := 10) hx hb hts hin1 hown hK hP 3 rfl rfl 9 (by decide) (hts _ lk53_1) (fun _ h9 => h9) rfl dX1_copy_45 ?_
  obtain ⟨S5, eS5, hf⟩ := bn hf
  refine va_put (D := (dC, dI)) (ci := 1) (v := .int (S4.1 1309 0)) (ty := .int) (C := RX1) (T := TX1) (N := 10) hx hb hts hin1 tyX1 tyX1_ok nmX1 hown hK hP hD hS 17 rfl rfl 9 (by decide) (hts _ lk53_1) (fun _ h9 => h9) rfl (by decide +kernel) rfl rfl (Nat.le_of_ble_eq_true rfl) dX1_copy_48 (fun H locs hP hD hS => ?_)
  have hP : va_P (dC, dI) vwCl (wC t h tx g S5 ++ va_pl LP pf) H := by rw [eS5]; exact hP
  have hD : va_D A (wC t h tx g S5 ++ va_pl LP pf) := by rw [eS5]; exact hD
  have hG : rlC g LP pf S5 := by rw [eS5]; exact hG
  exact rtCv hx hb hr hlocks ⟨g, LP, pf, hP, hD, hG⟩ hS hf dX1_copy_51

def k_X1_takeDay_3_10_2 (S1 : CS) : Option CS :=
  Option.bind (some (siI S1 5 (va_cpy (S1.1 12) (S1.1 5) 0 0 4))) (fun S2 => Option.bind (some (siI S2 6 (va_cpy (S2.1 13) (S2.1 6) 0 0 20))) (fun S3 => Option.bind (some (siI S3 7 (va_cpy (S3.1 14) (S3.1 7) 0 0 20))) (fun S4 => Option.bind (some (siI S4 1306 (fun _ => S4.1 2006 0))) (fun S5 => Option.bind (some (siI S5 1307 (fun _ => S5.1 2007 0))) (fun S6 => some S6)))))
def b_X1_takeDay_3_10_2 (y7 : Int32) (S8 : CS) : Option ((Int32 × CS) ⊕ CS) :=
  (if 6 ≤ y7 then (some (Sum.inr S8)) else (Option.bind (rdP (S8.2.2 1) y7) (fun d9 => Option.bind (wrP S8 0 y7 d9) (fun S10 => Option.bind (some (y7 + 1)) (fun x12 => some (Sum.inl (x12, S10)))))))
def f_X1_takeDay_3_10 (S : CS)  : Option CS :=
  Option.bind (lp (fun s => b_X1_takeDay_3_10_2 s.1 s.2) FU (0, S)) (fun s => k_X1_takeDay_3_10_2 s)
def rmX1_takeDay_3_10 : Room := { frames := 1, cells := 0, slots := 0, locals := 60 }
abbrev RRX1_takeDay_3_10 : Room := (headSpec wsX1_takeDay rmX1_takeDay_3_10).room
theorem in1_X1_takeDay_3_10 : ∀ w ∈ wsX10, w ∈ wsX1_takeDay := by decide +kernel
set_option maxHeartbeats 4000000 in
set_option maxRecDepth 100000 in
theorem c_X1_takeDay_3_10 (l : Launch) (dC : Nat → ClassId) (dI : Nat → Nat → Nat) (t : Nat → ClassId) (ts aK aV : Nat → Nat) (A : Nat → Prop) (h : Nat → Nat) (tx : Nat) (sz : Nat) (hA0 : ∀ q : Nat, sz ≤ q → A q) (S : CS)  (S' : CS) (hf : f_X1_takeDay_3_10 S = some S') : cCv l yX1_takeDay wsX1_takeDay rmX1_takeDay_3_10 dC dI t ts aK aV A h tx tx sz [.ref (h 3), .ref (h 10)] S S' := by
  refine Met.ofW (cc := cX1_takeDay) (maxL := 3) (ret := none) (by decide) rfl ?_
  intro p e s m args below meth c s₁ B hml hv
  obtain ⟨hargs, hsz, hE, hC, hK⟩ := hv
  have hx := B.exec
  have hb := B.bytes
  have hr := B.returns
  have hts := atoms_spec (ws := wsX1_takeDay) B.pre
  have hown : s.vm.findClass RX1 = some m.cls := findClass_of_methodNamed B.named
  have hlocks := B.notSynchronized
  have hsz : s.heap.size = sz := hsz
  subst hsz
  have hin1 := in1_X1_takeDay_3_10
  have lk11_1 : Cond.fieldLink RX1 11 (TX1 0).1 (TX1 0).2.1 (TX1 0).2.2.1 ∈ wsX1_takeDay := by decide +kernel
  have lk17_1 : Cond.fieldLink RX1 17 (TX1 1).1 (TX1 1).2.1 (TX1 1).2.2.1 ∈ wsX1_takeDay := by decide +kernel
  have lk21_1 : Cond.fieldLink RX1 21 (TX1 2).1 (TX1 2).2.1 (TX1 2).2.2.1 ∈ wsX1_takeDay := by decide +kernel
  have lk24_1 : Cond.fieldLink RX1 24 (TX1 3).1 (TX1 3).2.1 (TX1 3).2.2.1 ∈ wsX1_takeDay := by decide +kernel
  have lk56_1 : Cond.fieldLink RX1 56 (TX1 6).1 (TX1 6).2.1 (TX1 6).2.2.1 ∈ wsX1_takeDay := by decide +kernel
  have lk59_1 : Cond.fieldLink RX1 59 (TX1 7).1 (TX1 7).2.1 (TX1 7).2.2.1 ∈ wsX1_takeDay := by decide +kernel
  have hA : ∀ q : Nat, s.heap.size ≤ q → A q := hA0
  obtain ⟨g, LP, pf, hP, hD, hG⟩ := hC
  have hS : va_S A s.heap s.heap [] := va_S.rf
  have hl := lv_entry ([.ref (h 3), .ref (h 10)]) (n := 3) (Nat.le_of_ble_eq_true rfl)
  rw [show entryFrame m args 3 = entryFrame m ([.ref (h 3), .ref (h 10)] : List Value).toArray 3 from by rw [hargs], lg_entry_eq]
  generalize (lg_sl ([.ref (h 3), .ref (h 10)]) ++ List.replicate (3 - (lg_sl ([.ref (h 3), .ref (h 10)])).length) Slot.unset).toArray = ls at hl ⊢
  have hl : lv_has ls 3 [(0, .ref (h 3)), (1, .ref (h 10))] := hl
  unfold f_X1_takeDay_3_10 at hf
  refine lv_iconst (v := 0) hx hb dX1_takeDay_0 (by decide) ?_
  refine lv_istore_n (lv' := [(2, .int 0), (0, .ref (h 3)), (1, .ref (h 10))]) hx hb dX1_takeDay_1 rfl hl (by decide) rfl (fun ls hl => ?_)
  have K2 : ∀ (S1 : CS) (g : Nat → Nat → Option Nat) (LP : List Nat) (pf : Nat → va_E) (H : Heap) (locs : List Loc) (ls : Array Slot), k_X1_takeDay_3_10_2 S1 = some S' → va_P (dC, dI) vwCl (wC t h tx g S1 ++ va_pl LP pf) H → va_D A (wC t h tx g S1 ++ va_pl LP pf) → rlC g LP pf S1 → va_S A s.heap H locs → lv_has ls 3 [(0, .ref (h 3)), (1, .ref (h 10))] → W p l e RRX1_takeDay_3_10 s m args below meth c H locs 0 0 (MQ below (qcCv dC dI t A h tx S') args s 0 0 A) (F0 m 26 ls []) := by
    intro S1 g LP pf H locs ls hf hP hD hG hS hl
    unfold k_X1_takeDay_3_10_2 at hf
    refine lv_aload_n hx hb dX1_takeDay_26 rfl (lv_at hl 1 rfl) ?_
    refine va_get (D := (dC, dI)) (ci := 1) (v := .ref (h 12)) (C := RX1) (T := TX1) (N := 10) hx hb hts hin1 hown hK hP 10 rfl rfl 1 (by decide) (hts _ lk17_1) (fun _ h9 => h9) rfl dX1_takeDay_27 ?_
    refine lv_iconst (v := 0) hx hb dX1_takeDay_30 (by decide) ?_
    refine lv_aload_n hx hb dX1_takeDay_31 rfl (lv_at hl 0 rfl) ?_
    refine va_get (D := (dC, dI)) (ci := 1) (v := .ref (h 5)) (C := RX1) (T := TX1) (N := 10) hx hb hts hin1 hown hK hP 3 rfl rfl 1 (by decide) (hts _ lk17_1) (fun _ h9 => h9) rfl dX1_takeDay_32 ?_
    refine lv_iconst (v := 0) hx hb dX1_takeDay_35 (by decide) ?_
    refine lv_iconst (v := 4) hx hb dX1_takeDay_36 (by decide) ?_
    obtain ⟨S2, eS2, hf⟩ := bn hf
    refine va_copyi hx hb (by rw [hml]; exact hl.1.symm) hown (hts (.methodLink RX1 39 arraycopyName) (by decide +kernel)) (hts (.native arraycopyName) (by decide +kernel)) (hts (.static arraycopyName) (by decide +kernel)) (hts (.initialized "java/lang/System") (by decide +kernel)) hK hP hD hS 12 5 0 0 rfl rfl rfl rfl rfl (by decide) (by decide) (by decide) (by decide) (by decide) (fun _ _ => rfl) (Nat.le_of_ble_eq_true rfl) (by decide +kernel) dX1_takeDay_37 (fun H locs hP hD hS => ?_)
    have hP : va_P (dC, dI) vwCl (wC t h tx g S2 ++ va_pl LP pf) H := by rw [eS2]; exact hP
    have hD : va_D A (wC t h tx g S2 ++ va_pl LP pf) := by rw [eS2]; exact hD
    have hG : rlC g LP pf S2 := by rw [eS2]; exact hG
    refine lv_aload_n hx hb dX1_takeDay_40 rfl (lv_at hl 1 rfl) ?_
    refine va_get (D := (dC, dI)) (ci := 1) (v := .ref (h 13)) (C := RX1) (T := TX1) (N := 10) hx hb hts hin1 hown hK hP 10 rfl rfl 2 (by decide) (hts _ lk21_1) (fun _ h9 => h9) rfl dX1_takeDay_41 ?_
    refine lv_iconst (v := 0) hx hb dX1_takeDay_44 (by decide) ?_
    refine lv_aload_n hx hb dX1_takeDay_45 rfl (lv_at hl 0 rfl) ?_
    refine va_get (D := (dC, dI)) (ci := 1) (v := .ref (h 6)) (C := RX1) (T := TX1) (N := 10) hx hb hts hin1 hown hK hP 3 rfl rfl 2 (by decide) (hts _ lk21_1) (fun _ h9 => h9) rfl dX1_takeDay_46 ?_
    refine lv_iconst (v := 0) hx hb dX1_takeDay_49 (by decide) ?_
    refine lv_bipush (v := 20) hx hb dX1_takeDay_50 (by decide) ?_
    obtain ⟨S3, eS3, hf⟩ := bn hf
    refine va_copyi hx hb (by rw [hml]; exact hl.1.symm) hown (hts (.methodLink RX1 39 arraycopyName) (by decide +kernel)) (hts (.native arraycopyName) (by decide +kernel)) (hts (.static arraycopyName) (by decide +kernel)) (hts (.initialized "java/lang/System") (by decide +kernel)) hK hP hD hS 13 6 0 0 rfl rfl rfl rfl rfl (by decide) (by decide) (by decide) (by decide) (by decide) (fun _ _ => rfl) (Nat.le_of_ble_eq_true rfl) (by decide +kernel) dX1_takeDay_52 (fun H locs hP hD hS => ?_)
    have hP : va_P (dC, dI) vwCl (wC t h tx g S3 ++ va_pl LP pf) H := by rw [eS3]; exact hP
    have hD : va_D A (wC t h tx g S3 ++ va_pl LP pf) := by rw [eS3]; exact hD
    have hG : rlC g LP pf S3 := by rw [eS3]; exact hG
    refine lv_aload_n hx hb dX1_takeDay_55 rfl (lv_at hl 1 rfl) ?_
    refine va_get (D := (dC, dI)) (ci := 1) (v := .ref (h 14)) (C := RX1) (T := TX1) (N := 10) hx hb hts hin1 hown hK hP 10 rfl rfl 3 (by decide) (hts _ lk24_1) (fun _ h9 => h9) rfl dX1_takeDay_56 ?_
    refine lv_iconst (v := 0) hx hb dX1_takeDay_59 (by decide) ?_
    refine lv_aload_n hx hb dX1_takeDay_60 rfl (lv_at hl 0 rfl) ?_
    refine va_get (D := (dC, dI)) (ci := 1) (v := .ref (h 7)) (C := RX1) (T := TX1) (N := 10) hx hb hts hin1 hown hK hP 3 rfl rfl 3 (by decide) (hts _ lk24_1) (fun _ h9 => h9) rfl dX1_takeDay_61 ?_
    refine lv_iconst (v := 0) hx hb dX1_takeDay_64 (by decide) ?_
    refine lv_bipush (v := 20) hx hb dX1_takeDay_65 (by decide) ?_
    obtain ⟨S4, eS4, hf⟩ := bn hf
    refine va_copyi hx hb (by rw [hml]; exact hl.1.symm) hown (hts (.methodLink RX1 39 arraycopyName) (by decide +kernel)) (hts (.native arraycopyName) (by decide +kernel)) (hts (.static arraycopyName) (by decide +kernel)) (hts (.initialized "java/lang/System") (by decide +kernel)) hK hP hD hS 14 7 0 0 rfl rfl rfl rfl rfl (by decide) (by decide) (by decide) (by decide) (by decide) (fun _ _ => rfl) (Nat.le_of_ble_eq_true rfl) (by decide +kernel) dX1_takeDay_67 (fun H locs hP hD hS => ?_)
    have hP : va_P (dC, dI) vwCl (wC t h tx g S4 ++ va_pl LP pf) H := by rw [eS4]; exact hP
    have hD : va_D A (wC t h tx g S4 ++ va_pl LP pf) := by rw [eS4]; exact hD
    have hG : rlC g LP pf S4 := by rw [eS4]; exact hG
    refine lv_aload_n hx hb dX1_takeDay_70 rfl (lv_at hl 0 rfl) ?_
    refine lv_aload_n hx hb dX1_takeDay_71 rfl (lv_at hl 1 rfl) ?_
    refine va_get (D := (dC, dI)) (ci := 1) (v := .int (S4.1 2006 0)) (C := RX1) (T := TX1) (N := 10) hx hb hts hin1 hown hK hP 10 rfl rfl 6 (by decide) (hts _ lk56_1) (fun _ h9 => h9) rfl dX1_takeDay_72 ?_
    obtain ⟨S5, eS5, hf⟩ := bn hf
    refine va_put (D := (dC, dI)) (ci := 1) (v := .int (S4.1 2006 0)) (ty := .int) (C := RX1) (T := TX1) (N := 10) hx hb hts hin1 tyX1 tyX1_ok nmX1 hown hK hP hD hS 3 rfl rfl 6 (by decide) (hts _ lk56_1) (fun _ h9 => h9) rfl (by decide +kernel) rfl rfl (Nat.le_of_ble_eq_true rfl) dX1_takeDay_75 (fun H locs hP hD hS => ?_)
    have hP : va_P (dC, dI) vwCl (wC t h tx g S5 ++ va_pl LP pf) H := by rw [eS5]; exact hP
    have hD : va_D A (wC t h tx g S5 ++ va_pl LP pf) := by rw [eS5]; exact hD
    have hG : rlC g LP pf S5 := by rw [eS5]; exact hG
    refine lv_aload_n hx hb dX1_takeDay_78 rfl (lv_at hl 0 rfl) ?_
    refine lv_aload_n hx hb dX1_takeDay_79 rfl (lv_at hl 1 rfl) ?_
    refine va_get (D := (dC, dI)) (ci := 1) (v := .int (S5.1 2007 0)) (C := RX1) (T := TX1) (N := 10) hx hb hts hin1 hown hK hP 10 rfl rfl 7 (by decide) (hts _ lk59_1) (fun _ h9 => h9) rfl dX1_takeDay_80 ?_
    obtain ⟨S6, eS6, hf⟩ := bn hf
    refine va_put (D := (dC, dI)) (ci := 1) (v := .int (S5.1 2007 0)) (ty := .int) (C := RX1) (T := TX1) (N := 10) hx hb hts hin1 tyX1 tyX1_ok nmX1 hown hK hP hD hS 3 rfl rfl 7 (by decide) (hts _ lk59_1) (fun _ h9 => h9) rfl (by decide +kernel) rfl rfl (Nat.le_of_ble_eq_true rfl) dX1_takeDay_83 (fun H locs hP hD hS => ?_)
    have hP : va_P (dC, dI) vwCl (wC t h tx g S6 ++ va_pl LP pf) H := by rw [eS6]; exact hP
    have hD : va_D A (wC t h tx g S6 ++ va_pl LP pf) := by rw [eS6]; exact hD
    have hG : rlC g LP pf S6 := by rw [eS6]; exact hG
    exact rtCv hx hb hr hlocks ⟨g, LP, pf, hP, hD, hG⟩ hS hf dX1_takeDay_86
  obtain ⟨z2, ez2, hz2⟩ := bd hf
  have L2 : ∀ (n : Nat) (y7 : Int32) (S8 : CS) (g : Nat → Nat → Option Nat) (LP : List Nat) (pf : Nat → va_E) (H : Heap) (locs : List Loc) (ls : Array Slot), lp (fun s => b_X1_takeDay_3_10_2 s.1 s.2) n (y7, S8) = some z2 → va_P (dC, dI) vwCl (wC t h tx g S8 ++ va_pl LP pf) H → va_D A (wC t h tx g S8 ++ va_pl LP pf) → rlC g LP pf S8 → va_S A s.heap H locs → lv_has ls 3 [(0, .ref (h 3)), (1, .ref (h 10)), (2, .int y7)] → W p l e RRX1_takeDay_3_10 s m args below meth c H locs 0 0 (MQ below (qcCv dC dI t A h tx S') args s 0 0 A) (F0 m 2 ls []) := by
    intro n
    induction n with
    | zero => intro y7 S8 g LP pf H locs ls hf; exact lp_z hf
    | succ n ih2 =>
      intro y7 S8 g LP pf H locs ls hf hP hD hG hS hl
      obtain ⟨q2, hf, hq2⟩ := lp_i hf
      have hf : b_X1_takeDay_3_10_2 y7 S8 = some q2 := hf
      unfold b_X1_takeDay_3_10_2 at hf
      refine lv_iload_n hx hb dX1_takeDay_2 rfl (lv_at hl 2 rfl) ?_
      refine lv_bipush (v := 6) hx hb dX1_takeDay_3 (by decide) ?_
      refine lv_icmp_ge (tgt := 26) hx hb dX1_takeDay_5 (by decide) (fun c13 => ?_) (fun c13 => ?_)
      · have hf := (if_pos c13).symm.trans hf
        exact K2 S8 _ _ _ _ _ _ (lp_x (k := (fun s => k_X1_takeDay_3_10_2 s)) (lp_r hf hq2) hz2) hP hD hG hS (lv_sub hl [0, 1] rfl)
      · have hf := (if_neg c13).symm.trans hf
        refine lv_aload_n hx hb dX1_takeDay_8 rfl (lv_at hl 0 rfl) ?_
        refine va_get (D := (dC, dI)) (ci := 1) (v := .ref (h 4)) (C := RX1) (T := TX1) (N := 10) hx hb hts hin1 hown hK hP 3 rfl rfl 0 (by decide) (hts _ lk11_1) (fun _ h9 => h9) rfl dX1_takeDay_9 ?_
        refine lv_iload_n hx hb dX1_takeDay_12 rfl (lv_at hl 2 rfl) ?_
        refine lv_aload_n hx hb dX1_takeDay_13 rfl (lv_at hl 1 rfl) ?_
        refine va_get (D := (dC, dI)) (ci := 1) (v := .ref (h 11)) (C := RX1) (T := TX1) (N := 10) hx hb hts hin1 hown hK hP 10 rfl rfl 0 (by decide) (hts _ lk11_1) (fun _ h9 => h9) rfl dX1_takeDay_14 ?_
        refine lv_iload_n hx hb dX1_takeDay_17 rfl (lv_at hl 2 rfl) ?_
        obtain ⟨d9, hid9, ed9, hf⟩ := rdP_b hf
        obtain ⟨ad9, gad9, lad9, pad9⟩ := hG 1 (by decide) _ (in_lt hid9)
        rw [← ed9] at pad9
        obtain ⟨kd9, hkd9⟩ := va_pl_get (X := wC t h tx g S8) (f := pf) lad9
        rw [pad9] at hkd9
        refine va_aldq hx hb hK hP 11 4 rfl rfl hid9 dX1_takeDay_18 (kR gad9 ?_)
        obtain ⟨S10, hiS10, eS10, hf⟩ := wrP_b hf
        refine asPd (d := d9) hx hb hE.1 hK hP hD hS 4 4 rfl rfl hkd9 hiS10 dX1_takeDay_19 (fun H locs hP hD hS => ?_)
        have hG := hG.set (c := 0) (i := y7.toNatClampNeg) lad9 pad9
        rw [← eS10] at hG
        obtain ⟨g11, eg11⟩ : ∃ z, z = va_up g 0 (va_up (g 0) y7.toNatClampNeg (some ad9)) := ⟨_, rfl⟩
        have hP : va_P (dC, dI) vwCl (wC t h tx g11 S10 ++ va_pl LP pf) H := by rw [eS10, eg11]; exact hP
        have hD : va_D A (wC t h tx g11 S10 ++ va_pl LP pf) := by rw [eS10, eg11]; exact hD
        rw [← eg11] at hG
        clear eg11
        generalize g11 = g at hP hD hG
        obtain ⟨x12, ex12, hf⟩ := bn hf
        refine lv_iinc (v := x12) (lv' := [(2, .int x12), (0, .ref (h 3)), (1, .ref (h 10))]) hx hb dX1_takeDay_20 hl (k := 2) rfl (by rw [ex12]; rfl) (by decide) rfl (fun ls hl => ?_)
        refine lv_goto (tgt := 2) hx hb dX1_takeDay_23 (by decide) ?_
        exact ih2 x12 S10 _ _ _ _ _ _ (lp_l hf hq2) hP hD hG hS (lv_sub hl [1, 2, 0] rfl)
  exact L2 FU 0 S _ _ _ _ _ _ ez2 hP hD hG hS (lv_sub hl [1, 2, 0] rfl)

def f_X1_copy_3_10 (S : CS)  : Option CS :=
  Option.bind (f_X1_takeDay_3_10 S) (fun S1 => Option.bind (some (siI S1 8 (va_cpy (S1.1 15) (S1.1 8) 0 0 200))) (fun S2 => Option.bind (some (siI S2 9 (va_cpy (S2.1 16) (S2.1 9) 0 0 5))) (fun S3 => Option.bind (some (siI S3 1308 (fun _ => S3.1 2008 0))) (fun S4 => Option.bind (some (siI S4 1309 (fun _ => S4.1 2009 0))) (fun S5 => some S5)))))
def rmX1_copy_3_10 : Room := { frames := 2, cells := 0, slots := 0, locals := 82 }
abbrev RRX1_copy_3_10 : Room := (headSpec wsX1_copy rmX1_copy_3_10).room
theorem in1_X1_copy_3_10 : ∀ w ∈ wsX10, w ∈ wsX1_copy := by decide +kernel
set_option maxHeartbeats 4000000 in
set_option maxRecDepth 100000 in
theorem c_X1_copy_3_10 (l : Launch) (dC : Nat → ClassId) (dI : Nat → Nat → Nat) (t : Nat → ClassId) (ts aK aV : Nat → Nat) (A : Nat → Prop) (h : Nat → Nat) (tx : Nat) (sz : Nat) (hA0 : ∀ q : Nat, sz ≤ q → A q) (S : CS)  (S' : CS) (hf : f_X1_copy_3_10 S = some S') : cCv l yX1_copy wsX1_copy rmX1_copy_3_10 dC dI t ts aK aV A h tx tx sz [.ref (h 3), .ref (h 10)] S S' := by
  refine Met.ofW (cc := cX1_copy) (maxL := 2) (ret := none) (by decide) rfl ?_
  intro p e s m args below meth c s₁ B hml hv
  obtain ⟨hargs, hsz, hE, hC, hK⟩ := hv
  have hx := B.exec
  have hb := B.bytes
  have hr := B.returns
  have hts := atoms_spec (ws := wsX1_copy) B.pre
  have hown : s.vm.findClass RX1 = some m.cls := findClass_of_methodNamed B.named
  have hlocks := B.notSynchronized
  have hsz : s.heap.size = sz := hsz
  subst hsz
  have hin1 := in1_X1_copy_3_10
  have lk27_1 : Cond.fieldLink RX1 27 (TX1 4).1 (TX1 4).2.1 (TX1 4).2.2.1 ∈ wsX1_copy := by decide +kernel
  have lk30_1 : Cond.fieldLink RX1 30 (TX1 5).1 (TX1 5).2.1 (TX1 5).2.2.1 ∈ wsX1_copy := by decide +kernel
  have lk49_1 : Cond.fieldLink RX1 49 (TX1 8).1 (TX1 8).2.1 (TX1 8).2.2.1 ∈ wsX1_copy := by decide +kernel
  have lk53_1 : Cond.fieldLink RX1 53 (TX1 9).1 (TX1 9).2.1 (TX1 9).2.2.1 ∈ wsX1_copy := by decide +kernel
  have hA : ∀ q : Nat, s.heap.size ≤ q → A q := hA0
  obtain ⟨g, LP, pf, hP, hD, hG⟩ := hC
  have hS : va_S A s.heap s.heap [] := va_S.rf
  have hl := lv_entry ([.ref (h 3), .ref (h 10)]) (n := 2) (Nat.le_of_ble_eq_true rfl)
  rw [show entryFrame m args 2 = entryFrame m ([.ref (h 3), .ref (h 10)] : List Value).toArray 2 from by rw [hargs], lg_entry_eq]
  generalize (lg_sl ([.ref (h 3), .ref (h 10)]) ++ List.replicate (2 - (lg_sl ([.ref (h 3), .ref (h 10)])).length) Slot.unset).toArray = ls at hl ⊢
  have hl : lv_has ls 2 [(0, .ref (h 3)), (1, .ref (h 10))] := hl
  unfold f_X1_copy_3_10 at hf
  refine lv_aload_n hx hb dX1_copy_0 rfl (lv_at hl 0 rfl) ?_
  refine lv_aload_n hx hb dX1_copy_1 rfl (lv_at hl 1 rfl) ?_
  obtain ⟨S1, eS1, hf⟩ := bd hf
  refine klCv (rest := []) (As := [.ref (h 10)]) ⟨hx, hb, hml, hown, hts⟩ (c_X1_takeDay_3_10 l dC dI t ts aK aV A h tx s.heap.size (fun q hq => hA q (Nat.le_trans hS.1 hq)) S S1 eS1) (cwV 1 hts gX1_copy_X1_takeDay rfl rfl rfl (by decide +kernel) ⟨Nat.le_of_ble_eq_true rfl, Nat.le_of_ble_eq_true rfl⟩) (va_recv hK hP (ci := 1) (q0 := 3) rfl rfl) rfl hl.1 rfl (Nat.le_of_ble_eq_true rfl) dX1_copy_2 ⟨Nat.zero_le _, Nat.zero_le _⟩ hE hK ⟨g, LP, pf, hP, hD, hG⟩ hS (fun H locs hC hS => ?_)
  obtain ⟨g, LP, pf, hP, hD, hG⟩ := hC
  refine lv_aload_n hx hb dX1_copy_5 rfl (lv_at hl 1 rfl) ?_
  refine va_get (D := (dC, dI)) (ci := 1) (v := .ref (h 15)) (C := RX1) (T := TX1) (N := 10) hx hb hts hin1 hown hK hP 10 rfl rfl 4 (by decide) (hts _ lk27_1) (fun _ h9 => h9) rfl dX1_copy_6 ?_
  refine lv_iconst (v := 0) hx hb dX1_copy_9 (by decide) ?_
  refine lv_aload_n hx hb dX1_copy_10 rfl (lv_at hl 0 rfl) ?_
  refine va_get (D := (dC, dI)) (ci := 1) (v := .ref (h 8)) (C := RX1) (T := TX1) (N := 10) hx hb hts hin1 hown hK hP 3 rfl rfl 4 (by decide) (hts _ lk27_1) (fun _ h9 => h9) rfl dX1_copy_11 ?_
  refine lv_iconst (v := 0) hx hb dX1_copy_14 (by decide) ?_
  refine lv_sipush (v := 200) hx hb dX1_copy_15 (by decide) ?_
  obtain ⟨S2, eS2, hf⟩ := bn hf
  refine va_copyi hx hb (by rw [hml]; exact hl.1.symm) hown (hts (.methodLink RX1 39 arraycopyName) (by decide +kernel)) (hts (.native arraycopyName) (by decide +kernel)) (hts (.static arraycopyName) (by decide +kernel)) (hts (.initialized "java/lang/System") (by decide +kernel)) hK hP hD hS 15 8 0 0 rfl rfl rfl rfl rfl (by decide) (by decide) (by decide) (by decide) (by decide) (fun _ _ => rfl) (Nat.le_of_ble_eq_true rfl) (by decide +kernel) dX1_copy_18 (fun H locs hP hD hS => ?_)
  have hP : va_P (dC, dI) vwCl (wC t h tx g S2 ++ va_pl LP pf) H := by rw [eS2]; exact hP
  have hD : va_D A (wC t h tx g S2 ++ va_pl LP pf) := by rw [eS2]; exact hD
  have hG : rlC g LP pf S2 := by rw [eS2]; exact hG
  refine lv_aload_n hx hb dX1_copy_21 rfl (lv_at hl 1 rfl) ?_
  refine va_get (D := (dC, dI)) (ci := 1) (v := .ref (h 16)) (C := RX1) (T := TX1) (N := 10) hx hb hts hin1 hown hK hP 10 rfl rfl 5 (by decide) (hts _ lk30_1) (fun _ h9 => h9) rfl dX1_copy_22 ?_
  refine lv_iconst (v := 0) hx hb dX1_copy_25 (by decide) ?_
  refine lv_aload_n hx hb dX1_copy_26 rfl (lv_at hl 0 rfl) ?_
  refine va_get (D := (dC, dI)) (ci := 1) (v := .ref (h 9)) (C := RX1) (T := TX1) (N := 10) hx hb hts hin1 hown hK hP 3 rfl rfl 5 (by decide) (hts _ lk30_1) (fun _ h9 => h9) rfl dX1_copy_27 ?_
  refine lv_iconst (v := 0) hx hb dX1_copy_30 (by decide) ?_
  refine lv_iconst (v := 5) hx hb dX1_copy_31 (by decide) ?_
  obtain ⟨S3, eS3, hf⟩ := bn hf
  refine va_copyi hx hb (by rw [hml]; exact hl.1.symm) hown (hts (.methodLink RX1 39 arraycopyName) (by decide +kernel)) (hts (.native arraycopyName) (by decide +kernel)) (hts (.static arraycopyName) (by decide +kernel)) (hts (.initialized "java/lang/System") (by decide +kernel)) hK hP hD hS 16 9 0 0 rfl rfl rfl rfl rfl (by decide) (by decide) (by decide) (by decide) (by decide) (fun _ _ => rfl) (Nat.le_of_ble_eq_true rfl) (by decide +kernel) dX1_copy_32 (fun H locs hP hD hS => ?_)
  have hP : va_P (dC, dI) vwCl (wC t h tx g S3 ++ va_pl LP pf) H := by rw [eS3]; exact hP
  have hD : va_D A (wC t h tx g S3 ++ va_pl LP pf) := by rw [eS3]; exact hD
  have hG : rlC g LP pf S3 := by rw [eS3]; exact hG
  refine lv_aload_n hx hb dX1_copy_35 rfl (lv_at hl 0 rfl) ?_
  refine lv_aload_n hx hb dX1_copy_36 rfl (lv_at hl 1 rfl) ?_
  refine va_get (D := (dC, dI)) (ci := 1) (v := .int (S3.1 2008 0)) (C := RX1) (T := TX1) (N := 10) hx hb hts hin1 hown hK hP 10 rfl rfl 8 (by decide) (hts _ lk49_1) (fun _ h9 => h9) rfl dX1_copy_37 ?_
  obtain ⟨S4, eS4, hf⟩ := bn hf
  refine va_put (D := (dC, dI)) (ci := 1) (v := .int (S3.1 2008 0)) (ty := .int) (C := RX1) (T := TX1) (N := 10) hx hb hts hin1 tyX1 tyX1_ok nmX1 hown hK hP hD hS 3 rfl rfl 8 (by decide) (hts _ lk49_1) (fun _ h9 => h9) rfl (by decide +kernel) rfl rfl (Nat.le_of_ble_eq_true rfl) dX1_copy_40 (fun H locs hP hD hS => ?_)
  have hP : va_P (dC, dI) vwCl (wC t h tx g S4 ++ va_pl LP pf) H := by rw [eS4]; exact hP
  have hD : va_D A (wC t h tx g S4 ++ va_pl LP pf) := by rw [eS4]; exact hD
  have hG : rlC g LP pf S4 := by rw [eS4]; exact hG
  refine lv_aload_n hx hb dX1_copy_43 rfl (lv_at hl 0 rfl) ?_
  refine lv_aload_n hx hb dX1_copy_44 rfl (lv_at hl 1 rfl) ?_
  refine va_get (D := (dC, dI)) (ci := 1) (v := .int (S4.1 2009 0)) (C := RX1) (T := TX1) (N := 10) hx hb hts hin1 hown hK hP 10 rfl rfl 9 (by decide) (hts _ lk53_1) (fun _ h9 => h9) rfl dX1_copy_45 ?_
  obtain ⟨S5, eS5, hf⟩ := bn hf
  refine va_put (D := (dC, dI)) (ci := 1) (v := .int (S4.1 2009 0)) (ty := .int) (C := RX1) (T := TX1) (N := 10) hx hb hts hin1 tyX1 tyX1_ok nmX1 hown hK hP hD hS 3 rfl rfl 9 (by decide) (hts _ lk53_1) (fun _ h9 => h9) rfl (by decide +kernel) rfl rfl (Nat.le_of_ble_eq_true rfl) dX1_copy_48 (fun H locs hP hD hS => ?_)
  have hP : va_P (dC, dI) vwCl (wC t h tx g S5 ++ va_pl LP pf) H := by rw [eS5]; exact hP
  have hD : va_D A (wC t h tx g S5 ++ va_pl LP pf) := by rw [eS5]; exact hD
  have hG : rlC g LP pf S5 := by rw [eS5]; exact hG
  exact rtCv hx hb hr hlocks ⟨g, LP, pf, hP, hD, hG⟩ hS hf dX1_copy_51

def k_X1_takeDay_3_17_2 (S1 : CS) : Option CS :=
  Option.bind (some (siI S1 5 (va_cpy (S1.1 19) (S1.1 5) 0 0 4))) (fun S2 => Option.bind (some (siI S2 6 (va_cpy (S2.1 20) (S2.1 6) 0 0 20))) (fun S3 => Option.bind (some (siI S3 7 (va_cpy (S3.1 21) (S3.1 7) 0 0 20))) (fun S4 => Option.bind (some (siI S4 1306 (fun _ => S4.1 2706 0))) (fun S5 => Option.bind (some (siI S5 1307 (fun _ => S5.1 2707 0))) (fun S6 => some S6)))))
def b_X1_takeDay_3_17_2 (y7 : Int32) (S8 : CS) : Option ((Int32 × CS) ⊕ CS) :=
  (if 6 ≤ y7 then (some (Sum.inr S8)) else (Option.bind (rdP (S8.2.2 2) y7) (fun d9 => Option.bind (wrP S8 0 y7 d9) (fun S10 => Option.bind (some (y7 + 1)) (fun x12 => some (Sum.inl (x12, S10)))))))
def f_X1_takeDay_3_17 (S : CS)  : Option CS :=
  Option.bind (lp (fun s => b_X1_takeDay_3_17_2 s.1 s.2) FU (0, S)) (fun s => k_X1_takeDay_3_17_2 s)
def rmX1_takeDay_3_17 : Room := { frames := 1, cells := 0, slots := 0, locals := 60 }
abbrev RRX1_takeDay_3_17 : Room := (headSpec wsX1_takeDay rmX1_takeDay_3_17).room
theorem in1_X1_takeDay_3_17 : ∀ w ∈ wsX10, w ∈ wsX1_takeDay := by decide +kernel
set_option maxHeartbeats 4000000 in
set_option maxRecDepth 100000 in
theorem c_X1_takeDay_3_17 (l : Launch) (dC : Nat → ClassId) (dI : Nat → Nat → Nat) (t : Nat → ClassId) (ts aK aV : Nat → Nat) (A : Nat → Prop) (h : Nat → Nat) (tx : Nat) (sz : Nat) (hA0 : ∀ q : Nat, sz ≤ q → A q) (S : CS)  (S' : CS) (hf : f_X1_takeDay_3_17 S = some S') : cCv l yX1_takeDay wsX1_takeDay rmX1_takeDay_3_17 dC dI t ts aK aV A h tx tx sz [.ref (h 3), .ref (h 17)] S S' := by
  refine Met.ofW (cc := cX1_takeDay) (maxL := 3) (ret := none) (by decide) rfl ?_
  intro p e s m args below meth c s₁ B hml hv
  obtain ⟨hargs, hsz, hE, hC, hK⟩ := hv
  have hx := B.exec
  have hb := B.bytes
  have hr := B.returns
  have hts := atoms_spec (ws := wsX1_takeDay) B.pre
  have hown : s.vm.findClass RX1 = some m.cls := findClass_of_methodNamed B.named
  have hlocks := B.notSynchronized
  have hsz : s.heap.size = sz := hsz
  subst hsz
  have hin1 := in1_X1_takeDay_3_17
  have lk11_1 : Cond.fieldLink RX1 11 (TX1 0).1 (TX1 0).2.1 (TX1 0).2.2.1 ∈ wsX1_takeDay := by decide +kernel
  have lk17_1 : Cond.fieldLink RX1 17 (TX1 1).1 (TX1 1).2.1 (TX1 1).2.2.1 ∈ wsX1_takeDay := by decide +kernel
  have lk21_1 : Cond.fieldLink RX1 21 (TX1 2).1 (TX1 2).2.1 (TX1 2).2.2.1 ∈ wsX1_takeDay := by decide +kernel
  have lk24_1 : Cond.fieldLink RX1 24 (TX1 3).1 (TX1 3).2.1 (TX1 3).2.2.1 ∈ wsX1_takeDay := by decide +kernel
  have lk56_1 : Cond.fieldLink RX1 56 (TX1 6).1 (TX1 6).2.1 (TX1 6).2.2.1 ∈ wsX1_takeDay := by decide +kernel
  have lk59_1 : Cond.fieldLink RX1 59 (TX1 7).1 (TX1 7).2.1 (TX1 7).2.2.1 ∈ wsX1_takeDay := by decide +kernel
  have hA : ∀ q : Nat, s.heap.size ≤ q → A q := hA0
  obtain ⟨g, LP, pf, hP, hD, hG⟩ := hC
  have hS : va_S A s.heap s.heap [] := va_S.rf
  have hl := lv_entry ([.ref (h 3), .ref (h 17)]) (n := 3) (Nat.le_of_ble_eq_true rfl)
  rw [show entryFrame m args 3 = entryFrame m ([.ref (h 3), .ref (h 17)] : List Value).toArray 3 from by rw [hargs], lg_entry_eq]
  generalize (lg_sl ([.ref (h 3), .ref (h 17)]) ++ List.replicate (3 - (lg_sl ([.ref (h 3), .ref (h 17)])).length) Slot.unset).toArray = ls at hl ⊢
  have hl : lv_has ls 3 [(0, .ref (h 3)), (1, .ref (h 17))] := hl
  unfold f_X1_takeDay_3_17 at hf
  refine lv_iconst (v := 0) hx hb dX1_takeDay_0 (by decide) ?_
  refine lv_istore_n (lv' := [(2, .int 0), (0, .ref (h 3)), (1, .ref (h 17))]) hx hb dX1_takeDay_1 rfl hl (by decide) rfl (fun ls hl => ?_)
  have K2 : ∀ (S1 : CS) (g : Nat → Nat → Option Nat) (LP : List Nat) (pf : Nat → va_E) (H : Heap) (locs : List Loc) (ls : Array Slot), k_X1_takeDay_3_17_2 S1 = some S' → va_P (dC, dI) vwCl (wC t h tx g S1 ++ va_pl LP pf) H → va_D A (wC t h tx g S1 ++ va_pl LP pf) → rlC g LP pf S1 → va_S A s.heap H locs → lv_has ls 3 [(0, .ref (h 3)), (1, .ref (h 17))] → W p l e RRX1_takeDay_3_17 s m args below meth c H locs 0 0 (MQ below (qcCv dC dI t A h tx S') args s 0 0 A) (F0 m 26 ls []) := by
    intro S1 g LP pf H locs ls hf hP hD hG hS hl
    unfold k_X1_takeDay_3_17_2 at hf
    refine lv_aload_n hx hb dX1_takeDay_26 rfl (lv_at hl 1 rfl) ?_
    refine va_get (D := (dC, dI)) (ci := 1) (v := .ref (h 19)) (C := RX1) (T := TX1) (N := 10) hx hb hts hin1 hown hK hP 17 rfl rfl 1 (by decide) (hts _ lk17_1) (fun _ h9 => h9) rfl dX1_takeDay_27 ?_
    refine lv_iconst (v := 0) hx hb dX1_takeDay_30 (by decide) ?_
    refine lv_aload_n hx hb dX1_takeDay_31 rfl (lv_at hl 0 rfl) ?_
    refine va_get (D := (dC, dI)) (ci := 1) (v := .ref (h 5)) (C := RX1) (T := TX1) (N := 10) hx hb hts hin1 hown hK hP 3 rfl rfl 1 (by decide) (hts _ lk17_1) (fun _ h9 => h9) rfl dX1_takeDay_32 ?_
    refine lv_iconst (v := 0) hx hb dX1_takeDay_35 (by decide) ?_
    refine lv_iconst (v := 4) hx hb dX1_takeDay_36 (by decide) ?_
    obtain ⟨S2, eS2, hf⟩ := bn hf
    refine va_copyi hx hb (by rw [hml]; exact hl.1.symm) hown (hts (.methodLink RX1 39 arraycopyName) (by decide +kernel)) (hts (.native arraycopyName) (by decide +kernel)) (hts (.static arraycopyName) (by decide +kernel)) (hts (.initialized "java/lang/System") (by decide +kernel)) hK hP hD hS 19 5 0 0 rfl rfl rfl rfl rfl (by decide) (by decide) (by decide) (by decide) (by decide) (fun _ _ => rfl) (Nat.le_of_ble_eq_true rfl) (by decide +kernel) dX1_takeDay_37 (fun H locs hP hD hS => ?_)
    have hP : va_P (dC, dI) vwCl (wC t h tx g S2 ++ va_pl LP pf) H := by rw [eS2]; exact hP
    have hD : va_D A (wC t h tx g S2 ++ va_pl LP pf) := by rw [eS2]; exact hD
    have hG : rlC g LP pf S2 := by rw [eS2]; exact hG
    refine lv_aload_n hx hb dX1_takeDay_40 rfl (lv_at hl 1 rfl) ?_
    refine va_get (D := (dC, dI)) (ci := 1) (v := .ref (h 20)) (C := RX1) (T := TX1) (N := 10) hx hb hts hin1 hown hK hP 17 rfl rfl 2 (by decide) (hts _ lk21_1) (fun _ h9 => h9) rfl dX1_takeDay_41 ?_
    refine lv_iconst (v := 0) hx hb dX1_takeDay_44 (by decide) ?_
    refine lv_aload_n hx hb dX1_takeDay_45 rfl (lv_at hl 0 rfl) ?_
    refine va_get (D := (dC, dI)) (ci := 1) (v := .ref (h 6)) (C := RX1) (T := TX1) (N := 10) hx hb hts hin1 hown hK hP 3 rfl rfl 2 (by decide) (hts _ lk21_1) (fun _ h9 => h9) rfl dX1_takeDay_46 ?_
    refine lv_iconst (v := 0) hx hb dX1_takeDay_49 (by decide) ?_
    refine lv_bipush (v := 20) hx hb dX1_takeDay_50 (by decide) ?_
    obtain ⟨S3, eS3, hf⟩ := bn hf
    refine va_copyi hx hb (by rw [hml]; exact hl.1.symm) hown (hts (.methodLink RX1 39 arraycopyName) (by decide +kernel)) (hts (.native arraycopyName) (by decide +kernel)) (hts (.static arraycopyName) (by decide +kernel)) (hts (.initialized "java/lang/System") (by decide +kernel)) hK hP hD hS 20 6 0 0 rfl rfl rfl rfl rfl (by decide) (by decide) (by decide) (by decide) (by decide) (fun _ _ => rfl) (Nat.le_of_ble_eq_true rfl) (by decide +kernel) dX1_takeDay_52 (fun H locs hP hD hS => ?_)
    have hP : va_P (dC, dI) vwCl (wC t h tx g S3 ++ va_pl LP pf) H := by rw [eS3]; exact hP
    have hD : va_D A (wC t h tx g S3 ++ va_pl LP pf) := by rw [eS3]; exact hD
    have hG : rlC g LP pf S3 := by rw [eS3]; exact hG
    refine lv_aload_n hx hb dX1_takeDay_55 rfl (lv_at hl 1 rfl) ?_
    refine va_get (D := (dC, dI)) (ci := 1) (v := .ref (h 21)) (C := RX1) (T := TX1) (N := 10) hx hb hts hin1 hown hK hP 17 rfl rfl 3 (by decide) (hts _ lk24_1) (fun _ h9 => h9) rfl dX1_takeDay_56 ?_
    refine lv_iconst (v := 0) hx hb dX1_takeDay_59 (by decide) ?_
    refine lv_aload_n hx hb dX1_takeDay_60 rfl (lv_at hl 0 rfl) ?_
    refine va_get (D := (dC, dI)) (ci := 1) (v := .ref (h 7)) (C := RX1) (T := TX1) (N := 10) hx hb hts hin1 hown hK hP 3 rfl rfl 3 (by decide) (hts _ lk24_1) (fun _ h9 => h9) rfl dX1_takeDay_61 ?_
    refine lv_iconst (v := 0) hx hb dX1_takeDay_64 (by decide) ?_
    refine lv_bipush (v := 20) hx hb dX1_takeDay_65 (by decide) ?_
    obtain ⟨S4, eS4, hf⟩ := bn hf
    refine va_copyi hx hb (by rw [hml]; exact hl.1.symm) hown (hts (.methodLink RX1 39 arraycopyName) (by decide +kernel)) (hts (.native arraycopyName) (by decide +kernel)) (hts (.static arraycopyName) (by decide +kernel)) (hts (.initialized "java/lang/System") (by decide +kernel)) hK hP hD hS 21 7 0 0 rfl rfl rfl rfl rfl (by decide) (by decide) (by decide) (by decide) (by decide) (fun _ _ => rfl) (Nat.le_of_ble_eq_true rfl) (by decide +kernel) dX1_takeDay_67 (fun H locs hP hD hS => ?_)
    have hP : va_P (dC, dI) vwCl (wC t h tx g S4 ++ va_pl LP pf) H := by rw [eS4]; exact hP
    have hD : va_D A (wC t h tx g S4 ++ va_pl LP pf) := by rw [eS4]; exact hD
    have hG : rlC g LP pf S4 := by rw [eS4]; exact hG
    refine lv_aload_n hx hb dX1_takeDay_70 rfl (lv_at hl 0 rfl) ?_
    refine lv_aload_n hx hb dX1_takeDay_71 rfl (lv_at hl 1 rfl) ?_
    refine va_get (D := (dC, dI)) (ci := 1) (v := .int (S4.1 2706 0)) (C := RX1) (T := TX1) (N := 10) hx hb hts hin1 hown hK hP 17 rfl rfl 6 (by decide) (hts _ lk56_1) (fun _ h9 => h9) rfl dX1_takeDay_72 ?_
    obtain ⟨S5, eS5, hf⟩ := bn hf
    refine va_put (D := (dC, dI)) (ci := 1) (v := .int (S4.1 2706 0)) (ty := .int) (C := RX1) (T := TX1) (N := 10) hx hb hts hin1 tyX1 tyX1_ok nmX1 hown hK hP hD hS 3 rfl rfl 6 (by decide) (hts _ lk56_1) (fun _ h9 => h9) rfl (by decide +kernel) rfl rfl (Nat.le_of_ble_eq_true rfl) dX1_takeDay_75 (fun H locs hP hD hS => ?_)
    have hP : va_P (dC, dI) vwCl (wC t h tx g S5 ++ va_pl LP pf) H := by rw [eS5]; exact hP
    have hD : va_D A (wC t h tx g S5 ++ va_pl LP pf) := by rw [eS5]; exact hD
    have hG : rlC g LP pf S5 := by rw [eS5]; exact hG
    refine lv_aload_n hx hb dX1_takeDay_78 rfl (lv_at hl 0 rfl) ?_
    refine lv_aload_n hx hb dX1_takeDay_79 rfl (lv_at hl 1 rfl) ?_
    refine va_get (D := (dC, dI)) (ci := 1) (v := .int (S5.1 2707 0)) (C := RX1) (T := TX1) (N := 10) hx hb hts hin1 hown hK hP 17 rfl rfl 7 (by decide) (hts _ lk59_1) (fun _ h9 => h9) rfl dX1_takeDay_80 ?_
    obtain ⟨S6, eS6, hf⟩ := bn hf
    refine va_put (D := (dC, dI)) (ci := 1) (v := .int (S5.1 2707 0)) (ty := .int) (C := RX1) (T := TX1) (N := 10) hx hb hts hin1 tyX1 tyX1_ok nmX1 hown hK hP hD hS 3 rfl rfl 7 (by decide) (hts _ lk59_1) (fun _ h9 => h9) rfl (by decide +kernel) rfl rfl (Nat.le_of_ble_eq_true rfl) dX1_takeDay_83 (fun H locs hP hD hS => ?_)
    have hP : va_P (dC, dI) vwCl (wC t h tx g S6 ++ va_pl LP pf) H := by rw [eS6]; exact hP
    have hD : va_D A (wC t h tx g S6 ++ va_pl LP pf) := by rw [eS6]; exact hD
    have hG : rlC g LP pf S6 := by rw [eS6]; exact hG
    exact rtCv hx hb hr hlocks ⟨g, LP, pf, hP, hD, hG⟩ hS hf dX1_takeDay_86
  obtain ⟨z2, ez2, hz2⟩ := bd hf
  have L2 : ∀ (n : Nat) (y7 : Int32) (S8 : CS) (g : Nat → Nat → Option Nat) (LP : List Nat) (pf : Nat → va_E) (H : Heap) (locs : List Loc) (ls : Array Slot), lp (fun s => b_X1_takeDay_3_17_2 s.1 s.2) n (y7, S8) = some z2 → va_P (dC, dI) vwCl (wC t h tx g S8 ++ va_pl LP pf) H → va_D A (wC t h tx g S8 ++ va_pl LP pf) → rlC g LP pf S8 → va_S A s.heap H locs → lv_has ls 3 [(0, .ref (h 3)), (1, .ref (h 17)), (2, .int y7)] → W p l e RRX1_takeDay_3_17 s m args below meth c H locs 0 0 (MQ below (qcCv dC dI t A h tx S') args s 0 0 A) (F0 m 2 ls []) := by
    intro n
    induction n with
    | zero => intro y7 S8 g LP pf H locs ls hf; exact lp_z hf
    | succ n ih2 =>
      intro y7 S8 g LP pf H locs ls hf hP hD hG hS hl
      obtain ⟨q2, hf, hq2⟩ := lp_i hf
      have hf : b_X1_takeDay_3_17_2 y7 S8 = some q2 := hf
      unfold b_X1_takeDay_3_17_2 at hf
      refine lv_iload_n hx hb dX1_takeDay_2 rfl (lv_at hl 2 rfl) ?_
      refine lv_bipush (v := 6) hx hb dX1_takeDay_3 (by decide) ?_
      refine lv_icmp_ge (tgt := 26) hx hb dX1_takeDay_5 (by decide) (fun c13 => ?_) (fun c13 => ?_)
      · have hf := (if_pos c13).symm.trans hf
        exact K2 S8 _ _ _ _ _ _ (lp_x (k := (fun s => k_X1_takeDay_3_17_2 s)) (lp_r hf hq2) hz2) hP hD hG hS (lv_sub hl [0, 1] rfl)
      · have hf := (if_neg c13).symm.trans hf
        refine lv_aload_n hx hb dX1_takeDay_8 rfl (lv_at hl 0 rfl) ?_
        refine va_get (D := (dC, dI)) (ci := 1) (v := .ref (h 4)) (C := RX1) (T := TX1) (N := 10) hx hb hts hin1 hown hK hP 3 rfl rfl 0 (by decide) (hts _ lk11_1) (fun _ h9 => h9) rfl dX1_takeDay_9 ?_
        refine lv_iload_n hx hb dX1_takeDay_12 rfl (lv_at hl 2 rfl) ?_
        refine lv_aload_n hx hb dX1_takeDay_13 rfl (lv_at hl 1 rfl) ?_
        refine va_get (D := (dC, dI)) (ci := 1) (v := .ref (h 18)) (C := RX1) (T := TX1) (N := 10) hx hb hts hin1 hown hK hP 17 rfl rfl 0 (by decide) (hts _ lk11_1) (fun _ h9 => h9) rfl dX1_takeDay_14 ?_
        refine lv_iload_n hx hb dX1_takeDay_17 rfl (lv_at hl 2 rfl) ?_
        obtain ⟨d9, hid9, ed9, hf⟩ := rdP_b hf
        obtain ⟨ad9, gad9, lad9, pad9⟩ := hG 2 (by decide) _ (in_lt hid9)
        rw [← ed9] at pad9
        obtain ⟨kd9, hkd9⟩ := va_pl_get (X := wC t h tx g S8) (f := pf) lad9
        rw [pad9] at hkd9
        refine va_aldq hx hb hK hP 18 4 rfl rfl hid9 dX1_takeDay_18 (kR gad9 ?_)
        obtain ⟨S10, hiS10, eS10, hf⟩ := wrP_b hf
        refine asPd (d := d9) hx hb hE.1 hK hP hD hS 4 4 rfl rfl hkd9 hiS10 dX1_takeDay_19 (fun H locs hP hD hS => ?_)
        have hG := hG.set (c := 0) (i := y7.toNatClampNeg) lad9 pad9
        rw [← eS10] at hG
        obtain ⟨g11, eg11⟩ : ∃ z, z = va_up g 0 (va_up (g 0) y7.toNatClampNeg (some ad9)) := ⟨_, rfl⟩
        have hP : va_P (dC, dI) vwCl (wC t h tx g11 S10 ++ va_pl LP pf) H := by rw [eS10, eg11]; exact hP
        have hD : va_D A (wC t h tx g11 S10 ++ va_pl LP pf) := by rw [eS10, eg11]; exact hD
        rw [← eg11] at hG
        clear eg11
        generalize g11 = g at hP hD hG
        obtain ⟨x12, ex12, hf⟩ := bn hf
        refine lv_iinc (v := x12) (lv' := [(2, .int x12), (0, .ref (h 3)), (1, .ref (h 17))]) hx hb dX1_takeDay_20 hl (k := 2) rfl (by rw [ex12]; rfl) (by decide) rfl (fun ls hl => ?_)
        refine lv_goto (tgt := 2) hx hb dX1_takeDay_23 (by decide) ?_
        exact ih2 x12 S10 _ _ _ _ _ _ (lp_l hf hq2) hP hD hG hS (lv_sub hl [1, 2, 0] rfl)
  exact L2 FU 0 S _ _ _ _ _ _ ez2 hP hD hG hS (lv_sub hl [1, 2, 0] rfl)

def f_X1_copy_3_17 (S : CS)  : Option CS :=
  Option.bind (f_X1_takeDay_3_17 S) (fun S1 => Option.bind (some (siI S1 8 (va_cpy (S1.1 22) (S1.1 8) 0 0 200))) (fun S2 => Option.bind (some (siI S2 9 (va_cpy (S2.1 23) (S2.1 9) 0 0 5))) (fun S3 => Option.bind (some (siI S3 1308 (fun _ => S3.1 2708 0))) (fun S4 => Option.bind (some (siI S4 1309 (fun _ => S4.1 2709 0))) (fun S5 => some S5)))))
def rmX1_copy_3_17 : Room := { frames := 2, cells := 0, slots := 0, locals := 82 }
abbrev RRX1_copy_3_17 : Room := (headSpec wsX1_copy rmX1_copy_3_17).room
theorem in1_X1_copy_3_17 : ∀ w ∈ wsX10, w ∈ wsX1_copy := by decide +kernel
set_option maxHeartbeats 4000000 in
set_option maxRecDepth 100000 in
theorem c_X1_copy_3_17 (l : Launch) (dC : Nat → ClassId) (dI : Nat → Nat → Nat) (t : Nat → ClassId) (ts aK aV : Nat → Nat) (A : Nat → Prop) (h : Nat → Nat) (tx : Nat) (sz : Nat) (hA0 : ∀ q : Nat, sz ≤ q → A q) (S : CS)  (S' : CS) (hf : f_X1_copy_3_17 S = some S') : cCv l yX1_copy wsX1_copy rmX1_copy_3_17 dC dI t ts aK aV A h tx tx sz [.ref (h 3), .ref (h 17)] S S' := by
  refine Met.ofW (cc := cX1_copy) (maxL := 2) (ret := none) (by decide) rfl ?_
  intro p e s m args below meth c s₁ B hml hv
  obtain ⟨hargs, hsz, hE, hC, hK⟩ := hv
  have hx := B.exec
  have hb := B.bytes
  have hr := B.returns
  have hts := atoms_spec (ws := wsX1_copy) B.pre
  have hown : s.vm.findClass RX1 = some m.cls := findClass_of_methodNamed B.named
  have hlocks := B.notSynchronized
  have hsz : s.heap.size = sz := hsz
  subst hsz
  have hin1 := in1_X1_copy_3_17
  have lk27_1 : Cond.fieldLink RX1 27 (TX1 4).1 (TX1 4).2.1 (TX1 4).2.2.1 ∈ wsX1_copy := by decide +kernel
  have lk30_1 : Cond.fieldLink RX1 30 (TX1 5).1 (TX1 5).2.1 (TX1 5).2.2.1 ∈ wsX1_copy := by decide +kernel
  have lk49_1 : Cond.fieldLink RX1 49 (TX1 8).1 (TX1 8).2.1 (TX1 8).2.2.1 ∈ wsX1_copy := by decide +kernel
  have lk53_1 : Cond.fieldLink RX1 53 (TX1 9).1 (TX1 9).2.1 (TX1 9).2.2.1 ∈ wsX1_copy := by decide +kernel
  have hA : ∀ q : Nat, s.heap.size ≤ q → A q := hA0
  obtain ⟨g, LP, pf, hP, hD, hG⟩ := hC
  have hS : va_S A s.heap s.heap [] := va_S.rf
  have hl := lv_entry ([.ref (h 3), .ref (h 17)]) (n := 2) (Nat.le_of_ble_eq_true rfl)
  rw [show entryFrame m args 2 = entryFrame m ([.ref (h 3), .ref (h 17)] : List Value).toArray 2 from by rw [hargs], lg_entry_eq]
  generalize (lg_sl ([.ref (h 3), .ref (h 17)]) ++ List.replicate (2 - (lg_sl ([.ref (h 3), .ref (h 17)])).length) Slot.unset).toArray = ls at hl ⊢
  have hl : lv_has ls 2 [(0, .ref (h 3)), (1, .ref (h 17))] := hl
  unfold f_X1_copy_3_17 at hf
  refine lv_aload_n hx hb dX1_copy_0 rfl (lv_at hl 0 rfl) ?_
  refine lv_aload_n hx hb dX1_copy_1 rfl (lv_at hl 1 rfl) ?_
  obtain ⟨S1, eS1, hf⟩ := bd hf
  refine klCv (rest := []) (As := [.ref (h 17)]) ⟨hx, hb, hml, hown, hts⟩ (c_X1_takeDay_3_17 l dC dI t ts aK aV A h tx s.heap.size (fun q hq => hA q (Nat.le_trans hS.1 hq)) S S1 eS1) (cwV 1 hts gX1_copy_X1_takeDay rfl rfl rfl (by decide +kernel) ⟨Nat.le_of_ble_eq_true rfl, Nat.le_of_ble_eq_true rfl⟩) (va_recv hK hP (ci := 1) (q0 := 3) rfl rfl) rfl hl.1 rfl (Nat.le_of_ble_eq_true rfl) dX1_copy_2 ⟨Nat.zero_le _, Nat.zero_le _⟩ hE hK ⟨g, LP, pf, hP, hD, hG⟩ hS (fun H locs hC hS => ?_)
  obtain ⟨g, LP, pf, hP, hD, hG⟩ := hC
  refine lv_aload_n hx hb dX1_copy_5 rfl (lv_at hl 1 rfl) ?_
  refine va_get (D := (dC, dI)) (ci := 1) (v := .ref (h 22)) (C := RX1) (T := TX1) (N := 10) hx hb hts hin1 hown hK hP 17 rfl rfl 4 (by decide) (hts _ lk27_1) (fun _ h9 => h9) rfl dX1_copy_6 ?_
  refine lv_iconst (v := 0) hx hb dX1_copy_9 (by decide) ?_
  refine lv_aload_n hx hb dX1_copy_10 rfl (lv_at hl 0 rfl) ?_
  refine va_get (D := (dC, dI)) (ci := 1) (v := .ref (h 8)) (C := RX1) (T := TX1) (N := 10) hx hb hts hin1 hown hK hP 3 rfl rfl 4 (by decide) (hts _ lk27_1) (fun _ h9 => h9) rfl dX1_copy_11 ?_
  refine lv_iconst (v := 0) hx hb dX1_copy_14 (by decide) ?_
  refine lv_sipush (v := 200) hx hb dX1_copy_15 (by decide) ?_
  obtain ⟨S2, eS2, hf⟩ := bn hf
  refine va_copyi hx hb (by rw [hml]; exact hl.1.symm) hown (hts (.methodLink RX1 39 arraycopyName) (by decide +kernel)) (hts (.native arraycopyName) (by decide +kernel)) (hts (.static arraycopyName) (by decide +kernel)) (hts (.initialized "java/lang/System") (by decide +kernel)) hK hP hD hS 22 8 0 0 rfl rfl rfl rfl rfl (by decide) (by decide) (by decide) (by decide) (by decide) (fun _ _ => rfl) (Nat.le_of_ble_eq_true rfl) (by decide +kernel) dX1_copy_18 (fun H locs hP hD hS => ?_)
  have hP : va_P (dC, dI) vwCl (wC t h tx g S2 ++ va_pl LP pf) H := by rw [eS2]; exact hP
  have hD : va_D A (wC t h tx g S2 ++ va_pl LP pf) := by rw [eS2]; exact hD
  have hG : rlC g LP pf S2 := by rw [eS2]; exact hG
  refine lv_aload_n hx hb dX1_copy_21 rfl (lv_at hl 1 rfl) ?_
  refine va_get (D := (dC, dI)) (ci := 1) (v := .ref (h 23)) (C := RX1) (T := TX1) (N := 10) hx hb hts hin1 hown hK hP 17 rfl rfl 5 (by decide) (hts _ lk30_1) (fun _ h9 => h9) rfl dX1_copy_22 ?_
  refine lv_iconst (v := 0) hx hb dX1_copy_25 (by decide) ?_
  refine lv_aload_n hx hb dX1_copy_26 rfl (lv_at hl 0 rfl) ?_
  refine va_get (D := (dC, dI)) (ci := 1) (v := .ref (h 9)) (C := RX1) (T := TX1) (N := 10) hx hb hts hin1 hown hK hP 3 rfl rfl 5 (by decide) (hts _ lk30_1) (fun _ h9 => h9) rfl dX1_copy_27 ?_
  refine lv_iconst (v := 0) hx hb dX1_copy_30 (by decide) ?_
  refine lv_iconst (v := 5) hx hb dX1_copy_31 (by decide) ?_
  obtain ⟨S3, eS3, hf⟩ := bn hf
  refine va_copyi hx hb (by rw [hml]; exact hl.1.symm) hown (hts (.methodLink RX1 39 arraycopyName) (by decide +kernel)) (hts (.native arraycopyName) (by decide +kernel)) (hts (.static arraycopyName) (by decide +kernel)) (hts (.initialized "java/lang/System") (by decide +kernel)) hK hP hD hS 23 9 0 0 rfl rfl rfl rfl rfl (by decide) (by decide) (by decide) (by decide) (by decide) (fun _ _ => rfl) (Nat.le_of_ble_eq_true rfl) (by decide +kernel) dX1_copy_32 (fun H locs hP hD hS => ?_)
  have hP : va_P (dC, dI) vwCl (wC t h tx g S3 ++ va_pl LP pf) H := by rw [eS3]; exact hP
  have hD : va_D A (wC t h tx g S3 ++ va_pl LP pf) := by rw [eS3]; exact hD
  have hG : rlC g LP pf S3 := by rw [eS3]; exact hG
  refine lv_aload_n hx hb dX1_copy_35 rfl (lv_at hl 0 rfl) ?_
  refine lv_aload_n hx hb dX1_copy_36 rfl (lv_at hl 1 rfl) ?_
  refine va_get (D := (dC, dI)) (ci := 1) (v := .int (S3.1 2708 0)) (C := RX1) (T := TX1) (N := 10) hx hb hts hin1 hown hK hP 17 rfl rfl 8 (by decide) (hts _ lk49_1) (fun _ h9 => h9) rfl dX1_copy_37 ?_
  obtain ⟨S4, eS4, hf⟩ := bn hf
  refine va_put (D := (dC, dI)) (ci := 1) (v := .int (S3.1 2708 0)) (ty := .int) (C := RX1) (T := TX1) (N := 10) hx hb hts hin1 tyX1 tyX1_ok nmX1 hown hK hP hD hS 3 rfl rfl 8 (by decide) (hts _ lk49_1) (fun _ h9 => h9) rfl (by decide +kernel) rfl rfl (Nat.le_of_ble_eq_true rfl) dX1_copy_40 (fun H locs hP hD hS => ?_)
  have hP : va_P (dC, dI) vwCl (wC t h tx g S4 ++ va_pl LP pf) H := by rw [eS4]; exact hP
  have hD : va_D A (wC t h tx g S4 ++ va_pl LP pf) := by rw [eS4]; exact hD
  have hG : rlC g LP pf S4 := by rw [eS4]; exact hG
  refine lv_aload_n hx hb dX1_copy_43 rfl (lv_at hl 0 rfl) ?_
  refine lv_aload_n hx hb dX1_copy_44 rfl (lv_at hl 1 rfl) ?_
  refine va_get (D := (dC, dI)) (ci := 1) (v := .int (S4.1 2709 0)) (C := RX1) (T := TX1) (N := 10) hx hb hts hin1 hown hK hP 17 rfl rfl 9 (by decide) (hts _ lk53_1) (fun _ h9 => h9) rfl dX1_copy_45 ?_
  obtain ⟨S5, eS5, hf⟩ := bn hf
  refine va_put (D := (dC, dI)) (ci := 1) (v := .int (S4.1 2709 0)) (ty := .int) (C := RX1) (T := TX1) (N := 10) hx hb hts hin1 tyX1 tyX1_ok nmX1 hown hK hP hD hS 3 rfl rfl 9 (by decide) (hts _ lk53_1) (fun _ h9 => h9) rfl (by decide +kernel) rfl rfl (Nat.le_of_ble_eq_true rfl) dX1_copy_48 (fun H locs hP hD hS => ?_)
  have hP : va_P (dC, dI) vwCl (wC t h tx g S5 ++ va_pl LP pf) H := by rw [eS5]; exact hP
  have hD : va_D A (wC t h tx g S5 ++ va_pl LP pf) := by rw [eS5]; exact hD
  have hG : rlC g LP pf S5 := by rw [eS5]; exact hG
  exact rtCv hx hb hr hlocks ⟨g, LP, pf, hP, hD, hG⟩ hS hf dX1_copy_51

def k_J7_fill_d0a16_35_6 (S1 : CS) : Option CS :=
  some S1
def b_J7_fill_d0a16_35_6 (p1 : Int64) (y2 : Int32) (S3 : CS) : Option ((Int32 × CS) ⊕ CS) :=
  (if 240 ≤ y2 then (some (Sum.inr S3)) else (Option.bind (wrJ S3 35 240 y2 p1) (fun S4 => Option.bind (some (y2 + 1)) (fun x5 => some (Sum.inl (x5, S4))))))
def f_J7_fill_d0a16_35 (S : CS) (p1 : Int64) : Option CS :=
  Option.bind (lp (fun s => b_J7_fill_d0a16_35_6 p1 s.1 s.2) FU (0, S)) (fun s => k_J7_fill_d0a16_35_6 s)
def rmJ7_fill_d0a16_35 : Room := { frames := 0, cells := 0, slots := 0, locals := 0 }
abbrev RRJ7_fill_d0a16_35 : Room := (headSpec wsJ7_fill_d0a16 rmJ7_fill_d0a16_35).room
set_option maxHeartbeats 4000000 in
set_option maxRecDepth 100000 in
theorem c_J7_fill_d0a16_35 (l : Launch) (dC : Nat → ClassId) (dI : Nat → Nat → Nat) (t : Nat → ClassId) (ts aK aV : Nat → Nat) (A : Nat → Prop) (h : Nat → Nat) (tx : Nat) (sz : Nat) (hA0 : ∀ q : Nat, sz ≤ q → A q) (S : CS) (p1 : Int64) (S' : CS) (hf : f_J7_fill_d0a16_35 S p1 = some S') : cCv l yJ7_fill_d0a16 wsJ7_fill_d0a16 rmJ7_fill_d0a16_35 dC dI t ts aK aV A h tx tx sz [.ref (h 35), .long p1] S S' := by
  refine Met.ofW (cc := cJ7_fill_d0a16) (maxL := 5) (ret := none) (by decide) rfl ?_
  intro p e s m args below meth c s₁ B hml hv
  obtain ⟨hargs, hsz, hE, hC, hK⟩ := hv
  have hx := B.exec
  have hb := B.bytes
  have hr := B.returns
  have hts := atoms_spec (ws := wsJ7_fill_d0a16) B.pre
  have hown : s.vm.findClass RJ7 = some m.cls := findClass_of_methodNamed B.named
  have hlocks := B.notSynchronized
  have hsz : s.heap.size = sz := hsz
  subst hsz
  have hA : ∀ q : Nat, s.heap.size ≤ q → A q := hA0
  obtain ⟨g, LP, pf, hP, hD, hG⟩ := hC
  have hS : va_S A s.heap s.heap [] := va_S.rf
  have hl := lv_entry ([.ref (h 35), .long p1]) (n := 5) (Nat.le_of_ble_eq_true rfl)
  rw [show entryFrame m args 5 = entryFrame m ([.ref (h 35), .long p1] : List Value).toArray 5 from by rw [hargs], lg_entry_eq]
  generalize (lg_sl ([.ref (h 35), .long p1]) ++ List.replicate (5 - (lg_sl ([.ref (h 35), .long p1])).length) Slot.unset).toArray = ls at hl ⊢
  have hl : lv_has ls 5 [(0, .ref (h 35)), (1, .long p1)] := hl
  unfold f_J7_fill_d0a16_35 at hf
  refine lv_iconst (v := 0) hx hb dJ7_fill_d0a16_0 (by decide) ?_
  refine lv_istore_n (lv' := [(3, .int 0), (0, .ref (h 35)), (1, .long p1)]) hx hb dJ7_fill_d0a16_1 rfl hl (by decide) rfl (fun ls hl => ?_)
  refine lv_aload_n hx hb dJ7_fill_d0a16_2 rfl (lv_at hl 1 rfl) ?_
  refine va_alen (v := 240) hx hb hK hP 35 2 rfl rfl rfl dJ7_fill_d0a16_3 ?_
  refine lv_istore (lv' := [(4, .int 240), (3, .int 0), (0, .ref (h 35)), (1, .long p1)]) hx hb dJ7_fill_d0a16_4 hl (by decide) rfl (fun ls hl => ?_)
  have K6 : ∀ (S1 : CS) (g : Nat → Nat → Option Nat) (LP : List Nat) (pf : Nat → va_E) (H : Heap) (locs : List Loc) (ls : Array Slot), k_J7_fill_d0a16_35_6 S1 = some S' → va_P (dC, dI) vwCl (wC t h tx g S1 ++ va_pl LP pf) H → va_D A (wC t h tx g S1 ++ va_pl LP pf) → rlC g LP pf S1 → va_S A s.heap H locs → lv_has ls 5 [] → W p l e RRJ7_fill_d0a16_35 s m args below meth c H locs 0 0 (MQ below (qcCv dC dI t A h tx S') args s 0 0 A) (F0 m 22 ls []) := by
    intro S1 g LP pf H locs ls hf hP hD hG hS hl
    unfold k_J7_fill_d0a16_35_6 at hf
    exact rtCv hx hb hr hlocks ⟨g, LP, pf, hP, hD, hG⟩ hS hf dJ7_fill_d0a16_22
  obtain ⟨z6, ez6, hz6⟩ := bd hf
  have L6 : ∀ (n : Nat) (y2 : Int32) (S3 : CS) (g : Nat → Nat → Option Nat) (LP : List Nat) (pf : Nat → va_E) (H : Heap) (locs : List Loc) (ls : Array Slot), lp (fun s => b_J7_fill_d0a16_35_6 p1 s.1 s.2) n (y2, S3) = some z6 → va_P (dC, dI) vwCl (wC t h tx g S3 ++ va_pl LP pf) H → va_D A (wC t h tx g S3 ++ va_pl LP pf) → rlC g LP pf S3 → va_S A s.heap H locs → lv_has ls 5 [(0, .ref (h 35)), (1, .long p1), (3, .int y2), (4, .int 240)] → W p l e RRJ7_fill_d0a16_35 s m args below meth c H locs 0 0 (MQ below (qcCv dC dI t A h tx S') args s 0 0 A) (F0 m 6 ls []) := by
    intro n
    induction n with
    | zero => intro y2 S3 g LP pf H locs ls hf; exact lp_z hf
    | succ n ih6 =>
      intro y2 S3 g LP pf H locs ls hf hP hD hG hS hl
      obtain ⟨q6, hf, hq6⟩ := lp_i hf
      have hf : b_J7_fill_d0a16_35_6 p1 y2 S3 = some q6 := hf
      unfold b_J7_fill_d0a16_35_6 at hf
      refine lv_iload_n hx hb dJ7_fill_d0a16_6 rfl (lv_at hl 2 rfl) ?_
      refine lv_iload hx hb dJ7_fill_d0a16_7 (lv_at hl 3 rfl) ?_
      refine lv_icmp_ge (tgt := 22) hx hb dJ7_fill_d0a16_9 (by decide) (fun c6 => ?_) (fun c6 => ?_)
      · have hf := (if_pos c6).symm.trans hf
        exact K6 S3 _ _ _ _ _ _ (lp_x (k := (fun s => k_J7_fill_d0a16_35_6 s)) (lp_r hf hq6) hz6) hP hD hG hS (lv_sub hl [] rfl)
      · have hf := (if_neg c6).symm.trans hf
        refine lv_aload_n hx hb dJ7_fill_d0a16_12 rfl (lv_at hl 0 rfl) ?_
        refine lv_iload_n hx hb dJ7_fill_d0a16_13 rfl (lv_at hl 2 rfl) ?_
        refine lv_lload_n hx hb dJ7_fill_d0a16_14 rfl (lv_at hl 1 rfl) ?_
        obtain ⟨S4, hiS4, eS4, hf⟩ := wrJ_b hf
        refine va_last hx hb hK hP hD hS 35 2 rfl rfl hiS4 dJ7_fill_d0a16_15 (fun H locs hP hD hS => ?_)
        have hP : va_P (dC, dI) vwCl (wC t h tx g S4 ++ va_pl LP pf) H := by rw [eS4]; exact hP
        have hD : va_D A (wC t h tx g S4 ++ va_pl LP pf) := by rw [eS4]; exact hD
        have hG : rlC g LP pf S4 := by rw [eS4]; exact hG
        obtain ⟨x5, ex5, hf⟩ := bn hf
        refine lv_iinc (v := x5) (lv' := [(3, .int x5), (0, .ref (h 35)), (1, .long p1), (4, .int 240)]) hx hb dJ7_fill_d0a16_16 hl (k := 2) rfl (by rw [ex5]; rfl) (by decide) rfl (fun ls hl => ?_)
        refine lv_goto (tgt := 6) hx hb dJ7_fill_d0a16_19 (by decide) ?_
        exact ih6 x5 S4 _ _ _ _ _ _ (lp_l hf hq6) hP hD hG hS (lv_sub hl [1, 2, 0, 3] rfl)
  exact L6 FU 0 S _ _ _ _ _ _ ez6 hP hD hG hS (lv_sub hl [2, 3, 1, 0] rfl)

def k_X7_findOpen_33_3_19 (S2 : CS) : Option CS :=
  some S2
def k_X7_findOpen_33_3_61 (y3 : Int32) (S8 : CS) : Option ((Int32 × CS) ⊕ CS) :=
  Option.bind (some (y3 + 1)) (fun x9 => some (Sum.inl (x9, S8)))
def j_X7_findOpen_33_3_136 (x5 : Int32) (y11 : Int32) (S12 : CS) (y13 : Int32) : Option ((Int32 × Int32 × CS) ⊕ CS) :=
  (if y13 = 0 then (Option.bind (some (y11 + 1)) (fun x14 => some (Sum.inl (y13, x14, S12)))) else (Option.bind (rdJ 240 (S12.2.1 35) y11) (fun x15 => Option.bind (wrJ S12 35 240 y11 (x15 ||| (1 <<< (Int32.toInt64 x5 &&& 63)))) (fun S16 => Option.bind (some (y11 + 1)) (fun x17 => some (Sum.inl (y13, x17, S16)))))))
def j_X7_findOpen_33_3_134 (x5 : Int32) (y11 : Int32) (S12 : CS) (k21 : Int32) : Option ((Int32 × Int32 × CS) ⊕ CS) :=
  j_X7_findOpen_33_3_136 x5 y11 S12 k21
def j_X7_findOpen_33_3_129 (x5 : Int32) (y11 : Int32) (S12 : CS) : Option ((Int32 × Int32 × CS) ⊕ CS) :=
  j_X7_findOpen_33_3_134 x5 y11 S12 1
def j_X7_findOpen_33_3_101 (x5 : Int32) (y11 : Int32) (S12 : CS) : Option ((Int32 × Int32 × CS) ⊕ CS) :=
  Option.bind (f_X1_isNight_3 S12 y11) (fun r19 => Option.bind (f_X1_whyNot_3 S12 x5 y11 r19) (fun r20 => (if r20 = 0 then (j_X7_findOpen_33_3_129 x5 y11 S12) else ((if r20 = 6 then (j_X7_findOpen_33_3_129 x5 y11 S12) else (j_X7_findOpen_33_3_134 x5 y11 S12 0))))))
def b_X7_findOpen_33_3_61 (x5 : Int32) (k7 : Int32) (y10 : Int32) (y11 : Int32) (S12 : CS) : Option ((Int32 × Int32 × CS) ⊕ CS) :=
  (if 240 ≤ y11 then (some (Sum.inr S12)) else ((if k7 = 0 then (some (Sum.inr S12)) else ((if y11 = 0 then (j_X7_findOpen_33_3_101 x5 y11 S12) else (Option.bind (rdI 4 (S12.1 5) 1) (fun x24 => (if y11 = x24 then (j_X7_findOpen_33_3_101 x5 y11 S12) else (Option.bind (rdI 4 (S12.1 5) 3) (fun x25 => (if y11 = x25 then (j_X7_findOpen_33_3_101 x5 y11 S12) else (j_X7_findOpen_33_3_136 x5 y11 S12 y10))))))))))))
def j_X7_findOpen_33_3_53 (y3 : Int32) (S4 : CS) (x5 : Int32) (k7 : Int32) : Option ((Int32 × CS) ⊕ CS) :=
  Option.bind (lp (fun s => b_X7_findOpen_33_3_61 x5 k7 s.1 s.2.1 s.2.2) FU (0, 0, S4)) (fun s => k_X7_findOpen_33_3_61 y3 s)
def j_X7_findOpen_33_3_52 (y3 : Int32) (S4 : CS) (x5 : Int32) : Option ((Int32 × CS) ⊕ CS) :=
  j_X7_findOpen_33_3_53 y3 S4 x5 0
def b_X7_findOpen_33_3_19 (p1 : Int32) (y3 : Int32) (S4 : CS) : Option ((Int32 × CS) ⊕ CS) :=
  (if 21 ≤ y3 then (some (Sum.inr S4)) else (Option.bind (rdI 21 (ssI 0) y3) (fun x5 => Option.bind (f_X1_hasSet_3 S4 x5) (fun r6 => (if r6 = 0 then (j_X7_findOpen_33_3_52 y3 S4 x5) else ((if (x5 &&& p1) = 0 then (j_X7_findOpen_33_3_53 y3 S4 x5 1) else (j_X7_findOpen_33_3_52 y3 S4 x5))))))))
def f_X7_findOpen_33_3 (S : CS) (p1 : Int32) : Option CS :=
  Option.bind (f_J7_fill_d0a16_35 S 0) (fun S1 => Option.bind (lp (fun s => b_X7_findOpen_33_3_19 p1 s.1 s.2) FU (0, S1)) (fun s => k_X7_findOpen_33_3_19 s))
def rmX7_findOpen_33_3 : Room := { frames := 4, cells := 0, slots := 0, locals := 92 }
abbrev RRX7_findOpen_33_3 : Room := (headSpec wsX7_findOpen rmX7_findOpen_33_3).room
theorem in1_X7_findOpen_33_3 : ∀ w ∈ wsX10, w ∈ wsX7_findOpen := by decide +kernel
theorem in7_X7_findOpen_33_3 : ∀ w ∈ wsX70, w ∈ wsX7_findOpen := by decide +kernel
set_option maxHeartbeats 4000000 in
set_option maxRecDepth 100000 in
theorem c_X7_findOpen_33_3 (l : Launch) (dC : Nat → ClassId) (dI : Nat → Nat → Nat) (t : Nat → ClassId) (ts aK aV : Nat → Nat) (A : Nat → Prop) (h : Nat → Nat) (tx : Nat) (sz : Nat) (hA0 : ∀ q : Nat, sz ≤ q → A q) (S : CS) (p1 : Int32) (S' : CS) (hf : f_X7_findOpen_33_3 S p1 = some S') : cCv l yX7_findOpen wsX7_findOpen rmX7_findOpen_33_3 dC dI t ts aK aV A h tx tx sz [.ref (h 33), .ref (h 3), .int p1] S S' := by
  refine Met.ofW (cc := cX7_findOpen) (maxL := 11) (ret := none) (by decide) rfl ?_
  intro p e s m args below meth c s₁ B hml hv
  obtain ⟨hargs, hsz, hE, hC, hK⟩ := hv
  have hx := B.exec
  have hb := B.bytes
  have hr := B.returns
  have hts := atoms_spec (ws := wsX7_findOpen) B.pre
  have hown : s.vm.findClass RX7 = some m.cls := findClass_of_methodNamed B.named
  have hlocks := B.notSynchronized
  have hsz : s.heap.size = sz := hsz
  subst hsz
  have hin1 := in1_X7_findOpen_33_3
  have hin7 := in7_X7_findOpen_33_3
  have lk15_7 : Cond.fieldLink RX7 15 (TX7 7).1 (TX7 7).2.1 (TX7 7).2.2.1 ∈ wsX7_findOpen := by decide +kernel
  have lk92_1 : Cond.fieldLink RX7 92 (TX1 1).1 (TX1 1).2.1 (TX1 1).2.2.1 ∈ wsX7_findOpen := by decide +kernel
  have hA : ∀ q : Nat, s.heap.size ≤ q → A q := hA0
  obtain ⟨g, LP, pf, hP, hD, hG⟩ := hC
  have hS : va_S A s.heap s.heap [] := va_S.rf
  have hl := lv_entry ([.ref (h 33), .ref (h 3), .int p1]) (n := 11) (Nat.le_of_ble_eq_true rfl)
  rw [show entryFrame m args 11 = entryFrame m ([.ref (h 33), .ref (h 3), .int p1] : List Value).toArray 11 from by rw [hargs], lg_entry_eq]
  generalize (lg_sl ([.ref (h 33), .ref (h 3), .int p1]) ++ List.replicate (11 - (lg_sl ([.ref (h 33), .ref (h 3), .int p1])).length) Slot.unset).toArray = ls at hl ⊢
  have hl : lv_has ls 11 [(0, .ref (h 33)), (1, .ref (h 3)), (2, .int p1)] := hl
  unfold f_X7_findOpen_33_3 at hf
  refine lv_aload_n hx hb dX7_findOpen_0 rfl (lv_at hl 0 rfl) ?_
  refine va_get (D := (dC, dI)) (ci := 7) (v := .ref (h 35)) (C := RX7) (T := TX7) (N := 12) hx hb hts hin7 hown hK hP 33 rfl rfl 7 (by decide) (hts _ lk15_7) (fun _ h9 => h9) rfl dX7_findOpen_1 ?_
  refine lv_lconst (v := 0) hx hb dX7_findOpen_4 (by decide) ?_
  obtain ⟨S1, eS1, hf⟩ := bd hf
  refine klCsv (rest := []) (As := [.ref (h 35), .long 0]) ⟨hx, hb, hml, hown, hts⟩ (c_J7_fill_d0a16_35 l dC dI t ts aK aV A h tx s.heap.size (fun q hq => hA q (Nat.le_trans hS.1 hq)) S 0 S1 eS1) (va_cwS 2 hts gX7_findOpen_J7_fill_d0a16 rfl rfl rfl (by decide +kernel) ⟨Nat.le_of_ble_eq_true rfl, Nat.le_of_ble_eq_true rfl⟩) rfl hl.1 rfl (Nat.le_of_ble_eq_true rfl) dX7_findOpen_5 ⟨Nat.zero_le _, Nat.zero_le _⟩ hE hK ⟨g, LP, pf, hP, hD, hG⟩ hS (fun H locs hC hS => ?_)
  obtain ⟨g, LP, pf, hP, hD, hG⟩ := hC
  refine va_getsN hx hb hE.2.1.1 hS hown (va_Nw.use rfl (hE.1.2.1 ("OnlyTwo$Planner", 42, "OnlyTwo", "SMALL_SETS", "[I", "OnlyTwo") (by decide +kernel))) (fun _ h9 => h9) dX7_findOpen_8 ?_
  refine lv_astore_n (lv' := [(3, .ref (ts 0)), (0, .ref (h 33)), (1, .ref (h 3)), (2, .int p1)]) hx hb dX7_findOpen_11 rfl hl (by decide) rfl (fun ls hl => ?_)
  refine lv_aload_n hx hb dX7_findOpen_12 rfl (lv_at hl 0 rfl) ?_
  refine va_tlen (v := 21) hx hb hE.2.1.2 hS (by decide) dX7_findOpen_13 ?_
  refine lv_istore (lv' := [(4, .int 21), (3, .ref (ts 0)), (0, .ref (h 33)), (1, .ref (h 3)), (2, .int p1)]) hx hb dX7_findOpen_14 hl (by decide) rfl (fun ls hl => ?_)
  refine lv_iconst (v := 0) hx hb dX7_findOpen_16 (by decide) ?_
  refine lv_istore (lv' := [(5, .int 0), (4, .int 21), (3, .ref (ts 0)), (0, .ref (h 33)), (1, .ref (h 3)), (2, .int p1)]) hx hb dX7_findOpen_17 hl (by decide) rfl (fun ls hl => ?_)
  have K19 : ∀ (S2 : CS) (g : Nat → Nat → Option Nat) (LP : List Nat) (pf : Nat → va_E) (H : Heap) (locs : List Loc) (ls : Array Slot), k_X7_findOpen_33_3_19 S2 = some S' → va_P (dC, dI) vwCl (wC t h tx g S2 ++ va_pl LP pf) H → va_D A (wC t h tx g S2 ++ va_pl LP pf) → rlC g LP pf S2 → va_S A s.heap H locs → lv_has ls 11 [] → W p l e RRX7_findOpen_33_3 s m args below meth c H locs 0 0 (MQ below (qcCv dC dI t A h tx S') args s 0 0 A) (F0 m 167 ls []) := by
    intro S2 g LP pf H locs ls hf hP hD hG hS hl
    unfold k_X7_findOpen_33_3_19 at hf
    exact rtCv hx hb hr hlocks ⟨g, LP, pf, hP, hD, hG⟩ hS hf dX7_findOpen_167
  obtain ⟨z19, ez19, hz19⟩ := bd hf
  have L19 : ∀ (n : Nat) (y3 : Int32) (S4 : CS) (g : Nat → Nat → Option Nat) (LP : List Nat) (pf : Nat → va_E) (H : Heap) (locs : List Loc) (ls : Array Slot), lp (fun s => b_X7_findOpen_33_3_19 p1 s.1 s.2) n (y3, S4) = some z19 → va_P (dC, dI) vwCl (wC t h tx g S4 ++ va_pl LP pf) H → va_D A (wC t h tx g S4 ++ va_pl LP pf) → rlC g LP pf S4 → va_S A s.heap H locs → lv_has ls 11 [(0, .ref (h 33)), (1, .ref (h 3)), (2, .int p1), (3, .ref (ts 0)), (4, .int 21), (5, .int y3)] → W p l e RRX7_findOpen_33_3 s m args below meth c H locs 0 0 (MQ below (qcCv dC dI t A h tx S') args s 0 0 A) (F0 m 19 ls []) := by
    intro n
    induction n with
    | zero => intro y3 S4 g LP pf H locs ls hf; exact lp_z hf
    | succ n ih19 =>
      intro y3 S4 g LP pf H locs ls hf hP hD hG hS hl
      obtain ⟨q19, hf, hq19⟩ := lp_i hf
      have hf : b_X7_findOpen_33_3_19 p1 y3 S4 = some q19 := hf
      unfold b_X7_findOpen_33_3_19 at hf
      refine lv_iload hx hb dX7_findOpen_19 (lv_at hl 5 rfl) ?_
      refine lv_iload hx hb dX7_findOpen_21 (lv_at hl 4 rfl) ?_
      refine lv_icmp_ge (tgt := 167) hx hb dX7_findOpen_23 (by decide) (fun c33 => ?_) (fun c33 => ?_)
      · have hf := (if_pos c33).symm.trans hf
        exact K19 S4 _ _ _ _ _ _ (lp_x (k := (fun s => k_X7_findOpen_33_3_19 s)) (lp_r hf hq19) hz19) hP hD hG hS (lv_sub hl [] rfl)
      · have hf := (if_neg c33).symm.trans hf
        refine lv_aload_n hx hb dX7_findOpen_26 rfl (lv_at hl 3 rfl) ?_
        refine lv_iload hx hb dX7_findOpen_27 (lv_at hl 5 rfl) ?_
        obtain ⟨x5, hix5, ex5, hf⟩ := rd_b hf
        refine va_ti hx hb hE.2.1.2 hS hix5 rfl dX7_findOpen_29 (kI ex5 ?_)
        refine lv_istore (lv' := [(6, .int x5), (0, .ref (h 33)), (1, .ref (h 3)), (2, .int p1), (3, .ref (ts 0)), (4, .int 21), (5, .int y3)]) hx hb dX7_findOpen_30 hl (by decide) rfl (fun ls hl => ?_)
        refine lv_aload_n hx hb dX7_findOpen_32 rfl (lv_at hl 2 rfl) ?_
        refine lv_iload hx hb dX7_findOpen_33 (lv_at hl 0 rfl) ?_
        obtain ⟨r6, er6, hf⟩ := bd hf
        refine klCi (rest := []) (As := [.int x5]) ⟨hx, hb, hml, hown, hts⟩ (c_X1_hasSet_3 l dC dI t ts aK aV A h tx H.size (fun q hq => hA q (Nat.le_trans hS.1 hq)) S4 x5 r6 er6) (cwV 1 hts gX7_findOpen_X1_hasSet rfl rfl rfl (by decide +kernel) ⟨Nat.le_of_ble_eq_true rfl, Nat.le_of_ble_eq_true rfl⟩) (va_recv hK hP (ci := 1) (q0 := 3) rfl rfl) rfl hl.1 rfl (Nat.le_of_ble_eq_true rfl) dX7_findOpen_35 ⟨Nat.zero_le _, Nat.zero_le _⟩ hE hK ⟨g, LP, pf, hP, hD, hG⟩ hS (fun H locs hC hS => ?_)
        obtain ⟨g, LP, pf, hP, hD, hG⟩ := hC
        have J53 : ∀ (k7 : Int32) (g : Nat → Nat → Option Nat) (LP : List Nat) (pf : Nat → va_E) (H : Heap) (locs : List Loc) (ls : Array Slot), j_X7_findOpen_33_3_53 y3 S4 x5 k7 = some q19 → va_P (dC, dI) vwCl (wC t h tx g S4 ++ va_pl LP pf) H → va_D A (wC t h tx g S4 ++ va_pl LP pf) → rlC g LP pf S4 → va_S A s.heap H locs → lv_has ls 11 [(0, .ref (h 33)), (1, .ref (h 3)), (2, .int p1), (3, .ref (ts 0)), (4, .int 21), (5, .int y3), (6, .int x5)] → W p l e RRX7_findOpen_33_3 s m args below meth c H locs 0 0 (MQ below (qcCv dC dI t A h tx S') args s 0 0 A) (F0 m 53 ls [.int k7]) := by
          intro k7 g LP pf H locs ls hf hP hD hG hS hl
          unfold j_X7_findOpen_33_3_53 at hf
          refine lv_istore (lv' := [(7, .int k7), (0, .ref (h 33)), (1, .ref (h 3)), (2, .int p1), (3, .ref (ts 0)), (4, .int 21), (5, .int y3), (6, .int x5)]) hx hb dX7_findOpen_53 hl (by decide) rfl (fun ls hl => ?_)
          refine lv_iconst (v := 0) hx hb dX7_findOpen_55 (by decide) ?_
          refine lv_istore (lv' := [(8, .int 0), (7, .int k7), (0, .ref (h 33)), (1, .ref (h 3)), (2, .int p1), (3, .ref (ts 0)), (4, .int 21), (5, .int y3), (6, .int x5)]) hx hb dX7_findOpen_56 hl (by decide) rfl (fun ls hl => ?_)
          refine lv_iconst (v := 0) hx hb dX7_findOpen_58 (by decide) ?_
          refine lv_istore (lv' := [(9, .int 0), (8, .int 0), (7, .int k7), (0, .ref (h 33)), (1, .ref (h 3)), (2, .int p1), (3, .ref (ts 0)), (4, .int 21), (5, .int y3), (6, .int x5)]) hx hb dX7_findOpen_59 hl (by decide) rfl (fun ls hl => ?_)
          have K61 : ∀ (S8 : CS) (g : Nat → Nat → Option Nat) (LP : List Nat) (pf : Nat → va_E) (H : Heap) (locs : List Loc) (ls : Array Slot), k_X7_findOpen_33_3_61 y3 S8 = some q19 → va_P (dC, dI) vwCl (wC t h tx g S8 ++ va_pl LP pf) H → va_D A (wC t h tx g S8 ++ va_pl LP pf) → rlC g LP pf S8 → va_S A s.heap H locs → lv_has ls 11 [(0, .ref (h 33)), (1, .ref (h 3)), (2, .int p1), (3, .ref (ts 0)), (4, .int 21), (5, .int y3)] → W p l e RRX7_findOpen_33_3 s m args below meth c H locs 0 0 (MQ below (qcCv dC dI t A h tx S') args s 0 0 A) (F0 m 161 ls []) := by
            intro S8 g LP pf H locs ls hf hP hD hG hS hl
            unfold k_X7_findOpen_33_3_61 at hf
            obtain ⟨x9, ex9, hf⟩ := bn hf
            refine lv_iinc (v := x9) (lv' := [(5, .int x9), (0, .ref (h 33)), (1, .ref (h 3)), (2, .int p1), (3, .ref (ts 0)), (4, .int 21)]) hx hb dX7_findOpen_161 hl (k := 5) rfl (by rw [ex9]; rfl) (by decide) rfl (fun ls hl => ?_)
            refine lv_goto (tgt := 19) hx hb dX7_findOpen_164 (by decide) ?_
            exact ih19 x9 S8 _ _ _ _ _ _ (lp_l hf hq19) hP hD hG hS (lv_sub hl [1, 2, 3, 4, 5, 0] rfl)
          obtain ⟨z61, ez61, hz61⟩ := bd hf
          have L61 : ∀ (n : Nat) (y10 : Int32) (y11 : Int32) (S12 : CS) (g : Nat → Nat → Option Nat) (LP : List Nat) (pf : Nat → va_E) (H : Heap) (locs : List Loc) (ls : Array Slot), lp (fun s => b_X7_findOpen_33_3_61 x5 k7 s.1 s.2.1 s.2.2) n (y10, y11, S12) = some z61 → va_P (dC, dI) vwCl (wC t h tx g S12 ++ va_pl LP pf) H → va_D A (wC t h tx g S12 ++ va_pl LP pf) → rlC g LP pf S12 → va_S A s.heap H locs → lv_has ls 11 [(0, .ref (h 33)), (1, .ref (h 3)), (2, .int p1), (3, .ref (ts 0)), (4, .int 21), (5, .int y3), (6, .int x5), (7, .int k7), (8, .int y10), (9, .int y11)] → W p l e RRX7_findOpen_33_3 s m args below meth c H locs 0 0 (MQ below (qcCv dC dI t A h tx S') args s 0 0 A) (F0 m 61 ls []) := by
            intro n
            induction n with
            | zero => intro y10 y11 S12 g LP pf H locs ls hf; exact lp_z hf
            | succ n ih61 =>
              intro y10 y11 S12 g LP pf H locs ls hf hP hD hG hS hl
              obtain ⟨q61, hf, hq61⟩ := lp_i hf
              have hf : b_X7_findOpen_33_3_61 x5 k7 y10 y11 S12 = some q61 := hf
              unfold b_X7_findOpen_33_3_61 at hf
              refine lv_iload hx hb dX7_findOpen_61 (lv_at hl 9 rfl) ?_
              refine lv_sipush (v := 240) hx hb dX7_findOpen_63 (by decide) ?_
              refine lv_icmp_ge (tgt := 161) hx hb dX7_findOpen_66 (by decide) (fun c30 => ?_) (fun c30 => ?_)
              · have hf := (if_pos c30).symm.trans hf
                exact K61 S12 _ _ _ _ _ _ (lp_x (k := (fun s => k_X7_findOpen_33_3_61 y3 s)) (lp_r hf hq61) hz61) hP hD hG hS (lv_sub hl [0, 1, 2, 3, 4, 5] rfl)
              · have hf := (if_neg c30).symm.trans hf
                refine lv_iload hx hb dX7_findOpen_69 (lv_at hl 7 rfl) ?_
                refine lv_if_eq (tgt := 161) hx hb dX7_findOpen_71 (by decide) (fun c29 => ?_) (fun c29 => ?_)
                · have hf := (if_pos c29).symm.trans hf
                  exact K61 S12 _ _ _ _ _ _ (lp_x (k := (fun s => k_X7_findOpen_33_3_61 y3 s)) (lp_r hf hq61) hz61) hP hD hG hS (lv_sub hl [0, 1, 2, 3, 4, 5] rfl)
                · have hf := (if_neg c29).symm.trans hf
                  refine lv_iload hx hb dX7_findOpen_74 (lv_at hl 9 rfl) ?_
                  have J136 : ∀ (y13 : Int32) (g : Nat → Nat → Option Nat) (LP : List Nat) (pf : Nat → va_E) (H : Heap) (locs : List Loc) (ls : Array Slot), j_X7_findOpen_33_3_136 x5 y11 S12 y13 = some q61 → va_P (dC, dI) vwCl (wC t h tx g S12 ++ va_pl LP pf) H → va_D A (wC t h tx g S12 ++ va_pl LP pf) → rlC g LP pf S12 → va_S A s.heap H locs → lv_has ls 11 [(0, .ref (h 33)), (1, .ref (h 3)), (2, .int p1), (3, .ref (ts 0)), (4, .int 21), (5, .int y3), (6, .int x5), (7, .int k7), (8, .int y13), (9, .int y11)] → W p l e RRX7_findOpen_33_3 s m args below meth c H locs 0 0 (MQ below (qcCv dC dI t A h tx S') args s 0 0 A) (F0 m 136 ls []) := by
                    intro y13 g LP pf H locs ls hf hP hD hG hS hl
                    unfold j_X7_findOpen_33_3_136 at hf
                    refine lv_iload hx hb dX7_findOpen_136 (lv_at hl 8 rfl) ?_
                    refine lv_if_eq (tgt := 155) hx hb dX7_findOpen_138 (by decide) (fun c18 => ?_) (fun c18 => ?_)
                    · have hf := (if_pos c18).symm.trans hf
                      obtain ⟨x14, ex14, hf⟩ := bn hf
                      refine lv_iinc (v := x14) (lv' := [(9, .int x14), (0, .ref (h 33)), (1, .ref (h 3)), (2, .int p1), (3, .ref (ts 0)), (4, .int 21), (5, .int y3), (6, .int x5), (7, .int k7), (8, .int y13)]) hx hb dX7_findOpen_155 hl (k := 9) rfl (by rw [ex14]; rfl) (by decide) rfl (fun ls hl => ?_)
                      refine lv_goto (tgt := 61) hx hb dX7_findOpen_158 (by decide) ?_
                      exact ih61 y13 x14 S12 _ _ _ _ _ _ (lp_l hf hq61) hP hD hG hS (lv_sub hl [1, 2, 3, 4, 5, 6, 7, 8, 9, 0] rfl)
                    · have hf := (if_neg c18).symm.trans hf
                      refine lv_aload_n hx hb dX7_findOpen_141 rfl (lv_at hl 0 rfl) ?_
                      refine va_get (D := (dC, dI)) (ci := 7) (v := .ref (h 35)) (C := RX7) (T := TX7) (N := 12) hx hb hts hin7 hown hK hP 33 rfl rfl 7 (by decide) (hts _ lk15_7) (fun _ h9 => h9) rfl dX7_findOpen_142 ?_
                      refine lv_iload hx hb dX7_findOpen_145 (lv_at hl 9 rfl) ?_
                      refine lv_dup2_11 hx hb dX7_findOpen_147 rfl rfl ?_
                      obtain ⟨x15, hix15, ex15, hf⟩ := rdJ_b hf
                      refine va_lald hx hb hK hP 35 2 rfl rfl hix15 dX7_findOpen_148 (kJ ex15 ?_)
                      refine lv_lconst (v := 1) hx hb dX7_findOpen_149 (by decide) ?_
                      refine lv_iload hx hb dX7_findOpen_150 (lv_at hl 6 rfl) ?_
                      refine lv_lshl hx hb dX7_findOpen_152 rfl ?_
                      refine lv_lor hx hb dX7_findOpen_153 ?_
                      obtain ⟨S16, hiS16, eS16, hf⟩ := wrJ_b hf
                      refine va_last hx hb hK hP hD hS 35 2 rfl rfl hiS16 dX7_findOpen_154 (fun H locs hP hD hS => ?_)
                      have hP : va_P (dC, dI) vwCl (wC t h tx g S16 ++ va_pl LP pf) H := by rw [eS16]; exact hP
                      have hD : va_D A (wC t h tx g S16 ++ va_pl LP pf) := by rw [eS16]; exact hD
                      have hG : rlC g LP pf S16 := by rw [eS16]; exact hG
                      obtain ⟨x17, ex17, hf⟩ := bn hf
                      refine lv_iinc (v := x17) (lv' := [(9, .int x17), (0, .ref (h 33)), (1, .ref (h 3)), (2, .int p1), (3, .ref (ts 0)), (4, .int 21), (5, .int y3), (6, .int x5), (7, .int k7), (8, .int y13)]) hx hb dX7_findOpen_155 hl (k := 9) rfl (by rw [ex17]; rfl) (by decide) rfl (fun ls hl => ?_)
                      refine lv_goto (tgt := 61) hx hb dX7_findOpen_158 (by decide) ?_
                      exact ih61 y13 x17 S16 _ _ _ _ _ _ (lp_l hf hq61) hP hD hG hS (lv_sub hl [1, 2, 3, 4, 5, 6, 7, 8, 9, 0] rfl)
                  have J101 : ∀  (g : Nat → Nat → Option Nat) (LP : List Nat) (pf : Nat → va_E) (H : Heap) (locs : List Loc) (ls : Array Slot), j_X7_findOpen_33_3_101 x5 y11 S12 = some q61 → va_P (dC, dI) vwCl (wC t h tx g S12 ++ va_pl LP pf) H → va_D A (wC t h tx g S12 ++ va_pl LP pf) → rlC g LP pf S12 → va_S A s.heap H locs → lv_has ls 11 [(0, .ref (h 33)), (1, .ref (h 3)), (2, .int p1), (3, .ref (ts 0)), (4, .int 21), (5, .int y3), (6, .int x5), (7, .int k7), (9, .int y11)] → W p l e RRX7_findOpen_33_3 s m args below meth c H locs 0 0 (MQ below (qcCv dC dI t A h tx S') args s 0 0 A) (F0 m 101 ls []) := by
                    intro  g LP pf H locs ls hf hP hD hG hS hl
                    unfold j_X7_findOpen_33_3_101 at hf
                    refine lv_aload_n hx hb dX7_findOpen_101 rfl (lv_at hl 1 rfl) ?_
                    refine lv_iload hx hb dX7_findOpen_102 (lv_at hl 6 rfl) ?_
                    refine lv_iload hx hb dX7_findOpen_104 (lv_at hl 8 rfl) ?_
                    refine lv_aload_n hx hb dX7_findOpen_106 rfl (lv_at hl 1 rfl) ?_
                    refine lv_iload hx hb dX7_findOpen_107 (lv_at hl 8 rfl) ?_
                    obtain ⟨r19, er19, hf⟩ := bd hf
                    refine klCi (rest := [.int y11, .int x5, .ref (h 3)]) (As := [.int y11]) ⟨hx, hb, hml, hown, hts⟩ (c_X1_isNight_3 l dC dI t ts aK aV A h tx H.size (fun q hq => hA q (Nat.le_trans hS.1 hq)) S12 y11 r19 er19) (cwV 1 hts gX7_findOpen_X1_isNight rfl rfl rfl (by decide +kernel) ⟨Nat.le_of_ble_eq_true rfl, Nat.le_of_ble_eq_true rfl⟩) (va_recv hK hP (ci := 1) (q0 := 3) rfl rfl) rfl hl.1 rfl (Nat.le_of_ble_eq_true rfl) dX7_findOpen_109 ⟨Nat.zero_le _, Nat.zero_le _⟩ hE hK ⟨g, LP, pf, hP, hD, hG⟩ hS (fun H locs hC hS => ?_)
                    obtain ⟨g, LP, pf, hP, hD, hG⟩ := hC
                    obtain ⟨r20, er20, hf⟩ := bd hf
                    refine klCi (rest := []) (As := [.int x5, .int y11, .int r19]) ⟨hx, hb, hml, hown, hts⟩ (c_X1_whyNot_3 l dC dI t ts aK aV A h tx H.size (fun q hq => hA q (Nat.le_trans hS.1 hq)) S12 x5 y11 r19 r20 er20) (cwV 3 hts gX7_findOpen_X1_whyNot rfl rfl rfl (by decide +kernel) ⟨Nat.le_of_ble_eq_true rfl, Nat.le_of_ble_eq_true rfl⟩) (va_recv hK hP (ci := 1) (q0 := 3) rfl rfl) rfl hl.1 rfl (Nat.le_of_ble_eq_true rfl) dX7_findOpen_112 ⟨Nat.zero_le _, Nat.zero_le _⟩ hE hK ⟨g, LP, pf, hP, hD, hG⟩ hS (fun H locs hC hS => ?_)
                    obtain ⟨g, LP, pf, hP, hD, hG⟩ := hC
                    refine lv_istore (lv' := [(10, .int r20), (0, .ref (h 33)), (1, .ref (h 3)), (2, .int p1), (3, .ref (ts 0)), (4, .int 21), (5, .int y3), (6, .int x5), (7, .int k7), (9, .int y11)]) hx hb dX7_findOpen_115 hl (by decide) rfl (fun ls hl => ?_)
                    refine lv_iload hx hb dX7_findOpen_117 (lv_at hl 0 rfl) ?_
                    have J134 : ∀ (k21 : Int32) (g : Nat → Nat → Option Nat) (LP : List Nat) (pf : Nat → va_E) (H : Heap) (locs : List Loc) (ls : Array Slot), j_X7_findOpen_33_3_134 x5 y11 S12 k21 = some q61 → va_P (dC, dI) vwCl (wC t h tx g S12 ++ va_pl LP pf) H → va_D A (wC t h tx g S12 ++ va_pl LP pf) → rlC g LP pf S12 → va_S A s.heap H locs → lv_has ls 11 [(0, .ref (h 33)), (1, .ref (h 3)), (2, .int p1), (3, .ref (ts 0)), (4, .int 21), (5, .int y3), (6, .int x5), (7, .int k7), (9, .int y11)] → W p l e RRX7_findOpen_33_3 s m args below meth c H locs 0 0 (MQ below (qcCv dC dI t A h tx S') args s 0 0 A) (F0 m 134 ls [.int k21]) := by
                      intro k21 g LP pf H locs ls hf hP hD hG hS hl
                      unfold j_X7_findOpen_33_3_134 at hf
                      refine lv_istore (lv' := [(8, .int k21), (0, .ref (h 33)), (1, .ref (h 3)), (2, .int p1), (3, .ref (ts 0)), (4, .int 21), (5, .int y3), (6, .int x5), (7, .int k7), (9, .int y11)]) hx hb dX7_findOpen_134 hl (by decide) rfl (fun ls hl => ?_)
                      exact J136 k21 _ _ _ _ _ _ hf hP hD hG hS (lv_sub hl [1, 2, 3, 4, 5, 6, 7, 8, 0, 9] rfl)
                    have J129 : ∀  (g : Nat → Nat → Option Nat) (LP : List Nat) (pf : Nat → va_E) (H : Heap) (locs : List Loc) (ls : Array Slot), j_X7_findOpen_33_3_129 x5 y11 S12 = some q61 → va_P (dC, dI) vwCl (wC t h tx g S12 ++ va_pl LP pf) H → va_D A (wC t h tx g S12 ++ va_pl LP pf) → rlC g LP pf S12 → va_S A s.heap H locs → lv_has ls 11 [(0, .ref (h 33)), (1, .ref (h 3)), (2, .int p1), (3, .ref (ts 0)), (4, .int 21), (5, .int y3), (6, .int x5), (7, .int k7), (9, .int y11)] → W p l e RRX7_findOpen_33_3 s m args below meth c H locs 0 0 (MQ below (qcCv dC dI t A h tx S') args s 0 0 A) (F0 m 129 ls []) := by
                      intro  g LP pf H locs ls hf hP hD hG hS hl
                      unfold j_X7_findOpen_33_3_129 at hf
                      refine lv_iconst (v := 1) hx hb dX7_findOpen_129 (by decide) ?_
                      refine lv_goto (tgt := 134) hx hb dX7_findOpen_130 (by decide) ?_
                      exact J134 1 _ _ _ _ _ _ hf hP hD hG hS (lv_sub hl [0, 1, 2, 3, 4, 5, 6, 7, 8] rfl)
                    refine lv_if_eq (tgt := 129) hx hb dX7_findOpen_119 (by decide) (fun c23 => ?_) (fun c23 => ?_)
                    · have hf := (if_pos c23).symm.trans hf
                      exact J129  _ _ _ _ _ _ hf hP hD hG hS (lv_sub hl [1, 2, 3, 4, 5, 6, 7, 8, 9] rfl)
                    · have hf := (if_neg c23).symm.trans hf
                      refine lv_iload hx hb dX7_findOpen_122 (lv_at hl 0 rfl) ?_
                      refine lv_bipush (v := 6) hx hb dX7_findOpen_124 (by decide) ?_
                      refine lv_icmp_ne (tgt := 133) hx hb dX7_findOpen_126 (by decide) (fun c22 => ?_) (fun c22 => ?_)
                      · have hf := (if_neg c22).symm.trans hf
                        refine lv_iconst (v := 0) hx hb dX7_findOpen_133 (by decide) ?_
                        exact J134 0 _ _ _ _ _ _ hf hP hD hG hS (lv_sub hl [1, 2, 3, 4, 5, 6, 7, 8, 9] rfl)
                      · have hf := (if_pos c22).symm.trans hf
                        exact J129  _ _ _ _ _ _ hf hP hD hG hS (lv_sub hl [1, 2, 3, 4, 5, 6, 7, 8, 9] rfl)
                  refine lv_if_eq (tgt := 101) hx hb dX7_findOpen_76 (by decide) (fun c28 => ?_) (fun c28 => ?_)
                  · have hf := (if_pos c28).symm.trans hf
                    exact J101  _ _ _ _ _ _ hf hP hD hG hS (lv_sub hl [0, 1, 2, 3, 4, 5, 6, 7, 9] rfl)
                  · have hf := (if_neg c28).symm.trans hf
                    refine lv_iload hx hb dX7_findOpen_79 (lv_at hl 9 rfl) ?_
                    refine lv_aload_n hx hb dX7_findOpen_81 rfl (lv_at hl 1 rfl) ?_
                    refine va_get (D := (dC, dI)) (ci := 1) (v := .ref (h 5)) (C := RX1) (T := TX1) (N := 10) hx hb hts hin1 hown hK hP 3 rfl rfl 1 (by decide) (hts _ lk92_1) (fun _ h9 => h9) rfl dX7_findOpen_82 ?_
                    refine lv_iconst (v := 1) hx hb dX7_findOpen_85 (by decide) ?_
                    obtain ⟨x24, hix24, ex24, hf⟩ := rd_b hf
                    refine va_iald hx hb hK hP 5 0 rfl rfl hix24 dX7_findOpen_86 (kI ex24 ?_)
                    refine lv_icmp_eq (tgt := 101) hx hb dX7_findOpen_87 (by decide) (fun c27 => ?_) (fun c27 => ?_)
                    · have hf := (if_pos c27).symm.trans hf
                      exact J101  _ _ _ _ _ _ hf hP hD hG hS (lv_sub hl [0, 1, 2, 3, 4, 5, 6, 7, 9] rfl)
                    · have hf := (if_neg c27).symm.trans hf
                      refine lv_iload hx hb dX7_findOpen_90 (lv_at hl 9 rfl) ?_
                      refine lv_aload_n hx hb dX7_findOpen_92 rfl (lv_at hl 1 rfl) ?_
                      refine va_get (D := (dC, dI)) (ci := 1) (v := .ref (h 5)) (C := RX1) (T := TX1) (N := 10) hx hb hts hin1 hown hK hP 3 rfl rfl 1 (by decide) (hts _ lk92_1) (fun _ h9 => h9) rfl dX7_findOpen_93 ?_
                      refine lv_iconst (v := 3) hx hb dX7_findOpen_96 (by decide) ?_
                      obtain ⟨x25, hix25, ex25, hf⟩ := rd_b hf
                      refine va_iald hx hb hK hP 5 0 rfl rfl hix25 dX7_findOpen_97 (kI ex25 ?_)
                      refine lv_icmp_ne (tgt := 136) hx hb dX7_findOpen_98 (by decide) (fun c26 => ?_) (fun c26 => ?_)
                      · have hf := (if_neg c26).symm.trans hf
                        exact J136 y10 _ _ _ _ _ _ hf hP hD hG hS (lv_sub hl [0, 1, 2, 3, 4, 5, 6, 7, 8, 9] rfl)
                      · have hf := (if_pos c26).symm.trans hf
                        exact J101  _ _ _ _ _ _ hf hP hD hG hS (lv_sub hl [0, 1, 2, 3, 4, 5, 6, 7, 9] rfl)
          exact L61 FU 0 0 S4 _ _ _ _ _ _ ez61 hP hD hG hS (lv_sub hl [3, 4, 5, 6, 7, 8, 9, 2, 1, 0] rfl)
        have J52 : ∀  (g : Nat → Nat → Option Nat) (LP : List Nat) (pf : Nat → va_E) (H : Heap) (locs : List Loc) (ls : Array Slot), j_X7_findOpen_33_3_52 y3 S4 x5 = some q19 → va_P (dC, dI) vwCl (wC t h tx g S4 ++ va_pl LP pf) H → va_D A (wC t h tx g S4 ++ va_pl LP pf) → rlC g LP pf S4 → va_S A s.heap H locs → lv_has ls 11 [(0, .ref (h 33)), (1, .ref (h 3)), (2, .int p1), (3, .ref (ts 0)), (4, .int 21), (5, .int y3), (6, .int x5)] → W p l e RRX7_findOpen_33_3 s m args below meth c H locs 0 0 (MQ below (qcCv dC dI t A h tx S') args s 0 0 A) (F0 m 52 ls []) := by
          intro  g LP pf H locs ls hf hP hD hG hS hl
          unfold j_X7_findOpen_33_3_52 at hf
          refine lv_iconst (v := 0) hx hb dX7_findOpen_52 (by decide) ?_
          exact J53 0 _ _ _ _ _ _ hf hP hD hG hS (lv_sub hl [0, 1, 2, 3, 4, 5, 6] rfl)
        refine lv_if_eq (tgt := 52) hx hb dX7_findOpen_38 (by decide) (fun c32 => ?_) (fun c32 => ?_)
        · have hf := (if_pos c32).symm.trans hf
          exact J52  _ _ _ _ _ _ hf hP hD hG hS (lv_sub hl [1, 2, 3, 4, 5, 6, 0] rfl)
        · have hf := (if_neg c32).symm.trans hf
          refine lv_iload hx hb dX7_findOpen_41 (lv_at hl 0 rfl) ?_
          refine lv_iload_n hx hb dX7_findOpen_43 rfl (lv_at hl 3 rfl) ?_
          refine lv_iand hx hb dX7_findOpen_44 ?_
          refine lv_if_ne (tgt := 52) hx hb dX7_findOpen_45 (by decide) (fun c31 => ?_) (fun c31 => ?_)
          · have hf := (if_neg c31).symm.trans hf
            exact J52  _ _ _ _ _ _ hf hP hD hG hS (lv_sub hl [1, 2, 3, 4, 5, 6, 0] rfl)
          · have hf := (if_pos c31).symm.trans hf
            refine lv_iconst (v := 1) hx hb dX7_findOpen_48 (by decide) ?_
            refine lv_goto (tgt := 53) hx hb dX7_findOpen_49 (by decide) ?_
            exact J53 1 _ _ _ _ _ _ hf hP hD hG hS (lv_sub hl [1, 2, 3, 4, 5, 6, 0] rfl)
  exact L19 FU 0 S1 _ _ _ _ _ _ ez19 hP hD hG hS (lv_sub hl [3, 4, 5, 2, 1, 0] rfl)
