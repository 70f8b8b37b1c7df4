def f_X1_hasPorter_3 (S : CS) (p0 : Int32) : Option Int32 :=
  (if p0 < 0 then (some 0) else ((if (S.1 1306 0) ≤ p0 then (some 0) else (some 1))))
def rmX1_hasPorter_3 : Room := { frames := 0, cells := 0, slots := 0, locals := 0 }
abbrev RRX1_hasPorter_3 : Room := (headSpec wsX1_hasPorter rmX1_hasPorter_3).room
theorem in1_X1_hasPorter_3 : ∀ w ∈ wsX10, w ∈ wsX1_hasPorter := by decide +kernel
set_option maxHeartbeats 4000000 in
set_option maxRecDepth 100000 in
theorem c_X1_hasPorter_3 (l : Launch) (dC : Nat → ClassId) (dI : Nat → Nat → Nat) (t : Nat → ClassId) (ts aK aV : Nat → Nat) (A : Nat → Prop) (h : Nat → Nat) (tx : Nat) (sz : Nat) (hA0 : ∀ q : Nat, sz ≤ q → A q) (S : CS) (p0 : Int32) (r : Int32) (hf : f_X1_hasPorter_3 S p0 = some r) : cCi l yX1_hasPorter wsX1_hasPorter rmX1_hasPorter_3 dC dI t ts aK aV A h tx tx sz [.ref (h 3), .int p0] S r S := by
  refine Met.ofW (cc := cX1_hasPorter) (maxL := 2) (ret := (some .boolean)) (by decide) rfl ?_
  intro p e s m args below meth c s₁ B hml hv
  obtain ⟨hargs, hsz, hE, hC, hK⟩ := hv
  have hx := B.exec
  have hb := B.bytes
  have hr := B.returns
  have hts := atoms_spec (ws := wsX1_hasPorter) B.pre
  have hown : s.vm.findClass RX1 = some m.cls := findClass_of_methodNamed B.named
  have hlocks := B.notSynchronized
  have hsz : s.heap.size = sz := hsz
  subst hsz
  have hin1 := in1_X1_hasPorter_3
  have lk56_1 : Cond.fieldLink RX1 56 (TX1 6).1 (TX1 6).2.1 (TX1 6).2.2.1 ∈ wsX1_hasPorter := by decide +kernel
  have hA : ∀ q : Nat, s.heap.size ≤ q → A q := hA0
  obtain ⟨g, LP, pf, hP, hD, hG⟩ := hC
  have hS : va_S A s.heap s.heap [] := va_S.rf
  have hl := lv_entry ([.ref (h 3), .int p0]) (n := 2) (Nat.le_of_ble_eq_true rfl)
  rw [show entryFrame m args 2 = entryFrame m ([.ref (h 3), .int p0] : List Value).toArray 2 from by rw [hargs], lg_entry_eq]
  generalize (lg_sl ([.ref (h 3), .int p0]) ++ List.replicate (2 - (lg_sl ([.ref (h 3), .int p0])).length) Slot.unset).toArray = ls at hl ⊢
  have hl : lv_has ls 2 [(0, .ref (h 3)), (1, .int p0)] := hl
  unfold f_X1_hasPorter_3 at hf
  refine lv_iload_n hx hb dX1_hasPorter_0 rfl (lv_at hl 1 rfl) ?_
  refine lv_if_lt (tgt := 16) hx hb dX1_hasPorter_1 (by decide) (fun c2 => ?_) (fun c2 => ?_)
  · have hf := (if_pos c2).symm.trans hf
    refine lv_iconst (v := 0) hx hb dX1_hasPorter_16 (by decide) ?_
    exact rtCz hx hb hr hlocks ⟨g, LP, pf, hP, hD, hG⟩ hS rfl (congrArg (fun z => some (z, S)) (Option.some.inj hf)) dX1_hasPorter_17
  · have hf := (if_neg c2).symm.trans hf
    refine lv_iload_n hx hb dX1_hasPorter_4 rfl (lv_at hl 1 rfl) ?_
    refine lv_aload_n hx hb dX1_hasPorter_5 rfl (lv_at hl 0 rfl) ?_
    refine va_get (D := (dC, dI)) (ci := 1) (v := .int (S.1 1306 0)) (C := RX1) (T := TX1) (N := 10) hx hb hts hin1 hown hK hP 3 rfl rfl 6 (by decide) (hts _ lk56_1) (fun _ h9 => h9) rfl dX1_hasPorter_6 ?_
    refine lv_icmp_ge (tgt := 16) hx hb dX1_hasPorter_9 (by decide) (fun c1 => ?_) (fun c1 => ?_)
    · have hf := (if_pos c1).symm.trans hf
      refine lv_iconst (v := 0) hx hb dX1_hasPorter_16 (by decide) ?_
      exact rtCz hx hb hr hlocks ⟨g, LP, pf, hP, hD, hG⟩ hS rfl (congrArg (fun z => some (z, S)) (Option.some.inj hf)) dX1_hasPorter_17
    · have hf := (if_neg c1).symm.trans hf
      refine lv_iconst (v := 1) hx hb dX1_hasPorter_12 (by decide) ?_
      refine lv_goto (tgt := 17) hx hb dX1_hasPorter_13 (by decide) ?_
      exact rtCz hx hb hr hlocks ⟨g, LP, pf, hP, hD, hG⟩ hS rfl (congrArg (fun z => some (z, S)) (Option.some.inj hf)) dX1_hasPorter_17

def f_X1_hasSet_3 (S : CS) (p0 : Int32) : Option Int32 :=
  (if p0 < 0 then (some 0) else ((if (1 <<< ((S.1 1306 0) &&& 31)) ≤ p0 then (some 0) else (some 1))))
def rmX1_hasSet_3 : Room := { frames := 0, cells := 0, slots := 0, locals := 0 }
abbrev RRX1_hasSet_3 : Room := (headSpec wsX1_hasSet rmX1_hasSet_3).room
theorem in1_X1_hasSet_3 : ∀ w ∈ wsX10, w ∈ wsX1_hasSet := by decide +kernel
set_option maxHeartbeats 4000000 in
set_option maxRecDepth 100000 in
theorem c_X1_hasSet_3 (l : Launch) (dC : Nat → ClassId) (dI : Nat → Nat → Nat) (t : Nat → ClassId) (ts aK aV : Nat → Nat) (A : Nat → Prop) (h : Nat → Nat) (tx : Nat) (sz : Nat) (hA0 : ∀ q : Nat, sz ≤ q → A q) (S : CS) (p0 : Int32) (r : Int32) (hf : f_X1_hasSet_3 S p0 = some r) : cCi l yX1_hasSet wsX1_hasSet rmX1_hasSet_3 dC dI t ts aK aV A h tx tx sz [.ref (h 3), .int p0] S r S := by
  refine Met.ofW (cc := cX1_hasSet) (maxL := 2) (ret := (some .boolean)) (by decide) rfl ?_
  intro p e s m args below meth c s₁ B hml hv
  obtain ⟨hargs, hsz, hE, hC, hK⟩ := hv
  have hx := B.exec
  have hb := B.bytes
  have hr := B.returns
  have hts := atoms_spec (ws := wsX1_hasSet) B.pre
  have hown : s.vm.findClass RX1 = some m.cls := findClass_of_methodNamed B.named
  have hlocks := B.notSynchronized
  have hsz : s.heap.size = sz := hsz
  subst hsz
  have hin1 := in1_X1_hasSet_3
  have lk56_1 : Cond.fieldLink RX1 56 (TX1 6).1 (TX1 6).2.1 (TX1 6).2.2.1 ∈ wsX1_hasSet := by decide +kernel
  have hA : ∀ q : Nat, s.heap.size ≤ q → A q := hA0
  obtain ⟨g, LP, pf, hP, hD, hG⟩ := hC
  have hS : va_S A s.heap s.heap [] := va_S.rf
  have hl := lv_entry ([.ref (h 3), .int p0]) (n := 2) (Nat.le_of_ble_eq_true rfl)
  rw [show entryFrame m args 2 = entryFrame m ([.ref (h 3), .int p0] : List Value).toArray 2 from by rw [hargs], lg_entry_eq]
  generalize (lg_sl ([.ref (h 3), .int p0]) ++ List.replicate (2 - (lg_sl ([.ref (h 3), .int p0])).length) Slot.unset).toArray = ls at hl ⊢
  have hl : lv_has ls 2 [(0, .ref (h 3)), (1, .int p0)] := hl
  unfold f_X1_hasSet_3 at hf
  refine lv_iload_n hx hb dX1_hasSet_0 rfl (lv_at hl 1 rfl) ?_
  refine lv_if_lt (tgt := 18) hx hb dX1_hasSet_1 (by decide) (fun c2 => ?_) (fun c2 => ?_)
  · have hf := (if_pos c2).symm.trans hf
    refine lv_iconst (v := 0) hx hb dX1_hasSet_18 (by decide) ?_
    exact rtCz hx hb hr hlocks ⟨g, LP, pf, hP, hD, hG⟩ hS rfl (congrArg (fun z => some (z, S)) (Option.some.inj hf)) dX1_hasSet_19
  · have hf := (if_neg c2).symm.trans hf
    refine lv_iload_n hx hb dX1_hasSet_4 rfl (lv_at hl 1 rfl) ?_
    refine lv_iconst (v := 1) hx hb dX1_hasSet_5 (by decide) ?_
    refine lv_aload_n hx hb dX1_hasSet_6 rfl (lv_at hl 0 rfl) ?_
    refine va_get (D := (dC, dI)) (ci := 1) (v := .int (S.1 1306 0)) (C := RX1) (T := TX1) (N := 10) hx hb hts hin1 hown hK hP 3 rfl rfl 6 (by decide) (hts _ lk56_1) (fun _ h9 => h9) rfl dX1_hasSet_7 ?_
    refine lv_ishl hx hb dX1_hasSet_10 ?_
    refine lv_icmp_ge (tgt := 18) hx hb dX1_hasSet_11 (by decide) (fun c1 => ?_) (fun c1 => ?_)
    · have hf := (if_pos c1).symm.trans hf
      refine lv_iconst (v := 0) hx hb dX1_hasSet_18 (by decide) ?_
      exact rtCz hx hb hr hlocks ⟨g, LP, pf, hP, hD, hG⟩ hS rfl (congrArg (fun z => some (z, S)) (Option.some.inj hf)) dX1_hasSet_19
    · have hf := (if_neg c1).symm.trans hf
      refine lv_iconst (v := 1) hx hb dX1_hasSet_14 (by decide) ?_
      refine lv_goto (tgt := 19) hx hb dX1_hasSet_15 (by decide) ?_
      exact rtCz hx hb hr hlocks ⟨g, LP, pf, hP, hD, hG⟩ hS rfl (congrArg (fun z => some (z, S)) (Option.some.inj hf)) dX1_hasSet_19

def f_X1_isNight_3 (S : CS) (p0 : Int32) : Option Int32 :=
  Option.bind (rdI 4 (S.1 5) 3) (fun x1 => (if p0 < x1 then (some 0) else (some 1)))
def rmX1_isNight_3 : Room := { frames := 0, cells := 0, slots := 0, locals := 0 }
abbrev RRX1_isNight_3 : Room := (headSpec wsX1_isNight rmX1_isNight_3).room
theorem in1_X1_isNight_3 : ∀ w ∈ wsX10, w ∈ wsX1_isNight := by decide +kernel
set_option maxHeartbeats 4000000 in
set_option maxRecDepth 100000 in
theorem c_X1_isNight_3 (l : Launch) (dC : Nat → ClassId) (dI : Nat → Nat → Nat) (t : Nat → ClassId) (ts aK aV : Nat → Nat) (A : Nat → Prop) (h : Nat → Nat) (tx : Nat) (sz : Nat) (hA0 : ∀ q : Nat, sz ≤ q → A q) (S : CS) (p0 : Int32) (r : Int32) (hf : f_X1_isNight_3 S p0 = some r) : cCi l yX1_isNight wsX1_isNight rmX1_isNight_3 dC dI t ts aK aV A h tx tx sz [.ref (h 3), .int p0] S r S := by
  refine Met.ofW (cc := cX1_isNight) (maxL := 2) (ret := (some .boolean)) (by decide) rfl ?_
  intro p e s m args below meth c s₁ B hml hv
  obtain ⟨hargs, hsz, hE, hC, hK⟩ := hv
  have hx := B.exec
  have hb := B.bytes
  have hr := B.returns
  have hts := atoms_spec (ws := wsX1_isNight) B.pre
  have hown : s.vm.findClass RX1 = some m.cls := findClass_of_methodNamed B.named
  have hlocks := B.notSynchronized
  have hsz : s.heap.size = sz := hsz
  subst hsz
  have hin1 := in1_X1_isNight_3
  have lk17_1 : Cond.fieldLink RX1 17 (TX1 1).1 (TX1 1).2.1 (TX1 1).2.2.1 ∈ wsX1_isNight := by decide +kernel
  have hA : ∀ q : Nat, s.heap.size ≤ q → A q := hA0
  obtain ⟨g, LP, pf, hP, hD, hG⟩ := hC
  have hS : va_S A s.heap s.heap [] := va_S.rf
  have hl := lv_entry ([.ref (h 3), .int p0]) (n := 2) (Nat.le_of_ble_eq_true rfl)
  rw [show entryFrame m args 2 = entryFrame m ([.ref (h 3), .int p0] : List Value).toArray 2 from by rw [hargs], lg_entry_eq]
  generalize (lg_sl ([.ref (h 3), .int p0]) ++ List.replicate (2 - (lg_sl ([.ref (h 3), .int p0])).length) Slot.unset).toArray = ls at hl ⊢
  have hl : lv_has ls 2 [(0, .ref (h 3)), (1, .int p0)] := hl
  unfold f_X1_isNight_3 at hf
  refine lv_iload_n hx hb dX1_isNight_0 rfl (lv_at hl 1 rfl) ?_
  refine lv_aload_n hx hb dX1_isNight_1 rfl (lv_at hl 0 rfl) ?_
  refine va_get (D := (dC, dI)) (ci := 1) (v := .ref (h 5)) (C := RX1) (T := TX1) (N := 10) hx hb hts hin1 hown hK hP 3 rfl rfl 1 (by decide) (hts _ lk17_1) (fun _ h9 => h9) rfl dX1_isNight_2 ?_
  refine lv_iconst (v := 3) hx hb dX1_isNight_5 (by decide) ?_
  obtain ⟨x1, hix1, ex1, hf⟩ := rd_b hf
  refine va_iald hx hb hK hP 5 0 rfl rfl hix1 dX1_isNight_6 (kI ex1 ?_)
  refine lv_icmp_lt (tgt := 14) hx hb dX1_isNight_7 (by decide) (fun c2 => ?_) (fun c2 => ?_)
  · have hf := (if_pos c2).symm.trans hf
    refine lv_iconst (v := 0) hx hb dX1_isNight_14 (by decide) ?_
    exact rtCz hx hb hr hlocks ⟨g, LP, pf, hP, hD, hG⟩ hS rfl (congrArg (fun z => some (z, S)) (Option.some.inj hf)) dX1_isNight_15
  · have hf := (if_neg c2).symm.trans hf
    refine lv_iconst (v := 1) hx hb dX1_isNight_10 (by decide) ?_
    refine lv_goto (tgt := 15) hx hb dX1_isNight_11 (by decide) ?_
    exact rtCz hx hb hr hlocks ⟨g, LP, pf, hP, hD, hG⟩ hS rfl (congrArg (fun z => some (z, S)) (Option.some.inj hf)) dX1_isNight_15

def f_X6_weightFor (d : PD) (p0 : Int32) (p1 : Int32) : Option Int32 :=
  some (d.1)
def rmX6_weightFor_4 : Room := { frames := 0, cells := 0, slots := 0, locals := 0 }
abbrev RRX6_weightFor_4 : Room := (headSpec wsX6_weightFor rmX6_weightFor_4).room
theorem in4_X6_weightFor_4 : ∀ w ∈ wsX40, w ∈ wsX6_weightFor := by decide +kernel
set_option maxHeartbeats 4000000 in
set_option maxRecDepth 100000 in
theorem c_X6_weightFor_4 (l : Launch) (dC : Nat → ClassId) (dI : Nat → Nat → Nat) (sz : Nat) (a : Nat) (d : PD) (p0 : Int32) (p1 : Int32) (r : Int32) (hf : f_X6_weightFor d p0 p1 = some r) : cXi l yX6_weightFor wsX6_weightFor rmX6_weightFor_4 sz [.ref a, .int p0, .int p1] (fun U => nwC U ∧ va_P (dC, dI) vwCl [(a, .inr (4, pdV d))] U.heap ∧ va_K (dC, dI) vwCl [] U) r := by
  refine Met.ofW (cc := cX6_weightFor) (maxL := 3) (ret := (some .int)) (by decide) rfl ?_
  intro p e s m args below meth c s₁ B hml hv
  obtain ⟨hargs, hsz, hXX⟩ := hv
  have hx := B.exec
  have hb := B.bytes
  have hr := B.returns
  have hts := atoms_spec (ws := wsX6_weightFor) B.pre
  have hown : s.vm.findClass RX6 = some m.cls := findClass_of_methodNamed B.named
  have hlocks := B.notSynchronized
  have hsz : s.heap.size = sz := hsz
  subst hsz
  have hin4 := in4_X6_weightFor_4
  obtain ⟨A, hAe⟩ : ∃ A : Nat → Prop, A = fun q => s.heap.size ≤ q := ⟨_, rfl⟩
  rw [← hAe]
  have hA : ∀ q : Nat, s.heap.size ≤ q → A q := fun q h => by rw [hAe]; exact h
  obtain ⟨hN, hP, hK⟩ := hXX
  have hS : va_S A s.heap s.heap [] := va_S.rf
  have hl := lv_entry ([.ref a, .int p0, .int p1]) (n := 3) (Nat.le_of_ble_eq_true rfl)
  rw [show entryFrame m args 3 = entryFrame m ([.ref a, .int p0, .int p1] : List Value).toArray 3 from by rw [hargs], lg_entry_eq]
  generalize (lg_sl ([.ref a, .int p0, .int p1]) ++ List.replicate (3 - (lg_sl ([.ref a, .int p0, .int p1])).length) Slot.unset).toArray = ls at hl ⊢
  have hl : lv_has ls 3 [(0, .ref a), (1, .int p0), (2, .int p1)] := hl
  unfold f_X6_weightFor at hf
  refine lv_aload_n hx hb dX6_weightFor_0 rfl (lv_at hl 0 rfl) ?_
  refine va_get (D := (dC, dI)) (ci := 4) (v := .int (d.1)) (C := RX4) (T := TX4) (N := 4) hx hb hts hin4 hown hK hP 0 rfl rfl 0 (by decide) (hts (.fieldLink RX6 7 "OnlyTwo$Plain" "weight" "I") (by decide +kernel)) (fun _ h9 => h9) rfl dX6_weightFor_1 ?_
  exact rtEi hx hb hr hlocks hS hf dX6_weightFor_4

def f_X3_weightFor (d : PD) (p0 : Int32) (p1 : Int32) : Option Int32 :=
  (if p0 = 0 then (some (d.1)) else (some ((d.1) + p1)))
def rmX3_weightFor_3 : Room := { frames := 0, cells := 0, slots := 0, locals := 0 }
abbrev RRX3_weightFor_3 : Room := (headSpec wsX3_weightFor rmX3_weightFor_3).room
theorem in3_X3_weightFor_3 : ∀ w ∈ wsX30, w ∈ wsX3_weightFor := by decide +kernel
set_option maxHeartbeats 4000000 in
set_option maxRecDepth 100000 in
theorem c_X3_weightFor_3 (l : Launch) (dC : Nat → ClassId) (dI : Nat → Nat → Nat) (sz : Nat) (a : Nat) (d : PD) (p0 : Int32) (p1 : Int32) (r : Int32) (hf : f_X3_weightFor d p0 p1 = some r) : cXi l yX3_weightFor wsX3_weightFor rmX3_weightFor_3 sz [.ref a, .int p0, .int p1] (fun U => nwC U ∧ va_P (dC, dI) vwCl [(a, .inr (3, pdV d))] U.heap ∧ va_K (dC, dI) vwCl [] U) r := by
  refine Met.ofW (cc := cX3_weightFor) (maxL := 3) (ret := (some .int)) (by decide) rfl ?_
  intro p e s m args below meth c s₁ B hml hv
  obtain ⟨hargs, hsz, hXX⟩ := hv
  have hx := B.exec
  have hb := B.bytes
  have hr := B.returns
  have hts := atoms_spec (ws := wsX3_weightFor) B.pre
  have hown : s.vm.findClass RX3 = some m.cls := findClass_of_methodNamed B.named
  have hlocks := B.notSynchronized
  have hsz : s.heap.size = sz := hsz
  subst hsz
  have hin3 := in3_X3_weightFor_3
  obtain ⟨A, hAe⟩ : ∃ A : Nat → Prop, A = fun q => s.heap.size ≤ q := ⟨_, rfl⟩
  rw [← hAe]
  have hA : ∀ q : Nat, s.heap.size ≤ q → A q := fun q h => by rw [hAe]; exact h
  obtain ⟨hN, hP, hK⟩ := hXX
  have hS : va_S A s.heap s.heap [] := va_S.rf
  have hl := lv_entry ([.ref a, .int p0, .int p1]) (n := 3) (Nat.le_of_ble_eq_true rfl)
  rw [show entryFrame m args 3 = entryFrame m ([.ref a, .int p0, .int p1] : List Value).toArray 3 from by rw [hargs], lg_entry_eq]
  generalize (lg_sl ([.ref a, .int p0, .int p1]) ++ List.replicate (3 - (lg_sl ([.ref a, .int p0, .int p1])).length) Slot.unset).toArray = ls at hl ⊢
  have hl : lv_has ls 3 [(0, .ref a), (1, .int p0), (2, .int p1)] := hl
  unfold f_X3_weightFor at hf
  refine lv_iload_n hx hb dX3_weightFor_0 rfl (lv_at hl 1 rfl) ?_
  refine lv_if_eq (tgt := 13) hx hb dX3_weightFor_1 (by decide) (fun c1 => ?_) (fun c1 => ?_)
  · have hf := (if_pos c1).symm.trans hf
    refine lv_aload_n hx hb dX3_weightFor_13 rfl (lv_at hl 0 rfl) ?_
    refine va_get (D := (dC, dI)) (ci := 3) (v := .int (d.1)) (C := RX3) (T := TX3) (N := 4) hx hb hts hin3 hown hK hP 0 rfl rfl 0 (by decide) (hts (.fieldLink RX3 7 "OnlyTwo$Heavy" "weight" "I") (by decide +kernel)) (u_same (hts (.sameField "OnlyTwo$Heavy" "OnlyTwo$Plain" "weight" "I") (by decide +kernel))) rfl dX3_weightFor_14 ?_
    exact rtEi hx hb hr hlocks hS hf dX3_weightFor_17
  · have hf := (if_neg c1).symm.trans hf
    refine lv_aload_n hx hb dX3_weightFor_4 rfl (lv_at hl 0 rfl) ?_
    refine va_get (D := (dC, dI)) (ci := 3) (v := .int (d.1)) (C := RX3) (T := TX3) (N := 4) hx hb hts hin3 hown hK hP 0 rfl rfl 0 (by decide) (hts (.fieldLink RX3 7 "OnlyTwo$Heavy" "weight" "I") (by decide +kernel)) (u_same (hts (.sameField "OnlyTwo$Heavy" "OnlyTwo$Plain" "weight" "I") (by decide +kernel))) rfl dX3_weightFor_5 ?_
    refine lv_iload_n hx hb dX3_weightFor_8 rfl (lv_at hl 2 rfl) ?_
    refine lv_iadd hx hb dX3_weightFor_9 ?_
    refine lv_goto (tgt := 17) hx hb dX3_weightFor_10 (by decide) ?_
    exact rtEi hx hb hr hlocks hS hf dX3_weightFor_17

def rmX6_weightFor_9 : Room := { frames := 0, cells := 0, slots := 0, locals := 0 }
abbrev RRX6_weightFor_9 : Room := (headSpec wsX6_weightFor rmX6_weightFor_9).room
theorem in9_X6_weightFor_9 : ∀ w ∈ wsX90, w ∈ wsX6_weightFor := by decide +kernel
set_option maxHeartbeats 4000000 in
set_option maxRecDepth 100000 in
theorem c_X6_weightFor_9 (l : Launch) (dC : Nat → ClassId) (dI : Nat → Nat → Nat) (sz : Nat) (a : Nat) (d : PD) (p0 : Int32) (p1 : Int32) (r : Int32) (hf : f_X6_weightFor d p0 p1 = some r) : cXi l yX6_weightFor wsX6_weightFor rmX6_weightFor_9 sz [.ref a, .int p0, .int p1] (fun U => nwC U ∧ va_P (dC, dI) vwCl [(a, .inr (9, pdV d))] U.heap ∧ va_K (dC, dI) vwCl [] U) r := by
  refine Met.ofW (cc := cX6_weightFor) (maxL := 3) (ret := (some .int)) (by decide) rfl ?_
  intro p e s m args below meth c s₁ B hml hv
  obtain ⟨hargs, hsz, hXX⟩ := hv
  have hx := B.exec
  have hb := B.bytes
  have hr := B.returns
  have hts := atoms_spec (ws := wsX6_weightFor) B.pre
  have hown : s.vm.findClass RX6 = some m.cls := findClass_of_methodNamed B.named
  have hlocks := B.notSynchronized
  have hsz : s.heap.size = sz := hsz
  subst hsz
  have hin9 := in9_X6_weightFor_9
  obtain ⟨A, hAe⟩ : ∃ A : Nat → Prop, A = fun q => s.heap.size ≤ q := ⟨_, rfl⟩
  rw [← hAe]
  have hA : ∀ q : Nat, s.heap.size ≤ q → A q := fun q h => by rw [hAe]; exact h
  obtain ⟨hN, hP, hK⟩ := hXX
  have hS : va_S A s.heap s.heap [] := va_S.rf
  have hl := lv_entry ([.ref a, .int p0, .int p1]) (n := 3) (Nat.le_of_ble_eq_true rfl)
  rw [show entryFrame m args 3 = entryFrame m ([.ref a, .int p0, .int p1] : List Value).toArray 3 from by rw [hargs], lg_entry_eq]
  generalize (lg_sl ([.ref a, .int p0, .int p1]) ++ List.replicate (3 - (lg_sl ([.ref a, .int p0, .int p1])).length) Slot.unset).toArray = ls at hl ⊢
  have hl : lv_has ls 3 [(0, .ref a), (1, .int p0), (2, .int p1)] := hl
  unfold f_X6_weightFor at hf
  refine lv_aload_n hx hb dX6_weightFor_0 rfl (lv_at hl 0 rfl) ?_
  refine va_get (D := (dC, dI)) (ci := 9) (v := .int (d.1)) (C := RX9) (T := TX9) (N := 4) hx hb hts hin9 hown hK hP 0 rfl rfl 0 (by decide) (hts (.fieldLink RX6 7 "OnlyTwo$Plain" "weight" "I") (by decide +kernel)) (fun _ h9 => h9) rfl dX6_weightFor_1 ?_
  exact rtEi hx hb hr hlocks hS hf dX6_weightFor_4

def rmX3_weightFor_0 : Room := { frames := 0, cells := 0, slots := 0, locals := 0 }
abbrev RRX3_weightFor_0 : Room := (headSpec wsX3_weightFor rmX3_weightFor_0).room
theorem in0_X3_weightFor_0 : ∀ w ∈ wsX00, w ∈ wsX3_weightFor := by decide +kernel
set_option maxHeartbeats 4000000 in
set_option maxRecDepth 100000 in
theorem c_X3_weightFor_0 (l : Launch) (dC : Nat → ClassId) (dI : Nat → Nat → Nat) (sz : Nat) (a : Nat) (d : PD) (p0 : Int32) (p1 : Int32) (r : Int32) (hf : f_X3_weightFor d p0 p1 = some r) : cXi l yX3_weightFor wsX3_weightFor rmX3_weightFor_0 sz [.ref a, .int p0, .int p1] (fun U => nwC U ∧ va_P (dC, dI) vwCl [(a, .inr (0, pdV d))] U.heap ∧ va_K (dC, dI) vwCl [] U) r := by
  refine Met.ofW (cc := cX3_weightFor) (maxL := 3) (ret := (some .int)) (by decide) rfl ?_
  intro p e s m args below meth c s₁ B hml hv
  obtain ⟨hargs, hsz, hXX⟩ := hv
  have hx := B.exec
  have hb := B.bytes
  have hr := B.returns
  have hts := atoms_spec (ws := wsX3_weightFor) B.pre
  have hown : s.vm.findClass RX3 = some m.cls := findClass_of_methodNamed B.named
  have hlocks := B.notSynchronized
  have hsz : s.heap.size = sz := hsz
  subst hsz
  have hin0 := in0_X3_weightFor_0
  obtain ⟨A, hAe⟩ : ∃ A : Nat → Prop, A = fun q => s.heap.size ≤ q := ⟨_, rfl⟩
  rw [← hAe]
  have hA : ∀ q : Nat, s.heap.size ≤ q → A q := fun q h => by rw [hAe]; exact h
  obtain ⟨hN, hP, hK⟩ := hXX
  have hS : va_S A s.heap s.heap [] := va_S.rf
  have hl := lv_entry ([.ref a, .int p0, .int p1]) (n := 3) (Nat.le_of_ble_eq_true rfl)
  rw [show entryFrame m args 3 = entryFrame m ([.ref a, .int p0, .int p1] : List Value).toArray 3 from by rw [hargs], lg_entry_eq]
  generalize (lg_sl ([.ref a, .int p0, .int p1]) ++ List.replicate (3 - (lg_sl ([.ref a, .int p0, .int p1])).length) Slot.unset).toArray = ls at hl ⊢
  have hl : lv_has ls 3 [(0, .ref a), (1, .int p0), (2, .int p1)] := hl
  unfold f_X3_weightFor at hf
  refine lv_iload_n hx hb dX3_weightFor_0 rfl (lv_at hl 1 rfl) ?_
  refine lv_if_eq (tgt := 13) hx hb dX3_weightFor_1 (by decide) (fun c1 => ?_) (fun c1 => ?_)
  · have hf := (if_pos c1).symm.trans hf
    refine lv_aload_n hx hb dX3_weightFor_13 rfl (lv_at hl 0 rfl) ?_
    refine va_get (D := (dC, dI)) (ci := 0) (v := .int (d.1)) (C := RX0) (T := TX0) (N := 4) hx hb hts hin0 hown hK hP 0 rfl rfl 0 (by decide) (hts (.fieldLink RX3 7 "OnlyTwo$Heavy" "weight" "I") (by decide +kernel)) (u_same (hts (.sameField "OnlyTwo$Heavy" "OnlyTwo$Plain" "weight" "I") (by decide +kernel))) rfl dX3_weightFor_14 ?_
    exact rtEi hx hb hr hlocks hS hf dX3_weightFor_17
  · have hf := (if_neg c1).symm.trans hf
    refine lv_aload_n hx hb dX3_weightFor_4 rfl (lv_at hl 0 rfl) ?_
    refine va_get (D := (dC, dI)) (ci := 0) (v := .int (d.1)) (C := RX0) (T := TX0) (N := 4) hx hb hts hin0 hown hK hP 0 rfl rfl 0 (by decide) (hts (.fieldLink RX3 7 "OnlyTwo$Heavy" "weight" "I") (by decide +kernel)) (u_same (hts (.sameField "OnlyTwo$Heavy" "OnlyTwo$Plain" "weight" "I") (by decide +kernel))) rfl dX3_weightFor_5 ?_
    refine lv_iload_n hx hb dX3_weightFor_8 rfl (lv_at hl 2 rfl) ?_
    refine lv_iadd hx hb dX3_weightFor_9 ?_
    refine lv_goto (tgt := 17) hx hb dX3_weightFor_10 (by decide) ?_
    exact rtEi hx hb hr hlocks hS hf dX3_weightFor_17

def rmX6_weightFor_2 : Room := { frames := 0, cells := 0, slots := 0, locals := 0 }
abbrev RRX6_weightFor_2 : Room := (headSpec wsX6_weightFor rmX6_weightFor_2).room
theorem in2_X6_weightFor_2 : ∀ w ∈ wsX20, w ∈ wsX6_weightFor := by decide +kernel
set_option maxHeartbeats 4000000 in
set_option maxRecDepth 100000 in
theorem c_X6_weightFor_2 (l : Launch) (dC : Nat → ClassId) (dI : Nat → Nat → Nat) (sz : Nat) (a : Nat) (d : PD) (p0 : Int32) (p1 : Int32) (r : Int32) (hf : f_X6_weightFor d p0 p1 = some r) : cXi l yX6_weightFor wsX6_weightFor rmX6_weightFor_2 sz [.ref a, .int p0, .int p1] (fun U => nwC U ∧ va_P (dC, dI) vwCl [(a, .inr (2, pdV d))] U.heap ∧ va_K (dC, dI) vwCl [] U) r := by
  refine Met.ofW (cc := cX6_weightFor) (maxL := 3) (ret := (some .int)) (by decide) rfl ?_
  intro p e s m args below meth c s₁ B hml hv
  obtain ⟨hargs, hsz, hXX⟩ := hv
  have hx := B.exec
  have hb := B.bytes
  have hr := B.returns
  have hts := atoms_spec (ws := wsX6_weightFor) B.pre
  have hown : s.vm.findClass RX6 = some m.cls := findClass_of_methodNamed B.named
  have hlocks := B.notSynchronized
  have hsz : s.heap.size = sz := hsz
  subst hsz
  have hin2 := in2_X6_weightFor_2
  obtain ⟨A, hAe⟩ : ∃ A : Nat → Prop, A = fun q => s.heap.size ≤ q := ⟨_, rfl⟩
  rw [← hAe]
  have hA : ∀ q : Nat, s.heap.size ≤ q → A q := fun q h => by rw [hAe]; exact h
  obtain ⟨hN, hP, hK⟩ := hXX
  have hS : va_S A s.heap s.heap [] := va_S.rf
  have hl := lv_entry ([.ref a, .int p0, .int p1]) (n := 3) (Nat.le_of_ble_eq_true rfl)
  rw [show entryFrame m args 3 = entryFrame m ([.ref a, .int p0, .int p1] : List Value).toArray 3 from by rw [hargs], lg_entry_eq]
  generalize (lg_sl ([.ref a, .int p0, .int p1]) ++ List.replicate (3 - (lg_sl ([.ref a, .int p0, .int p1])).length) Slot.unset).toArray = ls at hl ⊢
  have hl : lv_has ls 3 [(0, .ref a), (1, .int p0), (2, .int p1)] := hl
  unfold f_X6_weightFor at hf
  refine lv_aload_n hx hb dX6_weightFor_0 rfl (lv_at hl 0 rfl) ?_
  refine va_get (D := (dC, dI)) (ci := 2) (v := .int (d.1)) (C := RX2) (T := TX2) (N := 4) hx hb hts hin2 hown hK hP 0 rfl rfl 0 (by decide) (hts (.fieldLink RX6 7 "OnlyTwo$Plain" "weight" "I") (by decide +kernel)) (fun _ h9 => h9) rfl dX6_weightFor_1 ?_
  exact rtEi hx hb hr hlocks hS hf dX6_weightFor_4

def rmX6_weightFor_6 : Room := { frames := 0, cells := 0, slots := 0, locals := 0 }
abbrev RRX6_weightFor_6 : Room := (headSpec wsX6_weightFor rmX6_weightFor_6).room
theorem in6_X6_weightFor_6 : ∀ w ∈ wsX60, w ∈ wsX6_weightFor := by decide +kernel
set_option maxHeartbeats 4000000 in
set_option maxRecDepth 100000 in
theorem c_X6_weightFor_6 (l : Launch) (dC : Nat → ClassId) (dI : Nat → Nat → Nat) (sz : Nat) (a : Nat) (d : PD) (p0 : Int32) (p1 : Int32) (r : Int32) (hf : f_X6_weightFor d p0 p1 = some r) : cXi l yX6_weightFor wsX6_weightFor rmX6_weightFor_6 sz [.ref a, .int p0, .int p1] (fun U => nwC U ∧ va_P (dC, dI) vwCl [(a, .inr (6, pdV d))] U.heap ∧ va_K (dC, dI) vwCl [] U) r := by
  refine Met.ofW (cc := cX6_weightFor) (maxL := 3) (ret := (some .int)) (by decide) rfl ?_
  intro p e s m args below meth c s₁ B hml hv
  obtain ⟨hargs, hsz, hXX⟩ := hv
  have hx := B.exec
  have hb := B.bytes
  have hr := B.returns
  have hts := atoms_spec (ws := wsX6_weightFor) B.pre
  have hown : s.vm.findClass RX6 = some m.cls := findClass_of_methodNamed B.named
  have hlocks := B.notSynchronized
  have hsz : s.heap.size = sz := hsz
  subst hsz
  have hin6 := in6_X6_weightFor_6
  obtain ⟨A, hAe⟩ : ∃ A : Nat → Prop, A = fun q => s.heap.size ≤ q := ⟨_, rfl⟩
  rw [← hAe]
  have hA : ∀ q : Nat, s.heap.size ≤ q → A q := fun q h => by rw [hAe]; exact h
  obtain ⟨hN, hP, hK⟩ := hXX
  have hS : va_S A s.heap s.heap [] := va_S.rf
  have hl := lv_entry ([.ref a, .int p0, .int p1]) (n := 3) (Nat.le_of_ble_eq_true rfl)
  rw [show entryFrame m args 3 = entryFrame m ([.ref a, .int p0, .int p1] : List Value).toArray 3 from by rw [hargs], lg_entry_eq]
  generalize (lg_sl ([.ref a, .int p0, .int p1]) ++ List.replicate (3 - (lg_sl ([.ref a, .int p0, .int p1])).length) Slot.unset).toArray = ls at hl ⊢
  have hl : lv_has ls 3 [(0, .ref a), (1, .int p0), (2, .int p1)] := hl
  unfold f_X6_weightFor at hf
  refine lv_aload_n hx hb dX6_weightFor_0 rfl (lv_at hl 0 rfl) ?_
  refine va_get (D := (dC, dI)) (ci := 6) (v := .int (d.1)) (C := RX6) (T := TX6) (N := 4) hx hb hts hin6 hown hK hP 0 rfl rfl 0 (by decide) (hts (.fieldLink RX6 7 "OnlyTwo$Plain" "weight" "I") (by decide +kernel)) (fun _ h9 => h9) rfl dX6_weightFor_1 ?_
  exact rtEi hx hb hr hlocks hS hf dX6_weightFor_4

def v_weightFor (d : PD) (p0 : Int32) (p1 : Int32) : Option Int32 :=
  if d.2.2.2 = 1 then f_X6_weightFor d p0 p1 else if d.2.2.2 = 2 then f_X3_weightFor d p0 p1 else if d.2.2.2 = 3 then f_X6_weightFor d p0 p1 else if d.2.2.2 = 4 then f_X3_weightFor d p0 p1 else if d.2.2.2 = 5 then f_X6_weightFor d p0 p1 else f_X6_weightFor d p0 p1
set_option maxHeartbeats 4000000 in
set_option maxRecDepth 100000 in
theorem vs_X1_weightOf_62 {p : Program} {l : Launch} {e : Env} {R : Room} {s : State} {m : MethodId} {args : Array Value} {below : List Frame} {meth : Method} {c : Code} {H : Heap} {locs : List Loc} {cells slots : Nat} {Q : State → Prop} {pc : Nat} {ls : Array Slot} {rest As st : List Value} {dC : Nat → ClassId} {dI : Nat → Nat → Nat} {A : Nat → Prop} {nL : Nat} {ws : va_W} {tys : List (ClassId × FieldType)} {a k : Nat} {d : PD} {p0 : Int32} {p1 : Int32} {r : Int32} (F : CallFix p m c cX1_weightOf nL s args wsX1_weightOf RX1) (hN : nwC s) (hK : va_K (dC, dI) vwCl tys s) (hP : va_P (dC, dI) vwCl ws H) (hk : ws[k]? = some (a, pdE d)) (hf : v_weightFor d p0 p1 = some r) (hAs : As = [.int p0, .int p1]) (hsize : ls.size = nL) (hst : st = As.reverse ++ .ref a :: rest) (hW : (rest.map fun v => v.category).sum ≤ 8) (hfr : 1 ≤ R.frames) (hlo : 22 ≤ R.locals) (hdg : decode cX1_weightOf pc = .ok (.invokevirtual 62, 3)) (hS : va_S A s.heap H locs) (hA : ∀ q : Nat, s.heap.size ≤ q → A q)
    (kk : ∀ (H1 : Heap) (locs1 : List Loc), (∀ q : Nat, q < H.size → H1[q]? = H[q]?) → va_S A s.heap H1 locs1 → W p l e R s m args below meth c H1 locs1 cells slots Q (F0 m (pc + 3) ls (.int r :: rest))) (hce : cells ≤ R.cells) (hsl : slots ≤ R.slots) : W p l e R s m args below meth c H locs cells slots Q (F0 m pc ls st) := by
  subst hAs
  have hts := F.2.2.2.2
  unfold v_weightFor at hf
  unfold pdE at hk
  rcases cls_cases d.2.2.2 with q | q | q | q | q | q
  · rw [q.2] at hk
    rw [if_pos q.1] at hf
    have hPa : va_P (dC, dI) vwCl [(a, .inr (4, pdV d))] H := hP.by (fun _ => k) (fun i q9 hq => by match i, hq with | 0, hq => cases hq; exact hk)
    exact klXUi (rest := rest) (As := [.int p0, .int p1]) F (c_X6_weightFor_4 l dC dI H.size a d p0 p1 r hf) (fun _ U g mk q => ⟨q.1.same rfl, q.2.1, va_K.moved (u := U) (U := U.calling g mk _) (Vm.Alike.refl U.vm) q.2.2⟩) (fun U hU hW => ⟨hN.warm hW, by rw [hU]; exact hPa, va_K.moved hW.alike (hK.sub [] rfl)⟩) (va_cwU 2 hts gX1_weightOf_X6_weightFor_u62X4 rfl rfl rfl rfl (by decide +kernel) ⟨Nat.le_trans (Nat.le_of_ble_eq_true rfl) hfr, Nat.le_trans (Nat.le_of_ble_eq_true rfl) hlo⟩) (va_recv (hK.sub (tys' := []) [] rfl) hPa (ci := 4) (q0 := 0) rfl rfl) rfl hsize hst hW hdg ⟨hce, hsl⟩ hS hA kk
  · rw [q.2.2] at hk
    rw [if_neg q.1] at hf
    rw [if_pos q.2.1] at hf
    have hPa : va_P (dC, dI) vwCl [(a, .inr (3, pdV d))] H := hP.by (fun _ => k) (fun i q9 hq => by match i, hq with | 0, hq => cases hq; exact hk)
    exact klXUi (rest := rest) (As := [.int p0, .int p1]) F (c_X3_weightFor_3 l dC dI H.size a d p0 p1 r hf) (fun _ U g mk q => ⟨q.1.same rfl, q.2.1, va_K.moved (u := U) (U := U.calling g mk _) (Vm.Alike.refl U.vm) q.2.2⟩) (fun U hU hW => ⟨hN.warm hW, by rw [hU]; exact hPa, va_K.moved hW.alike (hK.sub [] rfl)⟩) (va_cwO 2 hts gX1_weightOf_X3_weightFor_u62X3 rfl rfl rfl (b0 := cX6_weightFor) (m0 := 3) (r0 := (some .int)) (by decide +kernel) (by decide +kernel) ⟨Nat.le_trans (Nat.le_of_ble_eq_true rfl) hfr, Nat.le_trans (Nat.le_of_ble_eq_true rfl) hlo⟩) (va_recv (hK.sub (tys' := []) [] rfl) hPa (ci := 3) (q0 := 0) rfl rfl) rfl hsize hst hW hdg ⟨hce, hsl⟩ hS hA kk
  · rw [q.2.2.2] at hk
    rw [if_neg q.1] at hf
    rw [if_neg q.2.1] at hf
    rw [if_pos q.2.2.1] at hf
    have hPa : va_P (dC, dI) vwCl [(a, .inr (9, pdV d))] H := hP.by (fun _ => k) (fun i q9 hq => by match i, hq with | 0, hq => cases hq; exact hk)
    exact klXUi (rest := rest) (As := [.int p0, .int p1]) F (c_X6_weightFor_9 l dC dI H.size a d p0 p1 r hf) (fun _ U g mk q => ⟨q.1.same rfl, q.2.1, va_K.moved (u := U) (U := U.calling g mk _) (Vm.Alike.refl U.vm) q.2.2⟩) (fun U hU hW => ⟨hN.warm hW, by rw [hU]; exact hPa, va_K.moved hW.alike (hK.sub [] rfl)⟩) (va_cwU 2 hts gX1_weightOf_X6_weightFor_u62X9 rfl rfl rfl rfl (by decide +kernel) ⟨Nat.le_trans (Nat.le_of_ble_eq_true rfl) hfr, Nat.le_trans (Nat.le_of_ble_eq_true rfl) hlo⟩) (va_recv (hK.sub (tys' := []) [] rfl) hPa (ci := 9) (q0 := 0) rfl rfl) rfl hsize hst hW hdg ⟨hce, hsl⟩ hS hA kk
  · rw [q.2.2.2.2] at hk
    rw [if_neg q.1] at hf
    rw [if_neg q.2.1] at hf
    rw [if_neg q.2.2.1] at hf
    rw [if_pos q.2.2.2.1] at hf
    have hPa : va_P (dC, dI) vwCl [(a, .inr (0, pdV d))] H := hP.by (fun _ => k) (fun i q9 hq => by match i, hq with | 0, hq => cases hq; exact hk)
    exact klXUi (rest := rest) (As := [.int p0, .int p1]) F (c_X3_weightFor_0 l dC dI H.size a d p0 p1 r hf) (fun _ U g mk q => ⟨q.1.same rfl, q.2.1, va_K.moved (u := U) (U := U.calling g mk _) (Vm.Alike.refl U.vm) q.2.2⟩) (fun U hU hW => ⟨hN.warm hW, by rw [hU]; exact hPa, va_K.moved hW.alike (hK.sub [] rfl)⟩) (va_cwO 2 hts gX1_weightOf_X3_weightFor_u62X0 rfl rfl rfl (b0 := cX6_weightFor) (m0 := 3) (r0 := (some .int)) (by decide +kernel) (by decide +kernel) ⟨Nat.le_trans (Nat.le_of_ble_eq_true rfl) hfr, Nat.le_trans (Nat.le_of_ble_eq_true rfl) hlo⟩) (va_recv (hK.sub (tys' := []) [] rfl) hPa (ci := 0) (q0 := 0) rfl rfl) rfl hsize hst hW hdg ⟨hce, hsl⟩ hS hA kk
  · rw [q.2.2.2.2.2] at hk
    rw [if_neg q.1] at hf
    rw [if_neg q.2.1] at hf
    rw [if_neg q.2.2.1] at hf
    rw [if_neg q.2.2.2.1] at hf
    rw [if_pos q.2.2.2.2.1] at hf
    have hPa : va_P (dC, dI) vwCl [(a, .inr (2, pdV d))] H := hP.by (fun _ => k) (fun i q9 hq => by match i, hq with | 0, hq => cases hq; exact hk)
    exact klXUi (rest := rest) (As := [.int p0, .int p1]) F (c_X6_weightFor_2 l dC dI H.size a d p0 p1 r hf) (fun _ U g mk q => ⟨q.1.same rfl, q.2.1, va_K.moved (u := U) (U := U.calling g mk _) (Vm.Alike.refl U.vm) q.2.2⟩) (fun U hU hW => ⟨hN.warm hW, by rw [hU]; exact hPa, va_K.moved hW.alike (hK.sub [] rfl)⟩) (va_cwU 2 hts gX1_weightOf_X6_weightFor_u62X2 rfl rfl rfl rfl (by decide +kernel) ⟨Nat.le_trans (Nat.le_of_ble_eq_true rfl) hfr, Nat.le_trans (Nat.le_of_ble_eq_true rfl) hlo⟩) (va_recv (hK.sub (tys' := []) [] rfl) hPa (ci := 2) (q0 := 0) rfl rfl) rfl hsize hst hW hdg ⟨hce, hsl⟩ hS hA kk
  · rw [q.2.2.2.2.2] at hk
    rw [if_neg q.1] at hf
    rw [if_neg q.2.1] at hf
    rw [if_neg q.2.2.1] at hf
    rw [if_neg q.2.2.2.1] at hf
    rw [if_neg q.2.2.2.2.1] at hf
    have hPa : va_P (dC, dI) vwCl [(a, .inr (6, pdV d))] H := hP.by (fun _ => k) (fun i q9 hq => by match i, hq with | 0, hq => cases hq; exact hk)
    exact klXVi (rest := rest) (As := [.int p0, .int p1]) F (c_X6_weightFor_6 l dC dI H.size a d p0 p1 r hf) (fun _ U g mk q => ⟨q.1.same rfl, q.2.1, va_K.moved (u := U) (U := U.calling g mk _) (Vm.Alike.refl U.vm) q.2.2⟩) (fun U hU hW => ⟨hN.warm hW, by rw [hU]; exact hPa, va_K.moved hW.alike (hK.sub [] rfl)⟩) (cwV 2 hts gX1_weightOf_X6_weightFor rfl rfl rfl (by decide +kernel) ⟨Nat.le_trans (Nat.le_of_ble_eq_true rfl) hfr, Nat.le_trans (Nat.le_of_ble_eq_true rfl) hlo⟩) (va_recv (hK.sub (tys' := []) [] rfl) hPa (ci := 6) (q0 := 0) rfl rfl) rfl hsize hst hW hdg ⟨hce, hsl⟩ hS hA kk

def f_X1_weightOf_3 (S : CS) (p0 : Int32) (p1 : Int32) : Option Int32 :=
  Option.bind (rdP (S.2.2 0) p0) (fun d1 => Option.bind (rdI 4 (S.1 5) 1) (fun x2 => (if p1 < x2 then (Option.bind (rdI 4 (S.1 5) 2) (fun x3 => Option.bind (v_weightFor d1 0 x3) (fun r4 => some r4))) else (Option.bind (rdI 4 (S.1 5) 2) (fun x5 => Option.bind (v_weightFor d1 1 x5) (fun r6 => some r6))))))
def rmX1_weightOf_3 : Room := { frames := 1, cells := 0, slots := 0, locals := 22 }
abbrev RRX1_weightOf_3 : Room := (headSpec wsX1_weightOf rmX1_weightOf_3).room
theorem in1_X1_weightOf_3 : ∀ w ∈ wsX10, w ∈ wsX1_weightOf := by decide +kernel
set_option maxHeartbeats 4000000 in
set_option maxRecDepth 100000 in
theorem c_X1_weightOf_3 (l : Launch) (dC : Nat → ClassId) (dI : Nat → Nat → Nat) (t : Nat → ClassId) (ts aK aV : Nat → Nat) (A : Nat → Prop) (h : Nat → Nat) (tx : Nat) (sz : Nat) (hA0 : ∀ q : Nat, sz ≤ q → A q) (S : CS) (p0 : Int32) (p1 : Int32) (r : Int32) (hf : f_X1_weightOf_3 S p0 p1 = some r) : cCi l yX1_weightOf wsX1_weightOf rmX1_weightOf_3 dC dI t ts aK aV A h tx tx sz [.ref (h 3), .int p0, .int p1] S r S := by
  refine Met.ofW (cc := cX1_weightOf) (maxL := 3) (ret := (some .int)) (by decide) rfl ?_
  intro p e s m args below meth c s₁ B hml hv
  obtain ⟨hargs, hsz, hE, hC, hK⟩ := hv
  have hx := B.exec
  have hb := B.bytes
  have hr := B.returns
  have hts := atoms_spec (ws := wsX1_weightOf) B.pre
  have hown : s.vm.findClass RX1 = some m.cls := findClass_of_methodNamed B.named
  have hlocks := B.notSynchronized
  have hsz : s.heap.size = sz := hsz
  subst hsz
  have hin1 := in1_X1_weightOf_3
  have lk11_1 : Cond.fieldLink RX1 11 (TX1 0).1 (TX1 0).2.1 (TX1 0).2.2.1 ∈ wsX1_weightOf := by decide +kernel
  have lk17_1 : Cond.fieldLink RX1 17 (TX1 1).1 (TX1 1).2.1 (TX1 1).2.2.1 ∈ wsX1_weightOf := by decide +kernel
  have hA : ∀ q : Nat, s.heap.size ≤ q → A q := hA0
  obtain ⟨g, LP, pf, hP, hD, hG⟩ := hC
  have hS : va_S A s.heap s.heap [] := va_S.rf
  have hl := lv_entry ([.ref (h 3), .int p0, .int p1]) (n := 3) (Nat.le_of_ble_eq_true rfl)
  rw [show entryFrame m args 3 = entryFrame m ([.ref (h 3), .int p0, .int p1] : List Value).toArray 3 from by rw [hargs], lg_entry_eq]
  generalize (lg_sl ([.ref (h 3), .int p0, .int p1]) ++ List.replicate (3 - (lg_sl ([.ref (h 3), .int p0, .int p1])).length) Slot.unset).toArray = ls at hl ⊢
  have hl : lv_has ls 3 [(0, .ref (h 3)), (1, .int p0), (2, .int p1)] := hl
  unfold f_X1_weightOf_3 at hf
  refine lv_aload_n hx hb dX1_weightOf_0 rfl (lv_at hl 0 rfl) ?_
  refine va_get (D := (dC, dI)) (ci := 1) (v := .ref (h 4)) (C := RX1) (T := TX1) (N := 10) hx hb hts hin1 hown hK hP 3 rfl rfl 0 (by decide) (hts _ lk11_1) (fun _ h9 => h9) rfl dX1_weightOf_1 ?_
  refine lv_iload_n hx hb dX1_weightOf_4 rfl (lv_at hl 1 rfl) ?_
  obtain ⟨d1, hid1, ed1, hf⟩ := rdP_b hf
  obtain ⟨ad1, gad1, lad1, pad1⟩ := hG 0 (by decide) _ (in_lt hid1)
  rw [← ed1] at pad1
  obtain ⟨kd1, hkd1⟩ := va_pl_get (X := wC t h tx g S) (f := pf) lad1
  rw [pad1] at hkd1
  refine va_aldq hx hb hK hP 4 4 rfl rfl hid1 dX1_weightOf_5 (kR gad1 ?_)
  refine lv_iload_n hx hb dX1_weightOf_6 rfl (lv_at hl 2 rfl) ?_
  refine lv_aload_n hx hb dX1_weightOf_7 rfl (lv_at hl 0 rfl) ?_
  refine va_get (D := (dC, dI)) (ci := 1) (v := .ref (h 5)) (C := RX1) (T := TX1) (N := 10) hx hb hts hin1 hown hK hP 3 rfl rfl 1 (by decide) (hts _ lk17_1) (fun _ h9 => h9) rfl dX1_weightOf_8 ?_
  refine lv_iconst (v := 1) hx hb dX1_weightOf_11 (by decide) ?_
  obtain ⟨x2, hix2, ex2, hf⟩ := rd_b hf
  refine va_iald hx hb hK hP 5 0 rfl rfl hix2 dX1_weightOf_12 (kI ex2 ?_)
  refine lv_icmp_lt (tgt := 20) hx hb dX1_weightOf_13 (by decide) (fun c7 => ?_) (fun c7 => ?_)
  · have hf := (if_pos c7).symm.trans hf
    refine lv_iconst (v := 0) hx hb dX1_weightOf_20 (by decide) ?_
    refine lv_aload_n hx hb dX1_weightOf_21 rfl (lv_at hl 0 rfl) ?_
    refine va_get (D := (dC, dI)) (ci := 1) (v := .ref (h 5)) (C := RX1) (T := TX1) (N := 10) hx hb hts hin1 hown hK hP 3 rfl rfl 1 (by decide) (hts _ lk17_1) (fun _ h9 => h9) rfl dX1_weightOf_22 ?_
    refine lv_iconst (v := 2) hx hb dX1_weightOf_25 (by decide) ?_
    obtain ⟨x3, hix3, ex3, hf⟩ := rd_b hf
    refine va_iald hx hb hK hP 5 0 rfl rfl hix3 dX1_weightOf_26 (kI ex3 ?_)
    obtain ⟨r4, er4, hf⟩ := bd hf
    refine vs_X1_weightOf_62 (rest := []) (As := [.int 0, .int x3]) ⟨hx, hb, hml, hown, hts⟩ hE.1 hK hP hkd1 er4 rfl hl.1 rfl (Nat.le_of_ble_eq_true rfl) (Nat.le_of_ble_eq_true rfl) (Nat.le_of_ble_eq_true rfl) dX1_weightOf_27 hS hA (fun H2 locs hk2 hS => ?_) (Nat.zero_le _) (Nat.zero_le _)
    have hP := kpP hP hk2
    generalize H2 = H at hP hS ⊢
    exact rtCi hx hb hr hlocks ⟨g, LP, pf, hP, hD, hG⟩ hS (congrArg (fun z => some (z, S)) (Option.some.inj hf)) dX1_weightOf_30
  · have hf := (if_neg c7).symm.trans hf
    refine lv_iconst (v := 1) hx hb dX1_weightOf_16 (by decide) ?_
    refine lv_goto (tgt := 21) hx hb dX1_weightOf_17 (by decide) ?_
    refine lv_aload_n hx hb dX1_weightOf_21 rfl (lv_at hl 0 rfl) ?_
    refine va_get (D := (dC, dI)) (ci := 1) (v := .ref (h 5)) (C := RX1) (T := TX1) (N := 10) hx hb hts hin1 hown hK hP 3 rfl rfl 1 (by decide) (hts _ lk17_1) (fun _ h9 => h9) rfl dX1_weightOf_22 ?_
    refine lv_iconst (v := 2) hx hb dX1_weightOf_25 (by decide) ?_
    obtain ⟨x5, hix5, ex5, hf⟩ := rd_b hf
    refine va_iald hx hb hK hP 5 0 rfl rfl hix5 dX1_weightOf_26 (kI ex5 ?_)
    obtain ⟨r6, er6, hf⟩ := bd hf
    refine vs_X1_weightOf_62 (rest := []) (As := [.int 1, .int x5]) ⟨hx, hb, hml, hown, hts⟩ hE.1 hK hP hkd1 er6 rfl hl.1 rfl (Nat.le_of_ble_eq_true rfl) (Nat.le_of_ble_eq_true rfl) (Nat.le_of_ble_eq_true rfl) dX1_weightOf_27 hS hA (fun H2 locs hk2 hS => ?_) (Nat.zero_le _) (Nat.zero_le _)
    have hP := kpP hP hk2
    generalize H2 = H at hP hS ⊢
    exact rtCi hx hb hr hlocks ⟨g, LP, pf, hP, hD, hG⟩ hS (congrArg (fun z => some (z, S)) (Option.some.inj hf)) dX1_weightOf_30

def f_X10_hasPorterIn (p0 : Int32) (p1 : Int32) : Option Int32 :=
  (if ((p0 >>> (p1 &&& 31)) &&& 1) = 0 then (some 0) else (some 1))
def rmX10_hasPorterIn : Room := { frames := 0, cells := 0, slots := 0, locals := 0 }
abbrev RRX10_hasPorterIn : Room := (headSpec wsX10_hasPorterIn rmX10_hasPorterIn).room
set_option maxHeartbeats 4000000 in
set_option maxRecDepth 100000 in
theorem c_X10_hasPorterIn (l : Launch) (sz : Nat) (p0 : Int32) (p1 : Int32) (r : Int32) (hf : f_X10_hasPorterIn p0 p1 = some r) : cXi l yX10_hasPorterIn wsX10_hasPorterIn rmX10_hasPorterIn sz [.int p0, .int p1] (fun _ => True) r := by
  refine Met.ofW (cc := cX10_hasPorterIn) (maxL := 2) (ret := (some .boolean)) (by decide) rfl ?_
  intro p e s m args below meth c s₁ B hml hv
  obtain ⟨hargs, hsz, hXX⟩ := hv
  have hx := B.exec
  have hb := B.bytes
  have hr := B.returns
  have hts := atoms_spec (ws := wsX10_hasPorterIn) B.pre
  have hown : s.vm.findClass RX10 = some m.cls := findClass_of_methodNamed B.named
  have hlocks := B.notSynchronized
  have hsz : s.heap.size = sz := hsz
  subst hsz
  obtain ⟨A, hAe⟩ : ∃ A : Nat → Prop, A = fun q => s.heap.size ≤ q := ⟨_, rfl⟩
  rw [← hAe]
  have hA : ∀ q : Nat, s.heap.size ≤ q → A q := fun q h => by rw [hAe]; exact h
  have hS : va_S A s.heap s.heap [] := va_S.rf
  have hl := lv_entry ([.int p0, .int p1]) (n := 2) (Nat.le_of_ble_eq_true rfl)
  rw [show entryFrame m args 2 = entryFrame m ([.int p0, .int p1] : List Value).toArray 2 from by rw [hargs], lg_entry_eq]
  generalize (lg_sl ([.int p0, .int p1]) ++ List.replicate (2 - (lg_sl ([.int p0, .int p1])).length) Slot.unset).toArray = ls at hl ⊢
  have hl : lv_has ls 2 [(0, .int p0), (1, .int p1)] := hl
  unfold f_X10_hasPorterIn at hf
  refine lv_iload_n hx hb dX10_hasPorterIn_0 rfl (lv_at hl 0 rfl) ?_
  refine lv_iload_n hx hb dX10_hasPorterIn_1 rfl (lv_at hl 1 rfl) ?_
  refine lv_ishr hx hb dX10_hasPorterIn_2 ?_
  refine lv_iconst (v := 1) hx hb dX10_hasPorterIn_3 (by decide) ?_
  refine lv_iand hx hb dX10_hasPorterIn_4 ?_
  refine lv_if_eq (tgt := 12) hx hb dX10_hasPorterIn_5 (by decide) (fun c1 => ?_) (fun c1 => ?_)
  · have hf := (if_pos c1).symm.trans hf
    refine lv_iconst (v := 0) hx hb dX10_hasPorterIn_12 (by decide) ?_
    exact rtEz hx hb hr hlocks hS rfl hf dX10_hasPorterIn_13
  · have hf := (if_neg c1).symm.trans hf
    refine lv_iconst (v := 1) hx hb dX10_hasPorterIn_8 (by decide) ?_
    refine lv_goto (tgt := 13) hx hb dX10_hasPorterIn_9 (by decide) ?_
    exact rtEz hx hb hr hlocks hS rfl hf dX10_hasPorterIn_13

def f_X4_minutes (d : PD)  : Option Int32 :=
  some (2 * (d.2.1))
def rmX4_minutes_4 : Room := { frames := 0, cells := 0, slots := 0, locals := 0 }
abbrev RRX4_minutes_4 : Room := (headSpec wsX4_minutes rmX4_minutes_4).room
theorem in4_X4_minutes_4 : ∀ w ∈ wsX40, w ∈ wsX4_minutes := by decide +kernel
set_option maxHeartbeats 4000000 in
set_option maxRecDepth 100000 in
theorem c_X4_minutes_4 (l : Launch) (dC : Nat → ClassId) (dI : Nat → Nat → Nat) (sz : Nat) (a : Nat) (d : PD)  (r : Int32) (hf : f_X4_minutes d = some r) : cXi l yX4_minutes wsX4_minutes rmX4_minutes_4 sz [.ref a] (fun U => nwC U ∧ va_P (dC, dI) vwCl [(a, .inr (4, pdV d))] U.heap ∧ va_K (dC, dI) vwCl [] U) r := by
  refine Met.ofW (cc := cX4_minutes) (maxL := 1) (ret := (some .int)) (by decide) rfl ?_
  intro p e s m args below meth c s₁ B hml hv
  obtain ⟨hargs, hsz, hXX⟩ := hv
  have hx := B.exec
  have hb := B.bytes
  have hr := B.returns
  have hts := atoms_spec (ws := wsX4_minutes) B.pre
  have hown : s.vm.findClass RX4 = some m.cls := findClass_of_methodNamed B.named
  have hlocks := B.notSynchronized
  have hsz : s.heap.size = sz := hsz
  subst hsz
  have hin4 := in4_X4_minutes_4
  obtain ⟨A, hAe⟩ : ∃ A : Nat → Prop, A = fun q => s.heap.size ≤ q := ⟨_, rfl⟩
  rw [← hAe]
  have hA : ∀ q : Nat, s.heap.size ≤ q → A q := fun q h => by rw [hAe]; exact h
  obtain ⟨hN, hP, hK⟩ := hXX
  have hS : va_S A s.heap s.heap [] := va_S.rf
  have hl := lv_entry ([.ref a]) (n := 1) (Nat.le_of_ble_eq_true rfl)
  rw [show entryFrame m args 1 = entryFrame m ([.ref a] : List Value).toArray 1 from by rw [hargs], lg_entry_eq]
  generalize (lg_sl ([.ref a]) ++ List.replicate (1 - (lg_sl ([.ref a])).length) Slot.unset).toArray = ls at hl ⊢
  have hl : lv_has ls 1 [(0, .ref a)] := hl
  unfold f_X4_minutes at hf
  refine lv_iconst (v := 2) hx hb dX4_minutes_0 (by decide) ?_
  refine lv_aload_n hx hb dX4_minutes_1 rfl (lv_at hl 0 rfl) ?_
  refine va_get (D := (dC, dI)) (ci := 4) (v := .int (d.2.1)) (C := RX4) (T := TX4) (N := 4) hx hb hts hin4 hown hK hP 0 rfl rfl 1 (by decide) (hts (.fieldLink RX4 7 "OnlyTwo$Lame" "time" "I") (by decide +kernel)) (u_same (hts (.sameField "OnlyTwo$Lame" "OnlyTwo$Plain" "time" "I") (by decide +kernel))) rfl dX4_minutes_2 ?_
  refine lv_imul hx hb dX4_minutes_5 ?_
  exact rtEi hx hb hr hlocks hS hf dX4_minutes_6

def f_X6_minutes (d : PD)  : Option Int32 :=
  some (d.2.1)
def rmX6_minutes_3 : Room := { frames := 0, cells := 0, slots := 0, locals := 0 }
abbrev RRX6_minutes_3 : Room := (headSpec wsX6_minutes rmX6_minutes_3).room
theorem in3_X6_minutes_3 : ∀ w ∈ wsX30, w ∈ wsX6_minutes := by decide +kernel
set_option maxHeartbeats 4000000 in
set_option maxRecDepth 100000 in
theorem c_X6_minutes_3 (l : Launch) (dC : Nat → ClassId) (dI : Nat → Nat → Nat) (sz : Nat) (a : Nat) (d : PD)  (r : Int32) (hf : f_X6_minutes d = some r) : cXi l yX6_minutes wsX6_minutes rmX6_minutes_3 sz [.ref a] (fun U => nwC U ∧ va_P (dC, dI) vwCl [(a, .inr (3, pdV d))] U.heap ∧ va_K (dC, dI) vwCl [] U) r := by
  refine Met.ofW (cc := cX6_minutes) (maxL := 1) (ret := (some .int)) (by decide) rfl ?_
  intro p e s m args below meth c s₁ B hml hv
  obtain ⟨hargs, hsz, hXX⟩ := hv
  have hx := B.exec
  have hb := B.bytes
  have hr := B.returns
  have hts := atoms_spec (ws := wsX6_minutes) B.pre
  have hown : s.vm.findClass RX6 = some m.cls := findClass_of_methodNamed B.named
  have hlocks := B.notSynchronized
  have hsz : s.heap.size = sz := hsz
  subst hsz
  have hin3 := in3_X6_minutes_3
  obtain ⟨A, hAe⟩ : ∃ A : Nat → Prop, A = fun q => s.heap.size ≤ q := ⟨_, rfl⟩
  rw [← hAe]
  have hA : ∀ q : Nat, s.heap.size ≤ q → A q := fun q h => by rw [hAe]; exact h
  obtain ⟨hN, hP, hK⟩ := hXX
  have hS : va_S A s.heap s.heap [] := va_S.rf
  have hl := lv_entry ([.ref a]) (n := 1) (Nat.le_of_ble_eq_true rfl)
  rw [show entryFrame m args 1 = entryFrame m ([.ref a] : List Value).toArray 1 from by rw [hargs], lg_entry_eq]
  generalize (lg_sl ([.ref a]) ++ List.replicate (1 - (lg_sl ([.ref a])).length) Slot.unset).toArray = ls at hl ⊢
  have hl : lv_has ls 1 [(0, .ref a)] := hl
  unfold f_X6_minutes at hf
  refine lv_aload_n hx hb dX6_minutes_0 rfl (lv_at hl 0 rfl) ?_
  refine va_get (D := (dC, dI)) (ci := 3) (v := .int (d.2.1)) (C := RX3) (T := TX3) (N := 4) hx hb hts hin3 hown hK hP 0 rfl rfl 1 (by decide) (hts (.fieldLink RX6 13 "OnlyTwo$Plain" "time" "I") (by decide +kernel)) (fun _ h9 => h9) rfl dX6_minutes_1 ?_
  exact rtEi hx hb hr hlocks hS hf dX6_minutes_4

def rmX4_minutes_9 : Room := { frames := 0, cells := 0, slots := 0, locals := 0 }
abbrev RRX4_minutes_9 : Room := (headSpec wsX4_minutes rmX4_minutes_9).room
theorem in9_X4_minutes_9 : ∀ w ∈ wsX90, w ∈ wsX4_minutes := by decide +kernel
set_option maxHeartbeats 4000000 in
set_option maxRecDepth 100000 in
theorem c_X4_minutes_9 (l : Launch) (dC : Nat → ClassId) (dI : Nat → Nat → Nat) (sz : Nat) (a : Nat) (d : PD)  (r : Int32) (hf : f_X4_minutes d = some r) : cXi l yX4_minutes wsX4_minutes rmX4_minutes_9 sz [.ref a] (fun U => nwC U ∧ va_P (dC, dI) vwCl [(a, .inr (9, pdV d))] U.heap ∧ va_K (dC, dI) vwCl [] U) r := by
  refine Met.ofW (cc := cX4_minutes) (maxL := 1) (ret := (some .int)) (by decide) rfl ?_
  intro p e s m args below meth c s₁ B hml hv
  obtain ⟨hargs, hsz, hXX⟩ := hv
  have hx := B.exec
  have hb := B.bytes
  have hr := B.returns
  have hts := atoms_spec (ws := wsX4_minutes) B.pre
  have hown : s.vm.findClass RX4 = some m.cls := findClass_of_methodNamed B.named
  have hlocks := B.notSynchronized
  have hsz : s.heap.size = sz := hsz
  subst hsz
  have hin9 := in9_X4_minutes_9
  obtain ⟨A, hAe⟩ : ∃ A : Nat → Prop, A = fun q => s.heap.size ≤ q := ⟨_, rfl⟩
  rw [← hAe]
  have hA : ∀ q : Nat, s.heap.size ≤ q → A q := fun q h => by rw [hAe]; exact h
  obtain ⟨hN, hP, hK⟩ := hXX
  have hS : va_S A s.heap s.heap [] := va_S.rf
  have hl := lv_entry ([.ref a]) (n := 1) (Nat.le_of_ble_eq_true rfl)
  rw [show entryFrame m args 1 = entryFrame m ([.ref a] : List Value).toArray 1 from by rw [hargs], lg_entry_eq]
  generalize (lg_sl ([.ref a]) ++ List.replicate (1 - (lg_sl ([.ref a])).length) Slot.unset).toArray = ls at hl ⊢
  have hl : lv_has ls 1 [(0, .ref a)] := hl
  unfold f_X4_minutes at hf
  refine lv_iconst (v := 2) hx hb dX4_minutes_0 (by decide) ?_
  refine lv_aload_n hx hb dX4_minutes_1 rfl (lv_at hl 0 rfl) ?_
  refine va_get (D := (dC, dI)) (ci := 9) (v := .int (d.2.1)) (C := RX9) (T := TX9) (N := 4) hx hb hts hin9 hown hK hP 0 rfl rfl 1 (by decide) (hts (.fieldLink RX4 7 "OnlyTwo$Lame" "time" "I") (by decide +kernel)) (u_same (hts (.sameField "OnlyTwo$Lame" "OnlyTwo$Plain" "time" "I") (by decide +kernel))) rfl dX4_minutes_2 ?_
  refine lv_imul hx hb dX4_minutes_5 ?_
  exact rtEi hx hb hr hlocks hS hf dX4_minutes_6

def rmX6_minutes_0 : Room := { frames := 0, cells := 0, slots := 0, locals := 0 }
abbrev RRX6_minutes_0 : Room := (headSpec wsX6_minutes rmX6_minutes_0).room
theorem in0_X6_minutes_0 : ∀ w ∈ wsX00, w ∈ wsX6_minutes := by decide +kernel
set_option maxHeartbeats 4000000 in
set_option maxRecDepth 100000 in
theorem c_X6_minutes_0 (l : Launch) (dC : Nat → ClassId) (dI : Nat → Nat → Nat) (sz : Nat) (a : Nat) (d : PD)  (r : Int32) (hf : f_X6_minutes d = some r) : cXi l yX6_minutes wsX6_minutes rmX6_minutes_0 sz [.ref a] (fun U => nwC U ∧ va_P (dC, dI) vwCl [(a, .inr (0, pdV d))] U.heap ∧ va_K (dC, dI) vwCl [] U) r := by
  refine Met.ofW (cc := cX6_minutes) (maxL := 1) (ret := (some .int)) (by decide) rfl ?_
  intro p e s m args below meth c s₁ B hml hv
  obtain ⟨hargs, hsz, hXX⟩ := hv
  have hx := B.exec
  have hb := B.bytes
  have hr := B.returns
  have hts := atoms_spec (ws := wsX6_minutes) B.pre
  have hown : s.vm.findClass RX6 = some m.cls := findClass_of_methodNamed B.named
  have hlocks := B.notSynchronized
  have hsz : s.heap.size = sz := hsz
  subst hsz
  have hin0 := in0_X6_minutes_0
  obtain ⟨A, hAe⟩ : ∃ A : Nat → Prop, A = fun q => s.heap.size ≤ q := ⟨_, rfl⟩
  rw [← hAe]
  have hA : ∀ q : Nat, s.heap.size ≤ q → A q := fun q h => by rw [hAe]; exact h
  obtain ⟨hN, hP, hK⟩ := hXX
  have hS : va_S A s.heap s.heap [] := va_S.rf
  have hl := lv_entry ([.ref a]) (n := 1) (Nat.le_of_ble_eq_true rfl)
  rw [show entryFrame m args 1 = entryFrame m ([.ref a] : List Value).toArray 1 from by rw [hargs], lg_entry_eq]
  generalize (lg_sl ([.ref a]) ++ List.replicate (1 - (lg_sl ([.ref a])).length) Slot.unset).toArray = ls at hl ⊢
  have hl : lv_has ls 1 [(0, .ref a)] := hl
  unfold f_X6_minutes at hf
  refine lv_aload_n hx hb dX6_minutes_0 rfl (lv_at hl 0 rfl) ?_
  refine va_get (D := (dC, dI)) (ci := 0) (v := .int (d.2.1)) (C := RX0) (T := TX0) (N := 4) hx hb hts hin0 hown hK hP 0 rfl rfl 1 (by decide) (hts (.fieldLink RX6 13 "OnlyTwo$Plain" "time" "I") (by decide +kernel)) (fun _ h9 => h9) rfl dX6_minutes_1 ?_
  exact rtEi hx hb hr hlocks hS hf dX6_minutes_4

def rmX6_minutes_2 : Room := { frames := 0, cells := 0, slots := 0, locals := 0 }
abbrev RRX6_minutes_2 : Room := (headSpec wsX6_minutes rmX6_minutes_2).room
theorem in2_X6_minutes_2 : ∀ w ∈ wsX20, w ∈ wsX6_minutes := by decide +kernel
set_option maxHeartbeats 4000000 in
set_option maxRecDepth 100000 in
theorem c_X6_minutes_2 (l : Launch) (dC : Nat → ClassId) (dI : Nat → Nat → Nat) (sz : Nat) (a : Nat) (d : PD)  (r : Int32) (hf : f_X6_minutes d = some r) : cXi l yX6_minutes wsX6_minutes rmX6_minutes_2 sz [.ref a] (fun U => nwC U ∧ va_P (dC, dI) vwCl [(a, .inr (2, pdV d))] U.heap ∧ va_K (dC, dI) vwCl [] U) r := by
  refine Met.ofW (cc := cX6_minutes) (maxL := 1) (ret := (some .int)) (by decide) rfl ?_
  intro p e s m args below meth c s₁ B hml hv
  obtain ⟨hargs, hsz, hXX⟩ := hv
  have hx := B.exec
  have hb := B.bytes
  have hr := B.returns
  have hts := atoms_spec (ws := wsX6_minutes) B.pre
  have hown : s.vm.findClass RX6 = some m.cls := findClass_of_methodNamed B.named
  have hlocks := B.notSynchronized
  have hsz : s.heap.size = sz := hsz
  subst hsz
  have hin2 := in2_X6_minutes_2
  obtain ⟨A, hAe⟩ : ∃ A : Nat → Prop, A = fun q => s.heap.size ≤ q := ⟨_, rfl⟩
  rw [← hAe]
  have hA : ∀ q : Nat, s.heap.size ≤ q → A q := fun q h => by rw [hAe]; exact h
  obtain ⟨hN, hP, hK⟩ := hXX
  have hS : va_S A s.heap s.heap [] := va_S.rf
  have hl := lv_entry ([.ref a]) (n := 1) (Nat.le_of_ble_eq_true rfl)
  rw [show entryFrame m args 1 = entryFrame m ([.ref a] : List Value).toArray 1 from by rw [hargs], lg_entry_eq]
  generalize (lg_sl ([.ref a]) ++ List.replicate (1 - (lg_sl ([.ref a])).length) Slot.unset).toArray = ls at hl ⊢
  have hl : lv_has ls 1 [(0, .ref a)] := hl
  unfold f_X6_minutes at hf
  refine lv_aload_n hx hb dX6_minutes_0 rfl (lv_at hl 0 rfl) ?_
  refine va_get (D := (dC, dI)) (ci := 2) (v := .int (d.2.1)) (C := RX2) (T := TX2) (N := 4) hx hb hts hin2 hown hK hP 0 rfl rfl 1 (by decide) (hts (.fieldLink RX6 13 "OnlyTwo$Plain" "time" "I") (by decide +kernel)) (fun _ h9 => h9) rfl dX6_minutes_1 ?_
  exact rtEi hx hb hr hlocks hS hf dX6_minutes_4

def rmX6_minutes_6 : Room := { frames := 0, cells := 0, slots := 0, locals := 0 }
abbrev RRX6_minutes_6 : Room := (headSpec wsX6_minutes rmX6_minutes_6).room
theorem in6_X6_minutes_6 : ∀ w ∈ wsX60, w ∈ wsX6_minutes := by decide +kernel
set_option maxHeartbeats 4000000 in
set_option maxRecDepth 100000 in
theorem c_X6_minutes_6 (l : Launch) (dC : Nat → ClassId) (dI : Nat → Nat → Nat) (sz : Nat) (a : Nat) (d : PD)  (r : Int32) (hf : f_X6_minutes d = some r) : cXi l yX6_minutes wsX6_minutes rmX6_minutes_6 sz [.ref a] (fun U => nwC U ∧ va_P (dC, dI) vwCl [(a, .inr (6, pdV d))] U.heap ∧ va_K (dC, dI) vwCl [] U) r := by
  refine Met.ofW (cc := cX6_minutes) (maxL := 1) (ret := (some .int)) (by decide) rfl ?_
  intro p e s m args below meth c s₁ B hml hv
  obtain ⟨hargs, hsz, hXX⟩ := hv
  have hx := B.exec
  have hb := B.bytes
  have hr := B.returns
  have hts := atoms_spec (ws := wsX6_minutes) B.pre
  have hown : s.vm.findClass RX6 = some m.cls := findClass_of_methodNamed B.named
  have hlocks := B.notSynchronized
  have hsz : s.heap.size = sz := hsz
  subst hsz
  have hin6 := in6_X6_minutes_6
  obtain ⟨A, hAe⟩ : ∃ A : Nat → Prop, A = fun q => s.heap.size ≤ q := ⟨_, rfl⟩
  rw [← hAe]
  have hA : ∀ q : Nat, s.heap.size ≤ q → A q := fun q h => by rw [hAe]; exact h
  obtain ⟨hN, hP, hK⟩ := hXX
  have hS : va_S A s.heap s.heap [] := va_S.rf
  have hl := lv_entry ([.ref a]) (n := 1) (Nat.le_of_ble_eq_true rfl)
  rw [show entryFrame m args 1 = entryFrame m ([.ref a] : List Value).toArray 1 from by rw [hargs], lg_entry_eq]
  generalize (lg_sl ([.ref a]) ++ List.replicate (1 - (lg_sl ([.ref a])).length) Slot.unset).toArray = ls at hl ⊢
  have hl : lv_has ls 1 [(0, .ref a)] := hl
  unfold f_X6_minutes at hf
  refine lv_aload_n hx hb dX6_minutes_0 rfl (lv_at hl 0 rfl) ?_
  refine va_get (D := (dC, dI)) (ci := 6) (v := .int (d.2.1)) (C := RX6) (T := TX6) (N := 4) hx hb hts hin6 hown hK hP 0 rfl rfl 1 (by decide) (hts (.fieldLink RX6 13 "OnlyTwo$Plain" "time" "I") (by decide +kernel)) (fun _ h9 => h9) rfl dX6_minutes_1 ?_
  exact rtEi hx hb hr hlocks hS hf dX6_minutes_4

def v_minutes (d : PD)  : Option Int32 :=
  if d.2.2.2 = 1 then f_X4_minutes d  else if d.2.2.2 = 2 then f_X6_minutes d  else if d.2.2.2 = 3 then f_X4_minutes d  else if d.2.2.2 = 4 then f_X6_minutes d  else if d.2.2.2 = 5 then f_X6_minutes d  else f_X6_minutes d 
set_option maxHeartbeats 4000000 in
set_option maxRecDepth 100000 in
theorem vs_X1_minutesOf_70 {p : Program} {l : Launch} {e : Env} {R : Room} {s : State} {m : MethodId} {args : Array Value} {below : List Frame} {meth : Method} {c : Code} {H : Heap} {locs : List Loc} {cells slots : Nat} {Q : State → Prop} {pc : Nat} {ls : Array Slot} {rest As st : List Value} {dC : Nat → ClassId} {dI : Nat → Nat → Nat} {A : Nat → Prop} {nL : Nat} {ws : va_W} {tys : List (ClassId × FieldType)} {a k : Nat} {d : PD}  {r : Int32} (F : CallFix p m c cX1_minutesOf nL s args wsX1_minutesOf RX1) (hN : nwC s) (hK : va_K (dC, dI) vwCl tys s) (hP : va_P (dC, dI) vwCl ws H) (hk : ws[k]? = some (a, pdE d)) (hf : v_minutes d  = some r) (hAs : As = []) (hsize : ls.size = nL) (hst : st = As.reverse ++ .ref a :: rest) (hW : (rest.map fun v => v.category).sum ≤ 8) (hfr : 1 ≤ R.frames) (hlo : 20 ≤ R.locals) (hdg : decode cX1_minutesOf pc = .ok (.invokevirtual 70, 3)) (hS : va_S A s.heap H locs) (hA : ∀ q : Nat, s.heap.size ≤ q → A q)
    (kk : ∀ (H1 : Heap) (locs1 : List Loc), (∀ q : Nat, q < H.size → H1[q]? = H[q]?) → va_S A s.heap H1 locs1 → W p l e R s m args below meth c H1 locs1 cells slots Q (F0 m (pc + 3) ls (.int r :: rest))) (hce : cells ≤ R.cells) (hsl : slots ≤ R.slots) : W p l e R s m args below meth c H locs cells slots Q (F0 m pc ls st) := by
  subst hAs
  have hts := F.2.2.2.2
  unfold v_minutes at hf
  unfold pdE at hk
  rcases cls_cases d.2.2.2 with q | q | q | q | q | q
  · rw [q.2] at hk
    rw [if_pos q.1] at hf
    have hPa : va_P (dC, dI) vwCl [(a, .inr (4, pdV d))] H := hP.by (fun _ => k) (fun i q9 hq => by match i, hq with | 0, hq => cases hq; exact hk)
    exact klXUi (rest := rest) (As := []) F (c_X4_minutes_4 l dC dI H.size a d  r hf) (fun _ U g mk q => ⟨q.1.same rfl, q.2.1, va_K.moved (u := U) (U := U.calling g mk _) (Vm.Alike.refl U.vm) q.2.2⟩) (fun U hU hW => ⟨hN.warm hW, by rw [hU]; exact hPa, va_K.moved hW.alike (hK.sub [] rfl)⟩) (va_cwO 0 hts gX1_minutesOf_X4_minutes_u70X4 rfl rfl rfl (b0 := cX6_minutes) (m0 := 1) (r0 := (some .int)) (by decide +kernel) (by decide +kernel) ⟨Nat.le_trans (Nat.le_of_ble_eq_true rfl) hfr, Nat.le_trans (Nat.le_of_ble_eq_true rfl) hlo⟩) (va_recv (hK.sub (tys' := []) [] rfl) hPa (ci := 4) (q0 := 0) rfl rfl) rfl hsize hst hW hdg ⟨hce, hsl⟩ hS hA kk
  · rw [q.2.2] at hk
    rw [if_neg q.1] at hf
    rw [if_pos q.2.1] at hf
    have hPa : va_P (dC, dI) vwCl [(a, .inr (3, pdV d))] H := hP.by (fun _ => k) (fun i q9 hq => by match i, hq with | 0, hq => cases hq; exact hk)
    exact klXUi (rest := rest) (As := []) F (c_X6_minutes_3 l dC dI H.size a d  r hf) (fun _ U g mk q => ⟨q.1.same rfl, q.2.1, va_K.moved (u := U) (U := U.calling g mk _) (Vm.Alike.refl U.vm) q.2.2⟩) (fun U hU hW => ⟨hN.warm hW, by rw [hU]; exact hPa, va_K.moved hW.alike (hK.sub [] rfl)⟩) (va_cwU 0 hts gX1_minutesOf_X6_minutes_u70X3 rfl rfl rfl rfl (by decide +kernel) ⟨Nat.le_trans (Nat.le_of_ble_eq_true rfl) hfr, Nat.le_trans (Nat.le_of_ble_eq_true rfl) hlo⟩) (va_recv (hK.sub (tys' := []) [] rfl) hPa (ci := 3) (q0 := 0) rfl rfl) rfl hsize hst hW hdg ⟨hce, hsl⟩ hS hA kk
  · rw [q.2.2.2] at hk
    rw [if_neg q.1] at hf
    rw [if_neg q.2.1] at hf
    rw [if_pos q.2.2.1] at hf
    have hPa : va_P (dC, dI) vwCl [(a, .inr (9, pdV d))] H := hP.by (fun _ => k) (fun i q9 hq => by match i, hq with | 0, hq => cases hq; exact hk)
    exact klXUi (rest := rest) (As := []) F (c_X4_minutes_9 l dC dI H.size a d  r hf) (fun _ U g mk q => ⟨q.1.same rfl, q.2.1, va_K.moved (u := U) (U := U.calling g mk _) (Vm.Alike.refl U.vm) q.2.2⟩) (fun U hU hW => ⟨hN.warm hW, by rw [hU]; exact hPa, va_K.moved hW.alike (hK.sub [] rfl)⟩) (va_cwO 0 hts gX1_minutesOf_X4_minutes_u70X9 rfl rfl rfl (b0 := cX6_minutes) (m0 := 1) (r0 := (some .int)) (by decide +kernel) (by decide +kernel) ⟨Nat.le_trans (Nat.le_of_ble_eq_true rfl) hfr, Nat.le_trans (Nat.le_of_ble_eq_true rfl) hlo⟩) (va_recv (hK.sub (tys' := []) [] rfl) hPa (ci := 9) (q0 := 0) rfl rfl) rfl hsize hst hW hdg ⟨hce, hsl⟩ hS hA kk
  · rw [q.2.2.2.2] at hk
    rw [if_neg q.1] at hf
    rw [if_neg q.2.1] at hf
    rw [if_neg q.2.2.1] at hf
    rw [if_pos q.2.2.2.1] at hf
    have hPa : va_P (dC, dI) vwCl [(a, .inr (0, pdV d))] H := hP.by (fun _ => k) (fun i q9 hq => by match i, hq with | 0, hq => cases hq; exact hk)
    exact klXUi (rest := rest) (As := []) F (c_X6_minutes_0 l dC dI H.size a d  r hf) (fun _ U g mk q => ⟨q.1.same rfl, q.2.1, va_K.moved (u := U) (U := U.calling g mk _) (Vm.Alike.refl U.vm) q.2.2⟩) (fun U hU hW => ⟨hN.warm hW, by rw [hU]; exact hPa, va_K.moved hW.alike (hK.sub [] rfl)⟩) (va_cwU 0 hts gX1_minutesOf_X6_minutes_u70X0 rfl rfl rfl rfl (by decide +kernel) ⟨Nat.le_trans (Nat.le_of_ble_eq_true rfl) hfr, Nat.le_trans (Nat.le_of_ble_eq_true rfl) hlo⟩) (va_recv (hK.sub (tys' := []) [] rfl) hPa (ci := 0) (q0 := 0) rfl rfl) rfl hsize hst hW hdg ⟨hce, hsl⟩ hS hA kk
  · rw [q.2.2.2.2.2] at hk
    rw [if_neg q.1] at hf
    rw [if_neg q.2.1] at hf
    rw [if_neg q.2.2.1] at hf
    rw [if_neg q.2.2.2.1] at hf
    rw [if_pos q.2.2.2.2.1] at hf
    have hPa : va_P (dC, dI) vwCl [(a, .inr (2, pdV d))] H := hP.by (fun _ => k) (fun i q9 hq => by match i, hq with | 0, hq => cases hq; exact hk)
    exact klXUi (rest := rest) (As := []) F (c_X6_minutes_2 l dC dI H.size a d  r hf) (fun _ U g mk q => ⟨q.1.same rfl, q.2.1, va_K.moved (u := U) (U := U.calling g mk _) (Vm.Alike.refl U.vm) q.2.2⟩) (fun U hU hW => ⟨hN.warm hW, by rw [hU]; exact hPa, va_K.moved hW.alike (hK.sub [] rfl)⟩) (va_cwU 0 hts gX1_minutesOf_X6_minutes_u70X2 rfl rfl rfl rfl (by decide +kernel) ⟨Nat.le_trans (Nat.le_of_ble_eq_true rfl) hfr, Nat.le_trans (Nat.le_of_ble_eq_true rfl) hlo⟩) (va_recv (hK.sub (tys' := []) [] rfl) hPa (ci := 2) (q0 := 0) rfl rfl) rfl hsize hst hW hdg ⟨hce, hsl⟩ hS hA kk
  · rw [q.2.2.2.2.2] at hk
    rw [if_neg q.1] at hf
    rw [if_neg q.2.1] at hf
    rw [if_neg q.2.2.1] at hf
    rw [if_neg q.2.2.2.1] at hf
    rw [if_neg q.2.2.2.2.1] at hf
    have hPa : va_P (dC, dI) vwCl [(a, .inr (6, pdV d))] H := hP.by (fun _ => k) (fun i q9 hq => by match i, hq with | 0, hq => cases hq; exact hk)
    exact klXVi (rest := rest) (As := []) F (c_X6_minutes_6 l dC dI H.size a d  r hf) (fun _ U g mk q => ⟨q.1.same rfl, q.2.1, va_K.moved (u := U) (U := U.calling g mk _) (Vm.Alike.refl U.vm) q.2.2⟩) (fun U hU hW => ⟨hN.warm hW, by rw [hU]; exact hPa, va_K.moved hW.alike (hK.sub [] rfl)⟩) (cwV 0 hts gX1_minutesOf_X6_minutes rfl rfl rfl (by decide +kernel) ⟨Nat.le_trans (Nat.le_of_ble_eq_true rfl) hfr, Nat.le_trans (Nat.le_of_ble_eq_true rfl) hlo⟩) (va_recv (hK.sub (tys' := []) [] rfl) hPa (ci := 6) (q0 := 0) rfl rfl) rfl hsize hst hW hdg ⟨hce, hsl⟩ hS hA kk

def k_X1_minutesOf_3_4 (y1 : Int32) : Option Int32 :=
  some y1
def b_X1_minutesOf_3_4 (S : CS) (p0 : Int32) (y2 : Int32) (y3 : Int32) : Option ((Int32 × Int32) ⊕ Int32) :=
  (if (S.1 1306 0) ≤ y3 then (some (Sum.inr y2)) else (Option.bind (f_X10_hasPorterIn p0 y3) (fun r4 => (if r4 = 0 then (Option.bind (some (y3 + 1)) (fun x5 => some (Sum.inl (y2, x5)))) else (Option.bind (rdP (S.2.2 0) y3) (fun d6 => Option.bind (v_minutes d6 ) (fun r7 => Option.bind (some (if y2 < r7 then r7 else y2)) (fun x8 => Option.bind (some (y3 + 1)) (fun x9 => some (Sum.inl (x8, x9)))))))))))
def f_X1_minutesOf_3 (S : CS) (p0 : Int32) : Option Int32 :=
  Option.bind (lp (fun s => b_X1_minutesOf_3_4 S p0 s.1 s.2) FU (0, 0)) (fun s => k_X1_minutesOf_3_4 s)
def rmX1_minutesOf_3 : Room := { frames := 1, cells := 0, slots := 0, locals := 21 }
abbrev RRX1_minutesOf_3 : Room := (headSpec wsX1_minutesOf rmX1_minutesOf_3).room
theorem in1_X1_minutesOf_3 : ∀ w ∈ wsX10, w ∈ wsX1_minutesOf := by decide +kernel
set_option maxHeartbeats 4000000 in
set_option maxRecDepth 100000 in
theorem c_X1_minutesOf_3 (l : Launch) (dC : Nat → ClassId) (dI : Nat → Nat → Nat) (t : Nat → ClassId) (ts aK aV : Nat → Nat) (A : Nat → Prop) (h : Nat → Nat) (tx : Nat) (sz : Nat) (hA0 : ∀ q : Nat, sz ≤ q → A q) (S : CS) (p0 : Int32) (r : Int32) (hf : f_X1_minutesOf_3 S p0 = some r) : cCi l yX1_minutesOf wsX1_minutesOf rmX1_minutesOf_3 dC dI t ts aK aV A h tx tx sz [.ref (h 3), .int p0] S r S := by
  refine Met.ofW (cc := cX1_minutesOf) (maxL := 4) (ret := (some .int)) (by decide) rfl ?_
  intro p e s m args below meth c s₁ B hml hv
  obtain ⟨hargs, hsz, hE, hC, hK⟩ := hv
  have hx := B.exec
  have hb := B.bytes
  have hr := B.returns
  have hts := atoms_spec (ws := wsX1_minutesOf) B.pre
  have hown : s.vm.findClass RX1 = some m.cls := findClass_of_methodNamed B.named
  have hlocks := B.notSynchronized
  have hsz : s.heap.size = sz := hsz
  subst hsz
  have hin1 := in1_X1_minutesOf_3
  have lk11_1 : Cond.fieldLink RX1 11 (TX1 0).1 (TX1 0).2.1 (TX1 0).2.2.1 ∈ wsX1_minutesOf := by decide +kernel
  have lk56_1 : Cond.fieldLink RX1 56 (TX1 6).1 (TX1 6).2.1 (TX1 6).2.2.1 ∈ wsX1_minutesOf := by decide +kernel
  have hA : ∀ q : Nat, s.heap.size ≤ q → A q := hA0
  obtain ⟨g, LP, pf, hP, hD, hG⟩ := hC
  have hS : va_S A s.heap s.heap [] := va_S.rf
  have hl := lv_entry ([.ref (h 3), .int p0]) (n := 4) (Nat.le_of_ble_eq_true rfl)
  rw [show entryFrame m args 4 = entryFrame m ([.ref (h 3), .int p0] : List Value).toArray 4 from by rw [hargs], lg_entry_eq]
  generalize (lg_sl ([.ref (h 3), .int p0]) ++ List.replicate (4 - (lg_sl ([.ref (h 3), .int p0])).length) Slot.unset).toArray = ls at hl ⊢
  have hl : lv_has ls 4 [(0, .ref (h 3)), (1, .int p0)] := hl
  unfold f_X1_minutesOf_3 at hf
  refine lv_iconst (v := 0) hx hb dX1_minutesOf_0 (by decide) ?_
  refine lv_istore_n (lv' := [(2, .int 0), (0, .ref (h 3)), (1, .int p0)]) hx hb dX1_minutesOf_1 rfl hl (by decide) rfl (fun ls hl => ?_)
  refine lv_iconst (v := 0) hx hb dX1_minutesOf_2 (by decide) ?_
  refine lv_istore_n (lv' := [(3, .int 0), (2, .int 0), (0, .ref (h 3)), (1, .int p0)]) hx hb dX1_minutesOf_3 rfl hl (by decide) rfl (fun ls hl => ?_)
  have K4 : ∀ (y1 : Int32) (g : Nat → Nat → Option Nat) (LP : List Nat) (pf : Nat → va_E) (H : Heap) (locs : List Loc) (ls : Array Slot), k_X1_minutesOf_3_4 y1 = some r → va_P (dC, dI) vwCl (wC t h tx g S ++ va_pl LP pf) H → va_D A (wC t h tx g S ++ va_pl LP pf) → rlC g LP pf S → va_S A s.heap H locs → lv_has ls 4 [(2, .int y1)] → W p l e RRX1_minutesOf_3 s m args below meth c H locs 0 0 (MQ below (qcCi dC dI t A h tx r S) args s 0 0 A) (F0 m 40 ls []) := by
    intro y1 g LP pf H locs ls hf hP hD hG hS hl
    unfold k_X1_minutesOf_3_4 at hf
    refine lv_iload_n hx hb dX1_minutesOf_40 rfl (lv_at hl 0 rfl) ?_
    exact rtCi hx hb hr hlocks ⟨g, LP, pf, hP, hD, hG⟩ hS (congrArg (fun z => some (z, S)) (Option.some.inj hf)) dX1_minutesOf_41
  obtain ⟨z4, ez4, hz4⟩ := bd hf
  have L4 : ∀ (n : Nat) (y2 : Int32) (y3 : Int32) (g : Nat → Nat → Option Nat) (LP : List Nat) (pf : Nat → va_E) (H : Heap) (locs : List Loc) (ls : Array Slot), lp (fun s => b_X1_minutesOf_3_4 S p0 s.1 s.2) n (y2, y3) = some z4 → va_P (dC, dI) vwCl (wC t h tx g S ++ va_pl LP pf) H → va_D A (wC t h tx g S ++ va_pl LP pf) → rlC g LP pf S → va_S A s.heap H locs → lv_has ls 4 [(0, .ref (h 3)), (1, .int p0), (2, .int y2), (3, .int y3)] → W p l e RRX1_minutesOf_3 s m args below meth c H locs 0 0 (MQ below (qcCi dC dI t A h tx r S) args s 0 0 A) (F0 m 4 ls []) := by
    intro n
    induction n with
    | zero => intro y2 y3 g LP pf H locs ls hf; exact lp_z hf
    | succ n ih4 =>
      intro y2 y3 g LP pf H locs ls hf hP hD hG hS hl
      obtain ⟨q4, hf, hq4⟩ := lp_i hf
      have hf : b_X1_minutesOf_3_4 S p0 y2 y3 = some q4 := hf
      unfold b_X1_minutesOf_3_4 at hf
      refine lv_iload_n hx hb dX1_minutesOf_4 rfl (lv_at hl 3 rfl) ?_
      refine lv_aload_n hx hb dX1_minutesOf_5 rfl (lv_at hl 0 rfl) ?_
      refine va_get (D := (dC, dI)) (ci := 1) (v := .int (S.1 1306 0)) (C := RX1) (T := TX1) (N := 10) hx hb hts hin1 hown hK hP 3 rfl rfl 6 (by decide) (hts _ lk56_1) (fun _ h9 => h9) rfl dX1_minutesOf_6 ?_
      refine lv_icmp_ge (tgt := 40) hx hb dX1_minutesOf_9 (by decide) (fun c11 => ?_) (fun c11 => ?_)
      · have hf := (if_pos c11).symm.trans hf
        exact K4 y2 _ _ _ _ _ _ (lp_x (k := (fun s => k_X1_minutesOf_3_4 s)) (lp_r hf hq4) hz4) hP hD hG hS (lv_sub hl [2] rfl)
      · have hf := (if_neg c11).symm.trans hf
        refine lv_iload_n hx hb dX1_minutesOf_12 rfl (lv_at hl 1 rfl) ?_
        refine lv_iload_n hx hb dX1_minutesOf_13 rfl (lv_at hl 3 rfl) ?_
        obtain ⟨r4, er4, hf⟩ := bd hf
        refine klXNi (rest := []) (As := [.int p0, .int y3]) ⟨hx, hb, hml, hown, hts⟩ (c_X10_hasPorterIn l H.size p0 y3 r4 er4) (fun _ _ _ _ _ => trivial) (fun _ _ _ => trivial) ⟨va_cnB 2 hts gX1_minutesOf_X10_hasPorterIn_n66 rfl rfl rfl (hE.1.1 ("OnlyTwo$Camp", 66, ⟨"OnlyTwo", "hasPorterIn", "(II)Z"⟩, "OnlyTwo") (by decide +kernel)) (hts (.initialized RX10) (by decide +kernel)) (by decide +kernel) ⟨Nat.le_of_ble_eq_true rfl, Nat.le_of_ble_eq_true rfl⟩, hts (.static yX10_hasPorterIn) (by decide +kernel), trivial⟩ rfl hl.1 rfl (Nat.le_of_ble_eq_true rfl) dX1_minutesOf_14 ⟨Nat.zero_le _, Nat.zero_le _⟩ hS hA (fun H2 locs hk hS => ?_)
        have hP := kpP hP hk
        generalize H2 = H at hP hS ⊢
        refine lv_if_eq (tgt := 34) hx hb dX1_minutesOf_17 (by decide) (fun c10 => ?_) (fun c10 => ?_)
        · have hf := (if_pos c10).symm.trans hf
          obtain ⟨x5, ex5, hf⟩ := bn hf
          refine lv_iinc (v := x5) (lv' := [(3, .int x5), (0, .ref (h 3)), (1, .int p0), (2, .int y2)]) hx hb dX1_minutesOf_34 hl (k := 3) rfl (by rw [ex5]; rfl) (by decide) rfl (fun ls hl => ?_)
          refine lv_goto (tgt := 4) hx hb dX1_minutesOf_37 (by decide) ?_
          exact ih4 y2 x5 _ _ _ _ _ _ (lp_l hf hq4) hP hD hG hS (lv_sub hl [1, 2, 3, 0] rfl)
        · have hf := (if_neg c10).symm.trans hf
          refine lv_iload_n hx hb dX1_minutesOf_20 rfl (lv_at hl 2 rfl) ?_
          refine lv_aload_n hx hb dX1_minutesOf_21 rfl (lv_at hl 0 rfl) ?_
          refine va_get (D := (dC, dI)) (ci := 1) (v := .ref (h 4)) (C := RX1) (T := TX1) (N := 10) hx hb hts hin1 hown hK hP 3 rfl rfl 0 (by decide) (hts _ lk11_1) (fun _ h9 => h9) rfl dX1_minutesOf_22 ?_
          refine lv_iload_n hx hb dX1_minutesOf_25 rfl (lv_at hl 3 rfl) ?_
          obtain ⟨d6, hid6, ed6, hf⟩ := rdP_b hf
          obtain ⟨ad6, gad6, lad6, pad6⟩ := hG 0 (by decide) _ (in_lt hid6)
          rw [← ed6] at pad6
          obtain ⟨kd6, hkd6⟩ := va_pl_get (X := wC t h tx g S) (f := pf) lad6
          rw [pad6] at hkd6
          refine va_aldq hx hb hK hP 4 4 rfl rfl hid6 dX1_minutesOf_26 (kR gad6 ?_)
          obtain ⟨r7, er7, hf⟩ := bd hf
          refine vs_X1_minutesOf_70 (rest := [.int y2]) (As := []) ⟨hx, hb, hml, hown, hts⟩ hE.1 hK hP hkd6 er7 rfl hl.1 rfl (Nat.le_of_ble_eq_true rfl) (Nat.le_of_ble_eq_true rfl) (Nat.le_of_ble_eq_true rfl) dX1_minutesOf_27 hS hA (fun H2 locs hk2 hS => ?_) (Nat.zero_le _) (Nat.zero_le _)
          have hP := kpP hP hk2
          generalize H2 = H at hP hS ⊢
          refine va_mmax hx hb (by rw [hml]; exact hl.1.symm) hown (hts (.methodLink RX1 74 Lib.Math.max.name) (by decide +kernel)) (hts (.static Lib.Math.max.name) (by decide +kernel)) (hts (.initialized "java/lang/Math") (by decide +kernel)) (hts (.code Lib.Math.max.name Lib.Math.max.code 2 (some .int)) (by decide +kernel)) (Nat.le_of_ble_eq_true rfl) (Nat.le_of_ble_eq_true rfl) (Nat.zero_le _) (Nat.zero_le _) dX1_minutesOf_30 ?_
          refine lv_topi (fun x8 ex8 => ?_)
          have hf := bs ex8 hf
          refine lv_istore_n (lv' := [(2, .int x8), (0, .ref (h 3)), (1, .int p0), (3, .int y3)]) hx hb dX1_minutesOf_33 rfl hl (by decide) rfl (fun ls hl => ?_)
          obtain ⟨x9, ex9, hf⟩ := bn hf
          refine lv_iinc (v := x9) (lv' := [(3, .int x9), (2, .int x8), (0, .ref (h 3)), (1, .int p0)]) hx hb dX1_minutesOf_34 hl (k := 3) rfl (by rw [ex9]; rfl) (by decide) rfl (fun ls hl => ?_)
          refine lv_goto (tgt := 4) hx hb dX1_minutesOf_37 (by decide) ?_
          exact ih4 x8 x9 _ _ _ _ _ _ (lp_l hf hq4) hP hD hG hS (lv_sub hl [2, 3, 1, 0] rfl)
  exact L4 FU 0 0 _ _ _ _ _ _ ez4 hP hD hG hS (lv_sub hl [2, 3, 1, 0] rfl)

def k_X1_hireOf_3_4 (y1 : Int32) : Option Int32 :=
  some y1
def b_X1_hireOf_3_4 (S : CS) (p0 : Int32) (y2 : Int32) (y3 : Int32) : Option ((Int32 × Int32) ⊕ Int32) :=
  (if (S.1 1306 0) ≤ y3 then (some (Sum.inr y2)) else (Option.bind (f_X10_hasPorterIn p0 y3) (fun r4 => (if r4 = 0 then (Option.bind (some (y3 + 1)) (fun x5 => some (Sum.inl (y2, x5)))) else (Option.bind (rdP (S.2.2 0) y3) (fun d6 => Option.bind (some (y2 + (d6.2.2.1))) (fun x7 => Option.bind (some (y3 + 1)) (fun x8 => some (Sum.inl (x7, x8))))))))))
def f_X1_hireOf_3 (S : CS) (p0 : Int32) : Option Int32 :=
  Option.bind (lp (fun s => b_X1_hireOf_3_4 S p0 s.1 s.2) FU (0, 0)) (fun s => k_X1_hireOf_3_4 s)
def rmX1_hireOf_3 : Room := { frames := 1, cells := 0, slots := 0, locals := 21 }
abbrev RRX1_hireOf_3 : Room := (headSpec wsX1_hireOf rmX1_hireOf_3).room
theorem in0_X1_hireOf_3 : ∀ w ∈ wsX00, w ∈ wsX1_hireOf := by decide +kernel
theorem in1_X1_hireOf_3 : ∀ w ∈ wsX10, w ∈ wsX1_hireOf := by decide +kernel
theorem in2_X1_hireOf_3 : ∀ w ∈ wsX20, w ∈ wsX1_hireOf := by decide +kernel
theorem in3_X1_hireOf_3 : ∀ w ∈ wsX30, w ∈ wsX1_hireOf := by decide +kernel
theorem in4_X1_hireOf_3 : ∀ w ∈ wsX40, w ∈ wsX1_hireOf := by decide +kernel
theorem in6_X1_hireOf_3 : ∀ w ∈ wsX60, w ∈ wsX1_hireOf := by decide +kernel
theorem in9_X1_hireOf_3 : ∀ w ∈ wsX90, w ∈ wsX1_hireOf := by decide +kernel
set_option maxHeartbeats 4000000 in
set_option maxRecDepth 100000 in
theorem c_X1_hireOf_3 (l : Launch) (dC : Nat → ClassId) (dI : Nat → Nat → Nat) (t : Nat → ClassId) (ts aK aV : Nat → Nat) (A : Nat → Prop) (h : Nat → Nat) (tx : Nat) (sz : Nat) (hA0 : ∀ q : Nat, sz ≤ q → A q) (S : CS) (p0 : Int32) (r : Int32) (hf : f_X1_hireOf_3 S p0 = some r) : cCi l yX1_hireOf wsX1_hireOf rmX1_hireOf_3 dC dI t ts aK aV A h tx tx sz [.ref (h 3), .int p0] S r S := by
  refine Met.ofW (cc := cX1_hireOf) (maxL := 4) (ret := (some .int)) (by decide) rfl ?_
  intro p e s m args below meth c s₁ B hml hv
  obtain ⟨hargs, hsz, hE, hC, hK⟩ := hv
  have hx := B.exec
  have hb := B.bytes
  have hr := B.returns
  have hts := atoms_spec (ws := wsX1_hireOf) B.pre
  have hown : s.vm.findClass RX1 = some m.cls := findClass_of_methodNamed B.named
  have hlocks := B.notSynchronized
  have hsz : s.heap.size = sz := hsz
  subst hsz
  have hin0 := in0_X1_hireOf_3
  have hin1 := in1_X1_hireOf_3
  have hin2 := in2_X1_hireOf_3
  have hin3 := in3_X1_hireOf_3
  have hin4 := in4_X1_hireOf_3
  have hin6 := in6_X1_hireOf_3
  have hin9 := in9_X1_hireOf_3
  have lk11_1 : Cond.fieldLink RX1 11 (TX1 0).1 (TX1 0).2.1 (TX1 0).2.2.1 ∈ wsX1_hireOf := by decide +kernel
  have lk56_1 : Cond.fieldLink RX1 56 (TX1 6).1 (TX1 6).2.1 (TX1 6).2.2.1 ∈ wsX1_hireOf := by decide +kernel
  have lk80_6 : Cond.fieldLink RX1 80 (TX6 2).1 (TX6 2).2.1 (TX6 2).2.2.1 ∈ wsX1_hireOf := by decide +kernel
  have hA : ∀ q : Nat, s.heap.size ≤ q → A q := hA0
  obtain ⟨g, LP, pf, hP, hD, hG⟩ := hC
  have hS : va_S A s.heap s.heap [] := va_S.rf
  have hl := lv_entry ([.ref (h 3), .int p0]) (n := 4) (Nat.le_of_ble_eq_true rfl)
  rw [show entryFrame m args 4 = entryFrame m ([.ref (h 3), .int p0] : List Value).toArray 4 from by rw [hargs], lg_entry_eq]
  generalize (lg_sl ([.ref (h 3), .int p0]) ++ List.replicate (4 - (lg_sl ([.ref (h 3), .int p0])).length) Slot.unset).toArray = ls at hl ⊢
  have hl : lv_has ls 4 [(0, .ref (h 3)), (1, .int p0)] := hl
  unfold f_X1_hireOf_3 at hf
  refine lv_iconst (v := 0) hx hb dX1_hireOf_0 (by decide) ?_
  refine lv_istore_n (lv' := [(2, .int 0), (0, .ref (h 3)), (1, .int p0)]) hx hb dX1_hireOf_1 rfl hl (by decide) rfl (fun ls hl => ?_)
  refine lv_iconst (v := 0) hx hb dX1_hireOf_2 (by decide) ?_
  refine lv_istore_n (lv' := [(3, .int 0), (2, .int 0), (0, .ref (h 3)), (1, .int p0)]) hx hb dX1_hireOf_3 rfl hl (by decide) rfl (fun ls hl => ?_)
  have K4 : ∀ (y1 : Int32) (g : Nat → Nat → Option Nat) (LP : List Nat) (pf : Nat → va_E) (H : Heap) (locs : List Loc) (ls : Array Slot), k_X1_hireOf_3_4 y1 = some r → va_P (dC, dI) vwCl (wC t h tx g S ++ va_pl LP pf) H → va_D A (wC t h tx g S ++ va_pl LP pf) → rlC g LP pf S → va_S A s.heap H locs → lv_has ls 4 [(2, .int y1)] → W p l e RRX1_hireOf_3 s m args below meth c H locs 0 0 (MQ below (qcCi dC dI t A h tx r S) args s 0 0 A) (F0 m 38 ls []) := by
    intro y1 g LP pf H locs ls hf hP hD hG hS hl
    unfold k_X1_hireOf_3_4 at hf
    refine lv_iload_n hx hb dX1_hireOf_38 rfl (lv_at hl 0 rfl) ?_
    exact rtCi hx hb hr hlocks ⟨g, LP, pf, hP, hD, hG⟩ hS (congrArg (fun z => some (z, S)) (Option.some.inj hf)) dX1_hireOf_39
  obtain ⟨z4, ez4, hz4⟩ := bd hf
  have L4 : ∀ (n : Nat) (y2 : Int32) (y3 : Int32) (g : Nat → Nat → Option Nat) (LP : List Nat) (pf : Nat → va_E) (H : Heap) (locs : List Loc) (ls : Array Slot), lp (fun s => b_X1_hireOf_3_4 S p0 s.1 s.2) n (y2, y3) = some z4 → va_P (dC, dI) vwCl (wC t h tx g S ++ va_pl LP pf) H → va_D A (wC t h tx g S ++ va_pl LP pf) → rlC g LP pf S → va_S A s.heap H locs → lv_has ls 4 [(0, .ref (h 3)), (1, .int p0), (2, .int y2), (3, .int y3)] → W p l e RRX1_hireOf_3 s m args below meth c H locs 0 0 (MQ below (qcCi dC dI t A h tx r S) args s 0 0 A) (F0 m 4 ls []) := by
    intro n
    induction n with
    | zero => intro y2 y3 g LP pf H locs ls hf; exact lp_z hf
    | succ n ih4 =>
      intro y2 y3 g LP pf H locs ls hf hP hD hG hS hl
      obtain ⟨q4, hf, hq4⟩ := lp_i hf
      have hf : b_X1_hireOf_3_4 S p0 y2 y3 = some q4 := hf
      unfold b_X1_hireOf_3_4 at hf
      refine lv_iload_n hx hb dX1_hireOf_4 rfl (lv_at hl 3 rfl) ?_
      refine lv_aload_n hx hb dX1_hireOf_5 rfl (lv_at hl 0 rfl) ?_
      refine va_get (D := (dC, dI)) (ci := 1) (v := .int (S.1 1306 0)) (C := RX1) (T := TX1) (N := 10) hx hb hts hin1 hown hK hP 3 rfl rfl 6 (by decide) (hts _ lk56_1) (fun _ h9 => h9) rfl dX1_hireOf_6 ?_
      refine lv_icmp_ge (tgt := 38) hx hb dX1_hireOf_9 (by decide) (fun c10 => ?_) (fun c10 => ?_)
      · have hf := (if_pos c10).symm.trans hf
        exact K4 y2 _ _ _ _ _ _ (lp_x (k := (fun s => k_X1_hireOf_3_4 s)) (lp_r hf hq4) hz4) hP hD hG hS (lv_sub hl [2] rfl)
      · have hf := (if_neg c10).symm.trans hf
        refine lv_iload_n hx hb dX1_hireOf_12 rfl (lv_at hl 1 rfl) ?_
        refine lv_iload_n hx hb dX1_hireOf_13 rfl (lv_at hl 3 rfl) ?_
        obtain ⟨r4, er4, hf⟩ := bd hf
        refine klXNi (rest := []) (As := [.int p0, .int y3]) ⟨hx, hb, hml, hown, hts⟩ (c_X10_hasPorterIn l H.size p0 y3 r4 er4) (fun _ _ _ _ _ => trivial) (fun _ _ _ => trivial) ⟨va_cnB 2 hts gX1_hireOf_X10_hasPorterIn_n66 rfl rfl rfl (hE.1.1 ("OnlyTwo$Camp", 66, ⟨"OnlyTwo", "hasPorterIn", "(II)Z"⟩, "OnlyTwo") (by decide +kernel)) (hts (.initialized RX10) (by decide +kernel)) (by decide +kernel) ⟨Nat.le_of_ble_eq_true rfl, Nat.le_of_ble_eq_true rfl⟩, hts (.static yX10_hasPorterIn) (by decide +kernel), trivial⟩ rfl hl.1 rfl (Nat.le_of_ble_eq_true rfl) dX1_hireOf_14 ⟨Nat.zero_le _, Nat.zero_le _⟩ hS hA (fun H2 locs hk hS => ?_)
        have hP := kpP hP hk
        generalize H2 = H at hP hS ⊢
        refine lv_if_eq (tgt := 32) hx hb dX1_hireOf_17 (by decide) (fun c9 => ?_) (fun c9 => ?_)
        · have hf := (if_pos c9).symm.trans hf
          obtain ⟨x5, ex5, hf⟩ := bn hf
          refine lv_iinc (v := x5) (lv' := [(3, .int x5), (0, .ref (h 3)), (1, .int p0), (2, .int y2)]) hx hb dX1_hireOf_32 hl (k := 3) rfl (by rw [ex5]; rfl) (by decide) rfl (fun ls hl => ?_)
          refine lv_goto (tgt := 4) hx hb dX1_hireOf_35 (by decide) ?_
          exact ih4 y2 x5 _ _ _ _ _ _ (lp_l hf hq4) hP hD hG hS (lv_sub hl [1, 2, 3, 0] rfl)
        · have hf := (if_neg c9).symm.trans hf
          refine lv_iload_n hx hb dX1_hireOf_20 rfl (lv_at hl 2 rfl) ?_
          refine lv_aload_n hx hb dX1_hireOf_21 rfl (lv_at hl 0 rfl) ?_
          refine va_get (D := (dC, dI)) (ci := 1) (v := .ref (h 4)) (C := RX1) (T := TX1) (N := 10) hx hb hts hin1 hown hK hP 3 rfl rfl 0 (by decide) (hts _ lk11_1) (fun _ h9 => h9) rfl dX1_hireOf_22 ?_
          refine lv_iload_n hx hb dX1_hireOf_25 rfl (lv_at hl 3 rfl) ?_
          obtain ⟨d6, hid6, ed6, hf⟩ := rdP_b hf
          obtain ⟨ad6, gad6, lad6, pad6⟩ := hG 0 (by decide) _ (in_lt hid6)
          rw [← ed6] at pad6
          obtain ⟨kd6, hkd6⟩ := va_pl_get (X := wC t h tx g S) (f := pf) lad6
          rw [pad6] at hkd6
          refine va_aldq hx hb hK hP 4 4 rfl rfl hid6 dX1_hireOf_26 (kR gad6 ?_)
          refine gePd (d := d6) hx hb hts hin0 hin2 hin3 hin4 hin6 hin9 hown hK hP hkd6 2 (by decide) lk80_6 rfl dX1_hireOf_27 ?_
          refine lv_iadd hx hb dX1_hireOf_30 ?_
          refine lv_topi (fun x7 ex7 => ?_)
          have hf := bs ex7 hf
          refine lv_istore_n (lv' := [(2, .int x7), (0, .ref (h 3)), (1, .int p0), (3, .int y3)]) hx hb dX1_hireOf_31 rfl hl (by decide) rfl (fun ls hl => ?_)
          obtain ⟨x8, ex8, hf⟩ := bn hf
          refine lv_iinc (v := x8) (lv' := [(3, .int x8), (2, .int x7), (0, .ref (h 3)), (1, .int p0)]) hx hb dX1_hireOf_32 hl (k := 3) rfl (by rw [ex8]; rfl) (by decide) rfl (fun ls hl => ?_)
          refine lv_goto (tgt := 4) hx hb dX1_hireOf_35 (by decide) ?_
          exact ih4 x7 x8 _ _ _ _ _ _ (lp_l hf hq4) hP hD hG hS (lv_sub hl [2, 3, 1, 0] rfl)
  exact L4 FU 0 0 _ _ _ _ _ _ ez4 hP hD hG hS (lv_sub hl [2, 3, 1, 0] rfl)

def f_X6_isNeverSo (d : PD) (p0 : Int32) (p1 : Int32) (p2 : Int32) : Option Int32 :=
  some 0
def rmX6_isNeverSo_4 : Room := { frames := 0, cells := 0, slots := 0, locals := 0 }
abbrev RRX6_isNeverSo_4 : Room := (headSpec wsX6_isNeverSo rmX6_isNeverSo_4).room
set_option maxHeartbeats 4000000 in
set_option maxRecDepth 100000 in
theorem c_X6_isNeverSo_4 (l : Launch) (dC : Nat → ClassId) (dI : Nat → Nat → Nat) (sz : Nat) (a : Nat) (d : PD) (p0 : Int32) (p1 : Int32) (p2 : Int32) (r : Int32) (hf : f_X6_isNeverSo d p0 p1 p2 = some r) : cXi l yX6_isNeverSo wsX6_isNeverSo rmX6_isNeverSo_4 sz [.ref a, .int p0, .int p1, .int p2] (fun U => nwC U ∧ va_P (dC, dI) vwCl [(a, .inr (4, pdV d))] U.heap ∧ va_K (dC, dI) vwCl [] U) r := by
  refine Met.ofW (cc := cX6_isNeverSo) (maxL := 4) (ret := (some .boolean)) (by decide) rfl ?_
  intro p e s m args below meth c s₁ B hml hv
  obtain ⟨hargs, hsz, hXX⟩ := hv
  have hx := B.exec
  have hb := B.bytes
  have hr := B.returns
  have hts := atoms_spec (ws := wsX6_isNeverSo) B.pre
  have hown : s.vm.findClass RX6 = some m.cls := findClass_of_methodNamed B.named
  have hlocks := B.notSynchronized
  have hsz : s.heap.size = sz := hsz
  subst hsz
  obtain ⟨A, hAe⟩ : ∃ A : Nat → Prop, A = fun q => s.heap.size ≤ q := ⟨_, rfl⟩
  rw [← hAe]
  have hA : ∀ q : Nat, s.heap.size ≤ q → A q := fun q h => by rw [hAe]; exact h
  obtain ⟨hN, hP, hK⟩ := hXX
  have hS : va_S A s.heap s.heap [] := va_S.rf
  have hl := lv_entry ([.ref a, .int p0, .int p1, .int p2]) (n := 4) (Nat.le_of_ble_eq_true rfl)
  rw [show entryFrame m args 4 = entryFrame m ([.ref a, .int p0, .int p1, .int p2] : List Value).toArray 4 from by rw [hargs], lg_entry_eq]
  generalize (lg_sl ([.ref a, .int p0, .int p1, .int p2]) ++ List.replicate (4 - (lg_sl ([.ref a, .int p0, .int p1, .int p2])).length) Slot.unset).toArray = ls at hl ⊢
  have hl : lv_has ls 4 [(0, .ref a), (1, .int p0), (2, .int p1), (3, .int p2)] := hl
  unfold f_X6_isNeverSo at hf
  refine lv_iconst (v := 0) hx hb dX6_isNeverSo_0 (by decide) ?_
  exact rtEz hx hb hr hlocks hS rfl hf dX6_isNeverSo_1

def rmX6_isNeverSo_3 : Room := { frames := 0, cells := 0, slots := 0, locals := 0 }
abbrev RRX6_isNeverSo_3 : Room := (headSpec wsX6_isNeverSo rmX6_isNeverSo_3).room
set_option maxHeartbeats 4000000 in
set_option maxRecDepth 100000 in
theorem c_X6_isNeverSo_3 (l : Launch) (dC : Nat → ClassId) (dI : Nat → Nat → Nat) (sz : Nat) (a : Nat) (d : PD) (p0 : Int32) (p1 : Int32) (p2 : Int32) (r : Int32) (hf : f_X6_isNeverSo d p0 p1 p2 = some r) : cXi l yX6_isNeverSo wsX6_isNeverSo rmX6_isNeverSo_3 sz [.ref a, .int p0, .int p1, .int p2] (fun U => nwC U ∧ va_P (dC, dI) vwCl [(a, .inr (3, pdV d))] U.heap ∧ va_K (dC, dI) vwCl [] U) r := by
  refine Met.ofW (cc := cX6_isNeverSo) (maxL := 4) (ret := (some .boolean)) (by decide) rfl ?_
  intro p e s m args below meth c s₁ B hml hv
  obtain ⟨hargs, hsz, hXX⟩ := hv
  have hx := B.exec
  have hb := B.bytes
  have hr := B.returns
  have hts := atoms_spec (ws := wsX6_isNeverSo) B.pre
  have hown : s.vm.findClass RX6 = some m.cls := findClass_of_methodNamed B.named
  have hlocks := B.notSynchronized
  have hsz : s.heap.size = sz := hsz
  subst hsz
  obtain ⟨A, hAe⟩ : ∃ A : Nat → Prop, A = fun q => s.heap.size ≤ q := ⟨_, rfl⟩
  rw [← hAe]
  have hA : ∀ q : Nat, s.heap.size ≤ q → A q := fun q h => by rw [hAe]; exact h
  obtain ⟨hN, hP, hK⟩ := hXX
  have hS : va_S A s.heap s.heap [] := va_S.rf
  have hl := lv_entry ([.ref a, .int p0, .int p1, .int p2]) (n := 4) (Nat.le_of_ble_eq_true rfl)
  rw [show entryFrame m args 4 = entryFrame m ([.ref a, .int p0, .int p1, .int p2] : List Value).toArray 4 from by rw [hargs], lg_entry_eq]
  generalize (lg_sl ([.ref a, .int p0, .int p1, .int p2]) ++ List.replicate (4 - (lg_sl ([.ref a, .int p0, .int p1, .int p2])).length) Slot.unset).toArray = ls at hl ⊢
  have hl : lv_has ls 4 [(0, .ref a), (1, .int p0), (2, .int p1), (3, .int p2)] := hl
  unfold f_X6_isNeverSo at hf
  refine lv_iconst (v := 0) hx hb dX6_isNeverSo_0 (by decide) ?_
  exact rtEz hx hb hr hlocks hS rfl hf dX6_isNeverSo_1

def f_X9_isNeverSo (d : PD) (p0 : Int32) (p1 : Int32) (p2 : Int32) : Option Int32 :=
  (if p0 < 1 then (some 1) else (Option.bind (f_X10_hasPorterIn p1 (p0 - 1)) (fun r1 => (if r1 = 0 then (some 1) else (some 0)))))
def rmX9_isNeverSo_9 : Room := { frames := 1, cells := 0, slots := 0, locals := 21 }
abbrev RRX9_isNeverSo_9 : Room := (headSpec wsX9_isNeverSo rmX9_isNeverSo_9).room
set_option maxHeartbeats 4000000 in
set_option maxRecDepth 100000 in
theorem c_X9_isNeverSo_9 (l : Launch) (dC : Nat → ClassId) (dI : Nat → Nat → Nat) (sz : Nat) (a : Nat) (d : PD) (p0 : Int32) (p1 : Int32) (p2 : Int32) (r : Int32) (hf : f_X9_isNeverSo d p0 p1 p2 = some r) : cXi l yX9_isNeverSo wsX9_isNeverSo rmX9_isNeverSo_9 sz [.ref a, .int p0, .int p1, .int p2] (fun U => nwC U ∧ va_P (dC, dI) vwCl [(a, .inr (9, pdV d))] U.heap ∧ va_K (dC, dI) vwCl [] U) r := by
  refine Met.ofW (cc := cX9_isNeverSo) (maxL := 4) (ret := (some .boolean)) (by decide) rfl ?_
  intro p e s m args below meth c s₁ B hml hv
  obtain ⟨hargs, hsz, hXX⟩ := hv
  have hx := B.exec
  have hb := B.bytes
  have hr := B.returns
  have hts := atoms_spec (ws := wsX9_isNeverSo) B.pre
  have hown : s.vm.findClass RX9 = some m.cls := findClass_of_methodNamed B.named
  have hlocks := B.notSynchronized
  have hsz : s.heap.size = sz := hsz
  subst hsz
  obtain ⟨A, hAe⟩ : ∃ A : Nat → Prop, A = fun q => s.heap.size ≤ q := ⟨_, rfl⟩
  rw [← hAe]
  have hA : ∀ q : Nat, s.heap.size ≤ q → A q := fun q h => by rw [hAe]; exact h
  obtain ⟨hN, hP, hK⟩ := hXX
  have hS : va_S A s.heap s.heap [] := va_S.rf
  have hl := lv_entry ([.ref a, .int p0, .int p1, .int p2]) (n := 4) (Nat.le_of_ble_eq_true rfl)
  rw [show entryFrame m args 4 = entryFrame m ([.ref a, .int p0, .int p1, .int p2] : List Value).toArray 4 from by rw [hargs], lg_entry_eq]
  generalize (lg_sl ([.ref a, .int p0, .int p1, .int p2]) ++ List.replicate (4 - (lg_sl ([.ref a, .int p0, .int p1, .int p2])).length) Slot.unset).toArray = ls at hl ⊢
  have hl : lv_has ls 4 [(0, .ref a), (1, .int p0), (2, .int p1), (3, .int p2)] := hl
  unfold f_X9_isNeverSo at hf
  refine lv_iload_n hx hb dX9_isNeverSo_0 rfl (lv_at hl 1 rfl) ?_
  refine lv_iconst (v := 1) hx hb dX9_isNeverSo_1 (by decide) ?_
  refine lv_icmp_lt (tgt := 15) hx hb dX9_isNeverSo_2 (by decide) (fun c3 => ?_) (fun c3 => ?_)
  · have hf := (if_pos c3).symm.trans hf
    refine lv_iconst (v := 1) hx hb dX9_isNeverSo_15 (by decide) ?_
    refine lv_goto (tgt := 20) hx hb dX9_isNeverSo_16 (by decide) ?_
    exact rtEz hx hb hr hlocks hS rfl hf dX9_isNeverSo_20
  · have hf := (if_neg c3).symm.trans hf
    refine lv_iload_n hx hb dX9_isNeverSo_5 rfl (lv_at hl 2 rfl) ?_
    refine lv_iload_n hx hb dX9_isNeverSo_6 rfl (lv_at hl 1 rfl) ?_
    refine lv_iconst (v := 1) hx hb dX9_isNeverSo_7 (by decide) ?_
    refine lv_isub hx hb dX9_isNeverSo_8 ?_
    obtain ⟨r1, er1, hf⟩ := bd hf
    refine klXNi (rest := []) (As := [.int p1, .int (p0 - 1)]) ⟨hx, hb, hml, hown, hts⟩ (c_X10_hasPorterIn l s.heap.size p1 (p0 - 1) r1 er1) (fun _ _ _ _ _ => trivial) (fun _ _ _ => trivial) ⟨va_cnB 2 hts gX9_isNeverSo_X10_hasPorterIn_n7 rfl rfl rfl (hN.1 ("OnlyTwo$Tied", 7, ⟨"OnlyTwo", "hasPorterIn", "(II)Z"⟩, "OnlyTwo") (by decide +kernel)) (hts (.initialized RX10) (by decide +kernel)) (by decide +kernel) ⟨Nat.le_of_ble_eq_true rfl, Nat.le_of_ble_eq_true rfl⟩, hts (.static yX10_hasPorterIn) (by decide +kernel), trivial⟩ rfl hl.1 rfl (Nat.le_of_ble_eq_true rfl) dX9_isNeverSo_9 ⟨Nat.zero_le _, Nat.zero_le _⟩ hS hA (fun H2 locs hk hS => ?_)
    generalize H2 = H at hS ⊢
    refine lv_if_ne (tgt := 19) hx hb dX9_isNeverSo_12 (by decide) (fun c2 => ?_) (fun c2 => ?_)
    · have hf := (if_neg c2).symm.trans hf
      refine lv_iconst (v := 0) hx hb dX9_isNeverSo_19 (by decide) ?_
      exact rtEz hx hb hr hlocks hS rfl hf dX9_isNeverSo_20
    · have hf := (if_pos c2).symm.trans hf
      refine lv_iconst (v := 1) hx hb dX9_isNeverSo_15 (by decide) ?_
      refine lv_goto (tgt := 20) hx hb dX9_isNeverSo_16 (by decide) ?_
      exact rtEz hx hb hr hlocks hS rfl hf dX9_isNeverSo_20

def f_X0_isNeverSo (d : PD) (p0 : Int32) (p1 : Int32) (p2 : Int32) : Option Int32 :=
  Option.bind (zr p2) (fun z1 => some z1)
def rmX0_isNeverSo_0 : Room := { frames := 0, cells := 0, slots := 0, locals := 0 }
abbrev RRX0_isNeverSo_0 : Room := (headSpec wsX0_isNeverSo rmX0_isNeverSo_0).room
set_option maxHeartbeats 4000000 in
set_option maxRecDepth 100000 in
theorem c_X0_isNeverSo_0 (l : Launch) (dC : Nat → ClassId) (dI : Nat → Nat → Nat) (sz : Nat) (a : Nat) (d : PD) (p0 : Int32) (p1 : Int32) (p2 : Int32) (r : Int32) (hf : f_X0_isNeverSo d p0 p1 p2 = some r) : cXi l yX0_isNeverSo wsX0_isNeverSo rmX0_isNeverSo_0 sz [.ref a, .int p0, .int p1, .int p2] (fun U => nwC U ∧ va_P (dC, dI) vwCl [(a, .inr (0, pdV d))] U.heap ∧ va_K (dC, dI) vwCl [] U) r := by
  refine Met.ofW (cc := cX0_isNeverSo) (maxL := 4) (ret := (some .boolean)) (by decide) rfl ?_
  intro p e s m args below meth c s₁ B hml hv
  obtain ⟨hargs, hsz, hXX⟩ := hv
  have hx := B.exec
  have hb := B.bytes
  have hr := B.returns
  have hts := atoms_spec (ws := wsX0_isNeverSo) B.pre
  have hown : s.vm.findClass RX0 = some m.cls := findClass_of_methodNamed B.named
  have hlocks := B.notSynchronized
  have hsz : s.heap.size = sz := hsz
  subst hsz
  obtain ⟨A, hAe⟩ : ∃ A : Nat → Prop, A = fun q => s.heap.size ≤ q := ⟨_, rfl⟩
  rw [← hAe]
  have hA : ∀ q : Nat, s.heap.size ≤ q → A q := fun q h => by rw [hAe]; exact h
  obtain ⟨hN, hP, hK⟩ := hXX
  have hS : va_S A s.heap s.heap [] := va_S.rf
  have hl := lv_entry ([.ref a, .int p0, .int p1, .int p2]) (n := 4) (Nat.le_of_ble_eq_true rfl)
  rw [show entryFrame m args 4 = entryFrame m ([.ref a, .int p0, .int p1, .int p2] : List Value).toArray 4 from by rw [hargs], lg_entry_eq]
  generalize (lg_sl ([.ref a, .int p0, .int p1, .int p2]) ++ List.replicate (4 - (lg_sl ([.ref a, .int p0, .int p1, .int p2])).length) Slot.unset).toArray = ls at hl ⊢
  have hl : lv_has ls 4 [(0, .ref a), (1, .int p0), (2, .int p1), (3, .int p2)] := hl
  unfold f_X0_isNeverSo at hf
  refine lv_iload_n hx hb dX0_isNeverSo_0 rfl (lv_at hl 3 rfl) ?_
  obtain ⟨hnz1, hf⟩ := zr_b hf
  exact rtEz hx hb hr hlocks hS hnz1 hf dX0_isNeverSo_1

def rmX6_isNeverSo_2 : Room := { frames := 0, cells := 0, slots := 0, locals := 0 }
abbrev RRX6_isNeverSo_2 : Room := (headSpec wsX6_isNeverSo rmX6_isNeverSo_2).room
set_option maxHeartbeats 4000000 in
set_option maxRecDepth 100000 in
theorem c_X6_isNeverSo_2 (l : Launch) (dC : Nat → ClassId) (dI : Nat → Nat → Nat) (sz : Nat) (a : Nat) (d : PD) (p0 : Int32) (p1 : Int32) (p2 : Int32) (r : Int32) (hf : f_X6_isNeverSo d p0 p1 p2 = some r) : cXi l yX6_isNeverSo wsX6_isNeverSo rmX6_isNeverSo_2 sz [.ref a, .int p0, .int p1, .int p2] (fun U => nwC U ∧ va_P (dC, dI) vwCl [(a, .inr (2, pdV d))] U.heap ∧ va_K (dC, dI) vwCl [] U) r := by
  refine Met.ofW (cc := cX6_isNeverSo) (maxL := 4) (ret := (some .boolean)) (by decide) rfl ?_
  intro p e s m args below meth c s₁ B hml hv
  obtain ⟨hargs, hsz, hXX⟩ := hv
  have hx := B.exec
  have hb := B.bytes
  have hr := B.returns
  have hts := atoms_spec (ws := wsX6_isNeverSo) B.pre
  have hown : s.vm.findClass RX6 = some m.cls := findClass_of_methodNamed B.named
  have hlocks := B.notSynchronized
  have hsz : s.heap.size = sz := hsz
  subst hsz
  obtain ⟨A, hAe⟩ : ∃ A : Nat → Prop, A = fun q => s.heap.size ≤ q := ⟨_, rfl⟩
  rw [← hAe]
  have hA : ∀ q : Nat, s.heap.size ≤ q → A q := fun q h => by rw [hAe]; exact h
  obtain ⟨hN, hP, hK⟩ := hXX
  have hS : va_S A s.heap s.heap [] := va_S.rf
  have hl := lv_entry ([.ref a, .int p0, .int p1, .int p2]) (n := 4) (Nat.le_of_ble_eq_true rfl)
  rw [show entryFrame m args 4 = entryFrame m ([.ref a, .int p0, .int p1, .int p2] : List Value).toArray 4 from by rw [hargs], lg_entry_eq]
  generalize (lg_sl ([.ref a, .int p0, .int p1, .int p2]) ++ List.replicate (4 - (lg_sl ([.ref a, .int p0, .int p1, .int p2])).length) Slot.unset).toArray = ls at hl ⊢
  have hl : lv_has ls 4 [(0, .ref a), (1, .int p0), (2, .int p1), (3, .int p2)] := hl
  unfold f_X6_isNeverSo at hf
  refine lv_iconst (v := 0) hx hb dX6_isNeverSo_0 (by decide) ?_
  exact rtEz hx hb hr hlocks hS rfl hf dX6_isNeverSo_1

def rmX6_isNeverSo_6 : Room := { frames := 0, cells := 0, slots := 0, locals := 0 }
abbrev RRX6_isNeverSo_6 : Room := (headSpec wsX6_isNeverSo rmX6_isNeverSo_6).room
set_option maxHeartbeats 4000000 in
set_option maxRecDepth 100000 in
theorem c_X6_isNeverSo_6 (l : Launch) (dC : Nat → ClassId) (dI : Nat → Nat → Nat) (sz : Nat) (a : Nat) (d : PD) (p0 : Int32) (p1 : Int32) (p2 : Int32) (r : Int32) (hf : f_X6_isNeverSo d p0 p1 p2 = some r) : cXi l yX6_isNeverSo wsX6_isNeverSo rmX6_isNeverSo_6 sz [.ref a, .int p0, .int p1, .int p2] (fun U => nwC U ∧ va_P (dC, dI) vwCl [(a, .inr (6, pdV d))] U.heap ∧ va_K (dC, dI) vwCl [] U) r := by
  refine Met.ofW (cc := cX6_isNeverSo) (maxL := 4) (ret := (some .boolean)) (by decide) rfl ?_
  intro p e s m args below meth c s₁ B hml hv
  obtain ⟨hargs, hsz, hXX⟩ := hv
  have hx := B.exec
  have hb := B.bytes
  have hr := B.returns
  have hts := atoms_spec (ws := wsX6_isNeverSo) B.pre
  have hown : s.vm.findClass RX6 = some m.cls := findClass_of_methodNamed B.named
  have hlocks := B.notSynchronized
  have hsz : s.heap.size = sz := hsz
  subst hsz
  obtain ⟨A, hAe⟩ : ∃ A : Nat → Prop, A = fun q => s.heap.size ≤ q := ⟨_, rfl⟩
  rw [← hAe]
  have hA : ∀ q : Nat, s.heap.size ≤ q → A q := fun q h => by rw [hAe]; exact h
  obtain ⟨hN, hP, hK⟩ := hXX
  have hS : va_S A s.heap s.heap [] := va_S.rf
  have hl := lv_entry ([.ref a, .int p0, .int p1, .int p2]) (n := 4) (Nat.le_of_ble_eq_true rfl)
  rw [show entryFrame m args 4 = entryFrame m ([.ref a, .int p0, .int p1, .int p2] : List Value).toArray 4 from by rw [hargs], lg_entry_eq]
  generalize (lg_sl ([.ref a, .int p0, .int p1, .int p2]) ++ List.replicate (4 - (lg_sl ([.ref a, .int p0, .int p1, .int p2])).length) Slot.unset).toArray = ls at hl ⊢
  have hl : lv_has ls 4 [(0, .ref a), (1, .int p0), (2, .int p1), (3, .int p2)] := hl
  unfold f_X6_isNeverSo at hf
  refine lv_iconst (v := 0) hx hb dX6_isNeverSo_0 (by decide) ?_
  exact rtEz hx hb hr hlocks hS rfl hf dX6_isNeverSo_1

def v_isNeverSo (d : PD) (p0 : Int32) (p1 : Int32) (p2 : Int32) : Option Int32 :=
  if d.2.2.2 = 1 then f_X6_isNeverSo d p0 p1 p2 else if d.2.2.2 = 2 then f_X6_isNeverSo d p0 p1 p2 else if d.2.2.2 = 3 then f_X9_isNeverSo d p0 p1 p2 else if d.2.2.2 = 4 then f_X0_isNeverSo d p0 p1 p2 else if d.2.2.2 = 5 then f_X6_isNeverSo d p0 p1 p2 else f_X6_isNeverSo d p0 p1 p2
set_option maxHeartbeats 4000000 in
set_option maxRecDepth 100000 in
theorem vs_X1_hasNeverSo_99 {p : Program} {l : Launch} {e : Env} {R : Room} {s : State} {m : MethodId} {args : Array Value} {below : List Frame} {meth : Method} {c : Code} {H : Heap} {locs : List Loc} {cells slots : Nat} {Q : State → Prop} {pc : Nat} {ls : Array Slot} {rest As st : List Value} {dC : Nat → ClassId} {dI : Nat → Nat → Nat} {A : Nat → Prop} {nL : Nat} {ws : va_W} {tys : List (ClassId × FieldType)} {a k : Nat} {d : PD} {p0 : Int32} {p1 : Int32} {p2 : Int32} {r : Int32} (F : CallFix p m c cX1_hasNeverSo nL s args wsX1_hasNeverSo RX1) (hN : nwC s) (hK : va_K (dC, dI) vwCl tys s) (hP : va_P (dC, dI) vwCl ws H) (hk : ws[k]? = some (a, pdE d)) (hf : v_isNeverSo d p0 p1 p2 = some r) (hAs : As = [.int p0, .int p1, .int p2]) (hsize : ls.size = nL) (hst : st = As.reverse ++ .ref a :: rest) (hW : (rest.map fun v => v.category).sum ≤ 8) (hfr : 2 ≤ R.frames) (hlo : 44 ≤ R.locals) (hdg : decode cX1_hasNeverSo pc = .ok (.invokevirtual 99, 3)) (hS : va_S A s.heap H locs) (hA : ∀ q : Nat, s.heap.size ≤ q → A q)
    (kk : ∀ (H1 : Heap) (locs1 : List Loc), (∀ q : Nat, q < H.size → H1[q]? = H[q]?) → va_S A s.heap H1 locs1 → W p l e R s m args below meth c H1 locs1 cells slots Q (F0 m (pc + 3) ls (.int r :: rest))) (hce : cells ≤ R.cells) (hsl : slots ≤ R.slots) : W p l e R s m args below meth c H locs cells slots Q (F0 m pc ls st) := by
  subst hAs
  have hts := F.2.2.2.2
  unfold v_isNeverSo at hf
  unfold pdE at hk
  rcases cls_cases d.2.2.2 with q | q | q | q | q | q
  · rw [q.2] at hk
    rw [if_pos q.1] at hf
    have hPa : va_P (dC, dI) vwCl [(a, .inr (4, pdV d))] H := hP.by (fun _ => k) (fun i q9 hq => by match i, hq with | 0, hq => cases hq; exact hk)
    exact klXUi (rest := rest) (As := [.int p0, .int p1, .int p2]) F (c_X6_isNeverSo_4 l dC dI H.size a d p0 p1 p2 r hf) (fun _ U g mk q => ⟨q.1.same rfl, q.2.1, va_K.moved (u := U) (U := U.calling g mk _) (Vm.Alike.refl U.vm) q.2.2⟩) (fun U hU hW => ⟨hN.warm hW, by rw [hU]; exact hPa, va_K.moved hW.alike (hK.sub [] rfl)⟩) (va_cwU 3 hts gX1_hasNeverSo_X6_isNeverSo_u99X4 rfl rfl rfl rfl (by decide +kernel) ⟨Nat.le_trans (Nat.le_of_ble_eq_true rfl) hfr, Nat.le_trans (Nat.le_of_ble_eq_true rfl) hlo⟩) (va_recv (hK.sub (tys' := []) [] rfl) hPa (ci := 4) (q0 := 0) rfl rfl) rfl hsize hst hW hdg ⟨hce, hsl⟩ hS hA kk
  · rw [q.2.2] at hk
    rw [if_neg q.1] at hf
    rw [if_pos q.2.1] at hf
    have hPa : va_P (dC, dI) vwCl [(a, .inr (3, pdV d))] H := hP.by (fun _ => k) (fun i q9 hq => by match i, hq with | 0, hq => cases hq; exact hk)
    exact klXUi (rest := rest) (As := [.int p0, .int p1, .int p2]) F (c_X6_isNeverSo_3 l dC dI H.size a d p0 p1 p2 r hf) (fun _ U g mk q => ⟨q.1.same rfl, q.2.1, va_K.moved (u := U) (U := U.calling g mk _) (Vm.Alike.refl U.vm) q.2.2⟩) (fun U hU hW => ⟨hN.warm hW, by rw [hU]; exact hPa, va_K.moved hW.alike (hK.sub [] rfl)⟩) (va_cwU 3 hts gX1_hasNeverSo_X6_isNeverSo_u99X3 rfl rfl rfl rfl (by decide +kernel) ⟨Nat.le_trans (Nat.le_of_ble_eq_true rfl) hfr, Nat.le_trans (Nat.le_of_ble_eq_true rfl) hlo⟩) (va_recv (hK.sub (tys' := []) [] rfl) hPa (ci := 3) (q0 := 0) rfl rfl) rfl hsize hst hW hdg ⟨hce, hsl⟩ hS hA kk
  · rw [q.2.2.2] at hk
    rw [if_neg q.1] at hf
    rw [if_neg q.2.1] at hf
    rw [if_pos q.2.2.1] at hf
    have hPa : va_P (dC, dI) vwCl [(a, .inr (9, pdV d))] H := hP.by (fun _ => k) (fun i q9 hq => by match i, hq with | 0, hq => cases hq; exact hk)
    exact klXUi (rest := rest) (As := [.int p0, .int p1, .int p2]) F (c_X9_isNeverSo_9 l dC dI H.size a d p0 p1 p2 r hf) (fun _ U g mk q => ⟨q.1.same rfl, q.2.1, va_K.moved (u := U) (U := U.calling g mk _) (Vm.Alike.refl U.vm) q.2.2⟩) (fun U hU hW => ⟨hN.warm hW, by rw [hU]; exact hPa, va_K.moved hW.alike (hK.sub [] rfl)⟩) (va_cwO 3 hts gX1_hasNeverSo_X9_isNeverSo_u99X9 rfl rfl rfl (b0 := cX6_isNeverSo) (m0 := 4) (r0 := (some .boolean)) (by decide +kernel) (by decide +kernel) ⟨Nat.le_trans (Nat.le_of_ble_eq_true rfl) hfr, Nat.le_trans (Nat.le_of_ble_eq_true rfl) hlo⟩) (va_recv (hK.sub (tys' := []) [] rfl) hPa (ci := 9) (q0 := 0) rfl rfl) rfl hsize hst hW hdg ⟨hce, hsl⟩ hS hA kk
  · rw [q.2.2.2.2] at hk
    rw [if_neg q.1] at hf
    rw [if_neg q.2.1] at hf
    rw [if_neg q.2.2.1] at hf
    rw [if_pos q.2.2.2.1] at hf
    have hPa : va_P (dC, dI) vwCl [(a, .inr (0, pdV d))] H := hP.by (fun _ => k) (fun i q9 hq => by match i, hq with | 0, hq => cases hq; exact hk)
    exact klXUi (rest := rest) (As := [.int p0, .int p1, .int p2]) F (c_X0_isNeverSo_0 l dC dI H.size a d p0 p1 p2 r hf) (fun _ U g mk q => ⟨q.1.same rfl, q.2.1, va_K.moved (u := U) (U := U.calling g mk _) (Vm.Alike.refl U.vm) q.2.2⟩) (fun U hU hW => ⟨hN.warm hW, by rw [hU]; exact hPa, va_K.moved hW.alike (hK.sub [] rfl)⟩) (va_cwO 3 hts gX1_hasNeverSo_X0_isNeverSo_u99X0 rfl rfl rfl (b0 := cX6_isNeverSo) (m0 := 4) (r0 := (some .boolean)) (by decide +kernel) (by decide +kernel) ⟨Nat.le_trans (Nat.le_of_ble_eq_true rfl) hfr, Nat.le_trans (Nat.le_of_ble_eq_true rfl) hlo⟩) (va_recv (hK.sub (tys' := []) [] rfl) hPa (ci := 0) (q0 := 0) rfl rfl) rfl hsize hst hW hdg ⟨hce, hsl⟩ hS hA kk
  · rw [q.2.2.2.2.2] at hk
    rw [if_neg q.1] at hf
    rw [if_neg q.2.1] at hf
    rw [if_neg q.2.2.1] at hf
    rw [if_neg q.2.2.2.1] at hf
    rw [if_pos q.2.2.2.2.1] at hf
    have hPa : va_P (dC, dI) vwCl [(a, .inr (2, pdV d))] H := hP.by (fun _ => k) (fun i q9 hq => by match i, hq with | 0, hq => cases hq; exact hk)
    exact klXUi (rest := rest) (As := [.int p0, .int p1, .int p2]) F (c_X6_isNeverSo_2 l dC dI H.size a d p0 p1 p2 r hf) (fun _ U g mk q => ⟨q.1.same rfl, q.2.1, va_K.moved (u := U) (U := U.calling g mk _) (Vm.Alike.refl U.vm) q.2.2⟩) (fun U hU hW => ⟨hN.warm hW, by rw [hU]; exact hPa, va_K.moved hW.alike (hK.sub [] rfl)⟩) (va_cwU 3 hts gX1_hasNeverSo_X6_isNeverSo_u99X2 rfl rfl rfl rfl (by decide +kernel) ⟨Nat.le_trans (Nat.le_of_ble_eq_true rfl) hfr, Nat.le_trans (Nat.le_of_ble_eq_true rfl) hlo⟩) (va_recv (hK.sub (tys' := []) [] rfl) hPa (ci := 2) (q0 := 0) rfl rfl) rfl hsize hst hW hdg ⟨hce, hsl⟩ hS hA kk
  · rw [q.2.2.2.2.2] at hk
    rw [if_neg q.1] at hf
    rw [if_neg q.2.1] at hf
    rw [if_neg q.2.2.1] at hf
    rw [if_neg q.2.2.2.1] at hf
    rw [if_neg q.2.2.2.2.1] at hf
    have hPa : va_P (dC, dI) vwCl [(a, .inr (6, pdV d))] H := hP.by (fun _ => k) (fun i q9 hq => by match i, hq with | 0, hq => cases hq; exact hk)
    exact klXVi (rest := rest) (As := [.int p0, .int p1, .int p2]) F (c_X6_isNeverSo_6 l dC dI H.size a d p0 p1 p2 r hf) (fun _ U g mk q => ⟨q.1.same rfl, q.2.1, va_K.moved (u := U) (U := U.calling g mk _) (Vm.Alike.refl U.vm) q.2.2⟩) (fun U hU hW => ⟨hN.warm hW, by rw [hU]; exact hPa, va_K.moved hW.alike (hK.sub [] rfl)⟩) (cwV 3 hts gX1_hasNeverSo_X6_isNeverSo rfl rfl rfl (by decide +kernel) ⟨Nat.le_trans (Nat.le_of_ble_eq_true rfl) hfr, Nat.le_trans (Nat.le_of_ble_eq_true rfl) hlo⟩) (va_recv (hK.sub (tys' := []) [] rfl) hPa (ci := 6) (q0 := 0) rfl rfl) rfl hsize hst hW hdg ⟨hce, hsl⟩ hS hA kk

def b_X1_hasNeverSo_3_2 (S : CS) (p0 : Int32) (p1 : Int32) (y1 : Int32) : Option (Int32 ⊕ Int32) :=
  (if (S.1 1306 0) ≤ y1 then (some (Sum.inr 0)) else (Option.bind (f_X10_hasPorterIn p0 y1) (fun r2 => (if r2 = 0 then (Option.bind (some (y1 + 1)) (fun x3 => some (Sum.inl x3))) else (Option.bind (rdP (S.2.2 0) y1) (fun d4 => Option.bind (v_isNeverSo d4 y1 p0 p1) (fun r5 => (if r5 = 0 then (Option.bind (some (y1 + 1)) (fun x6 => some (Sum.inl x6))) else (some (Sum.inr 1))))))))))
def f_X1_hasNeverSo_3 (S : CS) (p0 : Int32) (p1 : Int32) : Option Int32 :=
  lp (fun s => b_X1_hasNeverSo_3_2 S p0 p1 s) FU 0
def rmX1_hasNeverSo_3 : Room := { frames := 2, cells := 0, slots := 0, locals := 44 }
abbrev RRX1_hasNeverSo_3 : Room := (headSpec wsX1_hasNeverSo rmX1_hasNeverSo_3).room
theorem in1_X1_hasNeverSo_3 : ∀ w ∈ wsX10, w ∈ wsX1_hasNeverSo := by decide +kernel
set_option maxHeartbeats 4000000 in
set_option maxRecDepth 100000 in
theorem c_X1_hasNeverSo_3 (l : Launch) (dC : Nat → ClassId) (dI : Nat → Nat → Nat) (t : Nat → ClassId) (ts aK aV : Nat → Nat) (A : Nat → Prop) (h : Nat → Nat) (tx : Nat) (sz : Nat) (hA0 : ∀ q : Nat, sz ≤ q → A q) (S : CS) (p0 : Int32) (p1 : Int32) (r : Int32) (hf : f_X1_hasNeverSo_3 S p0 p1 = some r) : cCi l yX1_hasNeverSo wsX1_hasNeverSo rmX1_hasNeverSo_3 dC dI t ts aK aV A h tx tx sz [.ref (h 3), .int p0, .int p1] S r S := by
  refine Met.ofW (cc := cX1_hasNeverSo) (maxL := 4) (ret := (some .boolean)) (by decide) rfl ?_
  intro p e s m args below meth c s₁ B hml hv
  obtain ⟨hargs, hsz, hE, hC, hK⟩ := hv
  have hx := B.exec
  have hb := B.bytes
  have hr := B.returns
  have hts := atoms_spec (ws := wsX1_hasNeverSo) B.pre
  have hown : s.vm.findClass RX1 = some m.cls := findClass_of_methodNamed B.named
  have hlocks := B.notSynchronized
  have hsz : s.heap.size = sz := hsz
  subst hsz
  have hin1 := in1_X1_hasNeverSo_3
  have lk11_1 : Cond.fieldLink RX1 11 (TX1 0).1 (TX1 0).2.1 (TX1 0).2.2.1 ∈ wsX1_hasNeverSo := by decide +kernel
  have lk56_1 : Cond.fieldLink RX1 56 (TX1 6).1 (TX1 6).2.1 (TX1 6).2.2.1 ∈ wsX1_hasNeverSo := by decide +kernel
  have hA : ∀ q : Nat, s.heap.size ≤ q → A q := hA0
  obtain ⟨g, LP, pf, hP, hD, hG⟩ := hC
  have hS : va_S A s.heap s.heap [] := va_S.rf
  have hl := lv_entry ([.ref (h 3), .int p0, .int p1]) (n := 4) (Nat.le_of_ble_eq_true rfl)
  rw [show entryFrame m args 4 = entryFrame m ([.ref (h 3), .int p0, .int p1] : List Value).toArray 4 from by rw [hargs], lg_entry_eq]
  generalize (lg_sl ([.ref (h 3), .int p0, .int p1]) ++ List.replicate (4 - (lg_sl ([.ref (h 3), .int p0, .int p1])).length) Slot.unset).toArray = ls at hl ⊢
  have hl : lv_has ls 4 [(0, .ref (h 3)), (1, .int p0), (2, .int p1)] := hl
  unfold f_X1_hasNeverSo_3 at hf
  refine lv_iconst (v := 0) hx hb dX1_hasNeverSo_0 (by decide) ?_
  refine lv_istore_n (lv' := [(3, .int 0), (0, .ref (h 3)), (1, .int p0), (2, .int p1)]) hx hb dX1_hasNeverSo_1 rfl hl (by decide) rfl (fun ls hl => ?_)
  have L2 : ∀ (n : Nat) (y1 : Int32) (g : Nat → Nat → Option Nat) (LP : List Nat) (pf : Nat → va_E) (H : Heap) (locs : List Loc) (ls : Array Slot), lp (fun s => b_X1_hasNeverSo_3_2 S p0 p1 s) n y1 = some r → va_P (dC, dI) vwCl (wC t h tx g S ++ va_pl LP pf) H → va_D A (wC t h tx g S ++ va_pl LP pf) → rlC g LP pf S → va_S A s.heap H locs → lv_has ls 4 [(0, .ref (h 3)), (1, .int p0), (2, .int p1), (3, .int y1)] → W p l e RRX1_hasNeverSo_3 s m args below meth c H locs 0 0 (MQ below (qcCi dC dI t A h tx r S) args s 0 0 A) (F0 m 2 ls []) := by
    intro n
    induction n with
    | zero => intro y1 g LP pf H locs ls hf; exact lp_z hf
    | succ n ih2 =>
      intro y1 g LP pf H locs ls hf hP hD hG hS hl
      obtain ⟨q2, hf, hq2⟩ := lp_i hf
      have hf : b_X1_hasNeverSo_3_2 S p0 p1 y1 = some q2 := hf
      unfold b_X1_hasNeverSo_3_2 at hf
      refine lv_iload_n hx hb dX1_hasNeverSo_2 rfl (lv_at hl 3 rfl) ?_
      refine lv_aload_n hx hb dX1_hasNeverSo_3 rfl (lv_at hl 0 rfl) ?_
      refine va_get (D := (dC, dI)) (ci := 1) (v := .int (S.1 1306 0)) (C := RX1) (T := TX1) (N := 10) hx hb hts hin1 hown hK hP 3 rfl rfl 6 (by decide) (hts _ lk56_1) (fun _ h9 => h9) rfl dX1_hasNeverSo_4 ?_
      refine lv_icmp_ge (tgt := 41) hx hb dX1_hasNeverSo_7 (by decide) (fun c9 => ?_) (fun c9 => ?_)
      · have hf := (if_pos c9).symm.trans hf
        refine lv_iconst (v := 0) hx hb dX1_hasNeverSo_41 (by decide) ?_
        have hf := lp_r hf hq2
        exact rtCz hx hb hr hlocks ⟨g, LP, pf, hP, hD, hG⟩ hS rfl (congrArg (fun z => some (z, S)) (Option.some.inj hf)) dX1_hasNeverSo_42
      · have hf := (if_neg c9).symm.trans hf
        refine lv_iload_n hx hb dX1_hasNeverSo_10 rfl (lv_at hl 1 rfl) ?_
        refine lv_iload_n hx hb dX1_hasNeverSo_11 rfl (lv_at hl 3 rfl) ?_
        obtain ⟨r2, er2, hf⟩ := bd hf
        refine klXNi (rest := []) (As := [.int p0, .int y1]) ⟨hx, hb, hml, hown, hts⟩ (c_X10_hasPorterIn l H.size p0 y1 r2 er2) (fun _ _ _ _ _ => trivial) (fun _ _ _ => trivial) ⟨va_cnB 2 hts gX1_hasNeverSo_X10_hasPorterIn_n66 rfl rfl rfl (hE.1.1 ("OnlyTwo$Camp", 66, ⟨"OnlyTwo", "hasPorterIn", "(II)Z"⟩, "OnlyTwo") (by decide +kernel)) (hts (.initialized RX10) (by decide +kernel)) (by decide +kernel) ⟨Nat.le_of_ble_eq_true rfl, Nat.le_of_ble_eq_true rfl⟩, hts (.static yX10_hasPorterIn) (by decide +kernel), trivial⟩ rfl hl.1 rfl (Nat.le_of_ble_eq_true rfl) dX1_hasNeverSo_12 ⟨Nat.zero_le _, Nat.zero_le _⟩ hS hA (fun H2 locs hk hS => ?_)
        have hP := kpP hP hk
        generalize H2 = H at hP hS ⊢
        refine lv_if_eq (tgt := 35) hx hb dX1_hasNeverSo_15 (by decide) (fun c8 => ?_) (fun c8 => ?_)
        · have hf := (if_pos c8).symm.trans hf
          obtain ⟨x3, ex3, hf⟩ := bn hf
          refine lv_iinc (v := x3) (lv' := [(3, .int x3), (0, .ref (h 3)), (1, .int p0), (2, .int p1)]) hx hb dX1_hasNeverSo_35 hl (k := 3) rfl (by rw [ex3]; rfl) (by decide) rfl (fun ls hl => ?_)
          refine lv_goto (tgt := 2) hx hb dX1_hasNeverSo_38 (by decide) ?_
          exact ih2 x3 _ _ _ _ _ _ (lp_l hf hq2) hP hD hG hS (lv_sub hl [1, 2, 3, 0] rfl)
        · have hf := (if_neg c8).symm.trans hf
          refine lv_aload_n hx hb dX1_hasNeverSo_18 rfl (lv_at hl 0 rfl) ?_
          refine va_get (D := (dC, dI)) (ci := 1) (v := .ref (h 4)) (C := RX1) (T := TX1) (N := 10) hx hb hts hin1 hown hK hP 3 rfl rfl 0 (by decide) (hts _ lk11_1) (fun _ h9 => h9) rfl dX1_hasNeverSo_19 ?_
          refine lv_iload_n hx hb dX1_hasNeverSo_22 rfl (lv_at hl 3 rfl) ?_
          obtain ⟨d4, hid4, ed4, hf⟩ := rdP_b hf
          obtain ⟨ad4, gad4, lad4, pad4⟩ := hG 0 (by decide) _ (in_lt hid4)
          rw [← ed4] at pad4
          obtain ⟨kd4, hkd4⟩ := va_pl_get (X := wC t h tx g S) (f := pf) lad4
          rw [pad4] at hkd4
          refine va_aldq hx hb hK hP 4 4 rfl rfl hid4 dX1_hasNeverSo_23 (kR gad4 ?_)
          refine lv_iload_n hx hb dX1_hasNeverSo_24 rfl (lv_at hl 3 rfl) ?_
          refine lv_iload_n hx hb dX1_hasNeverSo_25 rfl (lv_at hl 1 rfl) ?_
          refine lv_iload_n hx hb dX1_hasNeverSo_26 rfl (lv_at hl 2 rfl) ?_
          obtain ⟨r5, er5, hf⟩ := bd hf
          refine vs_X1_hasNeverSo_99 (rest := []) (As := [.int y1, .int p0, .int p1]) ⟨hx, hb, hml, hown, hts⟩ hE.1 hK hP hkd4 er5 rfl hl.1 rfl (Nat.le_of_ble_eq_true rfl) (Nat.le_of_ble_eq_true rfl) (Nat.le_of_ble_eq_true rfl) dX1_hasNeverSo_27 hS hA (fun H2 locs hk2 hS => ?_) (Nat.zero_le _) (Nat.zero_le _)
          have hP := kpP hP hk2
          generalize H2 = H at hP hS ⊢
          refine lv_if_eq (tgt := 35) hx hb dX1_hasNeverSo_30 (by decide) (fun c7 => ?_) (fun c7 => ?_)
          · have hf := (if_pos c7).symm.trans hf
            obtain ⟨x6, ex6, hf⟩ := bn hf
            refine lv_iinc (v := x6) (lv' := [(3, .int x6), (0, .ref (h 3)), (1, .int p0), (2, .int p1)]) hx hb dX1_hasNeverSo_35 hl (k := 3) rfl (by rw [ex6]; rfl) (by decide) rfl (fun ls hl => ?_)
            refine lv_goto (tgt := 2) hx hb dX1_hasNeverSo_38 (by decide) ?_
            exact ih2 x6 _ _ _ _ _ _ (lp_l hf hq2) hP hD hG hS (lv_sub hl [1, 2, 3, 0] rfl)
          · have hf := (if_neg c7).symm.trans hf
            refine lv_iconst (v := 1) hx hb dX1_hasNeverSo_33 (by decide) ?_
            have hf := lp_r hf hq2
            exact rtCz hx hb hr hlocks ⟨g, LP, pf, hP, hD, hG⟩ hS rfl (congrArg (fun z => some (z, S)) (Option.some.inj hf)) dX1_hasNeverSo_34
  exact L2 FU 0 _ _ _ _ _ _ hf hP hD hG hS (lv_sub hl [1, 2, 3, 0] rfl)

def f_X6_isGuide (d : PD)  : Option Int32 :=
  some 0
def rmX6_isGuide_4 : Room := { frames := 0, cells := 0, slots := 0, locals := 0 }
abbrev RRX6_isGuide_4 : Room := (headSpec wsX6_isGuide rmX6_isGuide_4).room
set_option maxHeartbeats 4000000 in
set_option maxRecDepth 100000 in
theorem c_X6_isGuide_4 (l : Launch) (dC : Nat → ClassId) (dI : Nat → Nat → Nat) (sz : Nat) (a : Nat) (d : PD)  (r : Int32) (hf : f_X6_isGuide d = some r) : cXi l yX6_isGuide wsX6_isGuide rmX6_isGuide_4 sz [.ref a] (fun U => nwC U ∧ va_P (dC, dI) vwCl [(a, .inr (4, pdV d))] U.heap ∧ va_K (dC, dI) vwCl [] U) r := by
  refine Met.ofW (cc := cX6_isGuide) (maxL := 1) (ret := (some .boolean)) (by decide) rfl ?_
  intro p e s m args below meth c s₁ B hml hv
  obtain ⟨hargs, hsz, hXX⟩ := hv
  have hx := B.exec
  have hb := B.bytes
  have hr := B.returns
  have hts := atoms_spec (ws := wsX6_isGuide) B.pre
  have hown : s.vm.findClass RX6 = some m.cls := findClass_of_methodNamed B.named
  have hlocks := B.notSynchronized
  have hsz : s.heap.size = sz := hsz
  subst hsz
  obtain ⟨A, hAe⟩ : ∃ A : Nat → Prop, A = fun q => s.heap.size ≤ q := ⟨_, rfl⟩
  rw [← hAe]
  have hA : ∀ q : Nat, s.heap.size ≤ q → A q := fun q h => by rw [hAe]; exact h
  obtain ⟨hN, hP, hK⟩ := hXX
  have hS : va_S A s.heap s.heap [] := va_S.rf
  have hl := lv_entry ([.ref a]) (n := 1) (Nat.le_of_ble_eq_true rfl)
  rw [show entryFrame m args 1 = entryFrame m ([.ref a] : List Value).toArray 1 from by rw [hargs], lg_entry_eq]
  generalize (lg_sl ([.ref a]) ++ List.replicate (1 - (lg_sl ([.ref a])).length) Slot.unset).toArray = ls at hl ⊢
  have hl : lv_has ls 1 [(0, .ref a)] := hl
  unfold f_X6_isGuide at hf
  refine lv_iconst (v := 0) hx hb dX6_isGuide_0 (by decide) ?_
  exact rtEz hx hb hr hlocks hS rfl hf dX6_isGuide_1

def rmX6_isGuide_3 : Room := { frames := 0, cells := 0, slots := 0, locals := 0 }
abbrev RRX6_isGuide_3 : Room := (headSpec wsX6_isGuide rmX6_isGuide_3).room
set_option maxHeartbeats 4000000 in
set_option maxRecDepth 100000 in
theorem c_X6_isGuide_3 (l : Launch) (dC : Nat → ClassId) (dI : Nat → Nat → Nat) (sz : Nat) (a : Nat) (d : PD)  (r : Int32) (hf : f_X6_isGuide d = some r) : cXi l yX6_isGuide wsX6_isGuide rmX6_isGuide_3 sz [.ref a] (fun U => nwC U ∧ va_P (dC, dI) vwCl [(a, .inr (3, pdV d))] U.heap ∧ va_K (dC, dI) vwCl [] U) r := by
  refine Met.ofW (cc := cX6_isGuide) (maxL := 1) (ret := (some .boolean)) (by decide) rfl ?_
  intro p e s m args below meth c s₁ B hml hv
  obtain ⟨hargs, hsz, hXX⟩ := hv
  have hx := B.exec
  have hb := B.bytes
  have hr := B.returns
  have hts := atoms_spec (ws := wsX6_isGuide) B.pre
  have hown : s.vm.findClass RX6 = some m.cls := findClass_of_methodNamed B.named
  have hlocks := B.notSynchronized
  have hsz : s.heap.size = sz := hsz
  subst hsz
  obtain ⟨A, hAe⟩ : ∃ A : Nat → Prop, A = fun q => s.heap.size ≤ q := ⟨_, rfl⟩
  rw [← hAe]
  have hA : ∀ q : Nat, s.heap.size ≤ q → A q := fun q h => by rw [hAe]; exact h
  obtain ⟨hN, hP, hK⟩ := hXX
  have hS : va_S A s.heap s.heap [] := va_S.rf
  have hl := lv_entry ([.ref a]) (n := 1) (Nat.le_of_ble_eq_true rfl)
  rw [show entryFrame m args 1 = entryFrame m ([.ref a] : List Value).toArray 1 from by rw [hargs], lg_entry_eq]
  generalize (lg_sl ([.ref a]) ++ List.replicate (1 - (lg_sl ([.ref a])).length) Slot.unset).toArray = ls at hl ⊢
  have hl : lv_has ls 1 [(0, .ref a)] := hl
  unfold f_X6_isGuide at hf
  refine lv_iconst (v := 0) hx hb dX6_isGuide_0 (by decide) ?_
  exact rtEz hx hb hr hlocks hS rfl hf dX6_isGuide_1

def rmX6_isGuide_9 : Room := { frames := 0, cells := 0, slots := 0, locals := 0 }
abbrev RRX6_isGuide_9 : Room := (headSpec wsX6_isGuide rmX6_isGuide_9).room
set_option maxHeartbeats 4000000 in
set_option maxRecDepth 100000 in
theorem c_X6_isGuide_9 (l : Launch) (dC : Nat → ClassId) (dI : Nat → Nat → Nat) (sz : Nat) (a : Nat) (d : PD)  (r : Int32) (hf : f_X6_isGuide d = some r) : cXi l yX6_isGuide wsX6_isGuide rmX6_isGuide_9 sz [.ref a] (fun U => nwC U ∧ va_P (dC, dI) vwCl [(a, .inr (9, pdV d))] U.heap ∧ va_K (dC, dI) vwCl [] U) r := by
  refine Met.ofW (cc := cX6_isGuide) (maxL := 1) (ret := (some .boolean)) (by decide) rfl ?_
  intro p e s m args below meth c s₁ B hml hv
  obtain ⟨hargs, hsz, hXX⟩ := hv
  have hx := B.exec
  have hb := B.bytes
  have hr := B.returns
  have hts := atoms_spec (ws := wsX6_isGuide) B.pre
  have hown : s.vm.findClass RX6 = some m.cls := findClass_of_methodNamed B.named
  have hlocks := B.notSynchronized
  have hsz : s.heap.size = sz := hsz
  subst hsz
  obtain ⟨A, hAe⟩ : ∃ A : Nat → Prop, A = fun q => s.heap.size ≤ q := ⟨_, rfl⟩
  rw [← hAe]
  have hA : ∀ q : Nat, s.heap.size ≤ q → A q := fun q h => by rw [hAe]; exact h
  obtain ⟨hN, hP, hK⟩ := hXX
  have hS : va_S A s.heap s.heap [] := va_S.rf
  have hl := lv_entry ([.ref a]) (n := 1) (Nat.le_of_ble_eq_true rfl)
  rw [show entryFrame m args 1 = entryFrame m ([.ref a] : List Value).toArray 1 from by rw [hargs], lg_entry_eq]
  generalize (lg_sl ([.ref a]) ++ List.replicate (1 - (lg_sl ([.ref a])).length) Slot.unset).toArray = ls at hl ⊢
  have hl : lv_has ls 1 [(0, .ref a)] := hl
  unfold f_X6_isGuide at hf
  refine lv_iconst (v := 0) hx hb dX6_isGuide_0 (by decide) ?_
  exact rtEz hx hb hr hlocks hS rfl hf dX6_isGuide_1

def rmX6_isGuide_0 : Room := { frames := 0, cells := 0, slots := 0, locals := 0 }
abbrev RRX6_isGuide_0 : Room := (headSpec wsX6_isGuide rmX6_isGuide_0).room
set_option maxHeartbeats 4000000 in
set_option maxRecDepth 100000 in
theorem c_X6_isGuide_0 (l : Launch) (dC : Nat → ClassId) (dI : Nat → Nat → Nat) (sz : Nat) (a : Nat) (d : PD)  (r : Int32) (hf : f_X6_isGuide d = some r) : cXi l yX6_isGuide wsX6_isGuide rmX6_isGuide_0 sz [.ref a] (fun U => nwC U ∧ va_P (dC, dI) vwCl [(a, .inr (0, pdV d))] U.heap ∧ va_K (dC, dI) vwCl [] U) r := by
  refine Met.ofW (cc := cX6_isGuide) (maxL := 1) (ret := (some .boolean)) (by decide) rfl ?_
  intro p e s m args below meth c s₁ B hml hv
  obtain ⟨hargs, hsz, hXX⟩ := hv
  have hx := B.exec
  have hb := B.bytes
  have hr := B.returns
  have hts := atoms_spec (ws := wsX6_isGuide) B.pre
  have hown : s.vm.findClass RX6 = some m.cls := findClass_of_methodNamed B.named
  have hlocks := B.notSynchronized
  have hsz : s.heap.size = sz := hsz
  subst hsz
  obtain ⟨A, hAe⟩ : ∃ A : Nat → Prop, A = fun q => s.heap.size ≤ q := ⟨_, rfl⟩
  rw [← hAe]
  have hA : ∀ q : Nat, s.heap.size ≤ q → A q := fun q h => by rw [hAe]; exact h
  obtain ⟨hN, hP, hK⟩ := hXX
  have hS : va_S A s.heap s.heap [] := va_S.rf
  have hl := lv_entry ([.ref a]) (n := 1) (Nat.le_of_ble_eq_true rfl)
  rw [show entryFrame m args 1 = entryFrame m ([.ref a] : List Value).toArray 1 from by rw [hargs], lg_entry_eq]
  generalize (lg_sl ([.ref a]) ++ List.replicate (1 - (lg_sl ([.ref a])).length) Slot.unset).toArray = ls at hl ⊢
  have hl : lv_has ls 1 [(0, .ref a)] := hl
  unfold f_X6_isGuide at hf
  refine lv_iconst (v := 0) hx hb dX6_isGuide_0 (by decide) ?_
  exact rtEz hx hb hr hlocks hS rfl hf dX6_isGuide_1

def f_X2_isGuide (d : PD)  : Option Int32 :=
  some 1
def rmX2_isGuide_2 : Room := { frames := 0, cells := 0, slots := 0, locals := 0 }
abbrev RRX2_isGuide_2 : Room := (headSpec wsX2_isGuide rmX2_isGuide_2).room
set_option maxHeartbeats 4000000 in
set_option maxRecDepth 100000 in
theorem c_X2_isGuide_2 (l : Launch) (dC : Nat → ClassId) (dI : Nat → Nat → Nat) (sz : Nat) (a : Nat) (d : PD)  (r : Int32) (hf : f_X2_isGuide d = some r) : cXi l yX2_isGuide wsX2_isGuide rmX2_isGuide_2 sz [.ref a] (fun U => nwC U ∧ va_P (dC, dI) vwCl [(a, .inr (2, pdV d))] U.heap ∧ va_K (dC, dI) vwCl [] U) r := by
  refine Met.ofW (cc := cX2_isGuide) (maxL := 1) (ret := (some .boolean)) (by decide) rfl ?_
  intro p e s m args below meth c s₁ B hml hv
  obtain ⟨hargs, hsz, hXX⟩ := hv
  have hx := B.exec
  have hb := B.bytes
  have hr := B.returns
  have hts := atoms_spec (ws := wsX2_isGuide) B.pre
  have hown : s.vm.findClass RX2 = some m.cls := findClass_of_methodNamed B.named
  have hlocks := B.notSynchronized
  have hsz : s.heap.size = sz := hsz
  subst hsz
  obtain ⟨A, hAe⟩ : ∃ A : Nat → Prop, A = fun q => s.heap.size ≤ q := ⟨_, rfl⟩
  rw [← hAe]
  have hA : ∀ q : Nat, s.heap.size ≤ q → A q := fun q h => by rw [hAe]; exact h
  obtain ⟨hN, hP, hK⟩ := hXX
  have hS : va_S A s.heap s.heap [] := va_S.rf
  have hl := lv_entry ([.ref a]) (n := 1) (Nat.le_of_ble_eq_true rfl)
  rw [show entryFrame m args 1 = entryFrame m ([.ref a] : List Value).toArray 1 from by rw [hargs], lg_entry_eq]
  generalize (lg_sl ([.ref a]) ++ List.replicate (1 - (lg_sl ([.ref a])).length) Slot.unset).toArray = ls at hl ⊢
  have hl : lv_has ls 1 [(0, .ref a)] := hl
  unfold f_X2_isGuide at hf
  refine lv_iconst (v := 1) hx hb dX2_isGuide_0 (by decide) ?_
  exact rtEz hx hb hr hlocks hS rfl hf dX2_isGuide_1

def rmX6_isGuide_6 : Room := { frames := 0, cells := 0, slots := 0, locals := 0 }
abbrev RRX6_isGuide_6 : Room := (headSpec wsX6_isGuide rmX6_isGuide_6).room
set_option maxHeartbeats 4000000 in
set_option maxRecDepth 100000 in
theorem c_X6_isGuide_6 (l : Launch) (dC : Nat → ClassId) (dI : Nat → Nat → Nat) (sz : Nat) (a : Nat) (d : PD)  (r : Int32) (hf : f_X6_isGuide d = some r) : cXi l yX6_isGuide wsX6_isGuide rmX6_isGuide_6 sz [.ref a] (fun U => nwC U ∧ va_P (dC, dI) vwCl [(a, .inr (6, pdV d))] U.heap ∧ va_K (dC, dI) vwCl [] U) r := by
  refine Met.ofW (cc := cX6_isGuide) (maxL := 1) (ret := (some .boolean)) (by decide) rfl ?_
  intro p e s m args below meth c s₁ B hml hv
  obtain ⟨hargs, hsz, hXX⟩ := hv
  have hx := B.exec
  have hb := B.bytes
  have hr := B.returns
  have hts := atoms_spec (ws := wsX6_isGuide) B.pre
  have hown : s.vm.findClass RX6 = some m.cls := findClass_of_methodNamed B.named
  have hlocks := B.notSynchronized
  have hsz : s.heap.size = sz := hsz
  subst hsz
  obtain ⟨A, hAe⟩ : ∃ A : Nat → Prop, A = fun q => s.heap.size ≤ q := ⟨_, rfl⟩
  rw [← hAe]
  have hA : ∀ q : Nat, s.heap.size ≤ q → A q := fun q h => by rw [hAe]; exact h
  obtain ⟨hN, hP, hK⟩ := hXX
  have hS : va_S A s.heap s.heap [] := va_S.rf
  have hl := lv_entry ([.ref a]) (n := 1) (Nat.le_of_ble_eq_true rfl)
  rw [show entryFrame m args 1 = entryFrame m ([.ref a] : List Value).toArray 1 from by rw [hargs], lg_entry_eq]
  generalize (lg_sl ([.ref a]) ++ List.replicate (1 - (lg_sl ([.ref a])).length) Slot.unset).toArray = ls at hl ⊢
  have hl : lv_has ls 1 [(0, .ref a)] := hl
  unfold f_X6_isGuide at hf
  refine lv_iconst (v := 0) hx hb dX6_isGuide_0 (by decide) ?_
  exact rtEz hx hb hr hlocks hS rfl hf dX6_isGuide_1

def v_isGuide (d : PD)  : Option Int32 :=
  if d.2.2.2 = 1 then f_X6_isGuide d  else if d.2.2.2 = 2 then f_X6_isGuide d  else if d.2.2.2 = 3 then f_X6_isGuide d  else if d.2.2.2 = 4 then f_X6_isGuide d  else if d.2.2.2 = 5 then f_X2_isGuide d  else f_X6_isGuide d 
set_option maxHeartbeats 4000000 in
set_option maxRecDepth 100000 in
theorem vs_X1_hasGuide_103 {p : Program} {l : Launch} {e : Env} {R : Room} {s : State} {m : MethodId} {args : Array Value} {below : List Frame} {meth : Method} {c : Code} {H : Heap} {locs : List Loc} {cells slots : Nat} {Q : State → Prop} {pc : Nat} {ls : Array Slot} {rest As st : List Value} {dC : Nat → ClassId} {dI : Nat → Nat → Nat} {A : Nat → Prop} {nL : Nat} {ws : va_W} {tys : List (ClassId × FieldType)} {a k : Nat} {d : PD}  {r : Int32} (F : CallFix p m c cX1_hasGuide nL s args wsX1_hasGuide RX1) (hN : nwC s) (hK : va_K (dC, dI) vwCl tys s) (hP : va_P (dC, dI) vwCl ws H) (hk : ws[k]? = some (a, pdE d)) (hf : v_isGuide d  = some r) (hAs : As = []) (hsize : ls.size = nL) (hst : st = As.reverse ++ .ref a :: rest) (hW : (rest.map fun v => v.category).sum ≤ 8) (hfr : 1 ≤ R.frames) (hlo : 20 ≤ R.locals) (hdg : decode cX1_hasGuide pc = .ok (.invokevirtual 103, 3)) (hS : va_S A s.heap H locs) (hA : ∀ q : Nat, s.heap.size ≤ q → A q)
    (kk : ∀ (H1 : Heap) (locs1 : List Loc), (∀ q : Nat, q < H.size → H1[q]? = H[q]?) → va_S A s.heap H1 locs1 → W p l e R s m args below meth c H1 locs1 cells slots Q (F0 m (pc + 3) ls (.int r :: rest))) (hce : cells ≤ R.cells) (hsl : slots ≤ R.slots) : W p l e R s m args below meth c H locs cells slots Q (F0 m pc ls st) := by
  subst hAs
  have hts := F.2.2.2.2
  unfold v_isGuide at hf
  unfold pdE at hk
  rcases cls_cases d.2.2.2 with q | q | q | q | q | q
  · rw [q.2] at hk
    rw [if_pos q.1] at hf
    have hPa : va_P (dC, dI) vwCl [(a, .inr (4, pdV d))] H := hP.by (fun _ => k) (fun i q9 hq => by match i, hq with | 0, hq => cases hq; exact hk)
    exact klXUi (rest := rest) (As := []) F (c_X6_isGuide_4 l dC dI H.size a d  r hf) (fun _ U g mk q => ⟨q.1.same rfl, q.2.1, va_K.moved (u := U) (U := U.calling g mk _) (Vm.Alike.refl U.vm) q.2.2⟩) (fun U hU hW => ⟨hN.warm hW, by rw [hU]; exact hPa, va_K.moved hW.alike (hK.sub [] rfl)⟩) (va_cwU 0 hts gX1_hasGuide_X6_isGuide_u103X4 rfl rfl rfl rfl (by decide +kernel) ⟨Nat.le_trans (Nat.le_of_ble_eq_true rfl) hfr, Nat.le_trans (Nat.le_of_ble_eq_true rfl) hlo⟩) (va_recv (hK.sub (tys' := []) [] rfl) hPa (ci := 4) (q0 := 0) rfl rfl) rfl hsize hst hW hdg ⟨hce, hsl⟩ hS hA kk
  · rw [q.2.2] at hk
    rw [if_neg q.1] at hf
    rw [if_pos q.2.1] at hf
    have hPa : va_P (dC, dI) vwCl [(a, .inr (3, pdV d))] H := hP.by (fun _ => k) (fun i q9 hq => by match i, hq with | 0, hq => cases hq; exact hk)
    exact klXUi (rest := rest) (As := []) F (c_X6_isGuide_3 l dC dI H.size a d  r hf) (fun _ U g mk q => ⟨q.1.same rfl, q.2.1, va_K.moved (u := U) (U := U.calling g mk _) (Vm.Alike.refl U.vm) q.2.2⟩) (fun U hU hW => ⟨hN.warm hW, by rw [hU]; exact hPa, va_K.moved hW.alike (hK.sub [] rfl)⟩) (va_cwU 0 hts gX1_hasGuide_X6_isGuide_u103X3 rfl rfl rfl rfl (by decide +kernel) ⟨Nat.le_trans (Nat.le_of_ble_eq_true rfl) hfr, Nat.le_trans (Nat.le_of_ble_eq_true rfl) hlo⟩) (va_recv (hK.sub (tys' := []) [] rfl) hPa (ci := 3) (q0 := 0) rfl rfl) rfl hsize hst hW hdg ⟨hce, hsl⟩ hS hA kk
  · rw [q.2.2.2] at hk
    rw [if_neg q.1] at hf
    rw [if_neg q.2.1] at hf
    rw [if_pos q.2.2.1] at hf
    have hPa : va_P (dC, dI) vwCl [(a, .inr (9, pdV d))] H := hP.by (fun _ => k) (fun i q9 hq => by match i, hq with | 0, hq => cases hq; exact hk)
    exact klXUi (rest := rest) (As := []) F (c_X6_isGuide_9 l dC dI H.size a d  r hf) (fun _ U g mk q => ⟨q.1.same rfl, q.2.1, va_K.moved (u := U) (U := U.calling g mk _) (Vm.Alike.refl U.vm) q.2.2⟩) (fun U hU hW => ⟨hN.warm hW, by rw [hU]; exact hPa, va_K.moved hW.alike (hK.sub [] rfl)⟩) (va_cwU 0 hts gX1_hasGuide_X6_isGuide_u103X9 rfl rfl rfl rfl (by decide +kernel) ⟨Nat.le_trans (Nat.le_of_ble_eq_true rfl) hfr, Nat.le_trans (Nat.le_of_ble_eq_true rfl) hlo⟩) (va_recv (hK.sub (tys' := []) [] rfl) hPa (ci := 9) (q0 := 0) rfl rfl) rfl hsize hst hW hdg ⟨hce, hsl⟩ hS hA kk
  · rw [q.2.2.2.2] at hk
    rw [if_neg q.1] at hf
    rw [if_neg q.2.1] at hf
    rw [if_neg q.2.2.1] at hf
    rw [if_pos q.2.2.2.1] at hf
    have hPa : va_P (dC, dI) vwCl [(a, .inr (0, pdV d))] H := hP.by (fun _ => k) (fun i q9 hq => by match i, hq with | 0, hq => cases hq; exact hk)
    exact klXUi (rest := rest) (As := []) F (c_X6_isGuide_0 l dC dI H.size a d  r hf) (fun _ U g mk q => ⟨q.1.same rfl, q.2.1, va_K.moved (u := U) (U := U.calling g mk _) (Vm.Alike.refl U.vm) q.2.2⟩) (fun U hU hW => ⟨hN.warm hW, by rw [hU]; exact hPa, va_K.moved hW.alike (hK.sub [] rfl)⟩) (va_cwU 0 hts gX1_hasGuide_X6_isGuide_u103X0 rfl rfl rfl rfl (by decide +kernel) ⟨Nat.le_trans (Nat.le_of_ble_eq_true rfl) hfr, Nat.le_trans (Nat.le_of_ble_eq_true rfl) hlo⟩) (va_recv (hK.sub (tys' := []) [] rfl) hPa (ci := 0) (q0 := 0) rfl rfl) rfl hsize hst hW hdg ⟨hce, hsl⟩ hS hA kk
  · rw [q.2.2.2.2.2] at hk
    rw [if_neg q.1] at hf
    rw [if_neg q.2.1] at hf
    rw [if_neg q.2.2.1] at hf
    rw [if_neg q.2.2.2.1] at hf
    rw [if_pos q.2.2.2.2.1] at hf
    have hPa : va_P (dC, dI) vwCl [(a, .inr (2, pdV d))] H := hP.by (fun _ => k) (fun i q9 hq => by match i, hq with | 0, hq => cases hq; exact hk)
    exact klXUi (rest := rest) (As := []) F (c_X2_isGuide_2 l dC dI H.size a d  r hf) (fun _ U g mk q => ⟨q.1.same rfl, q.2.1, va_K.moved (u := U) (U := U.calling g mk _) (Vm.Alike.refl U.vm) q.2.2⟩) (fun U hU hW => ⟨hN.warm hW, by rw [hU]; exact hPa, va_K.moved hW.alike (hK.sub [] rfl)⟩) (va_cwO 0 hts gX1_hasGuide_X2_isGuide_u103X2 rfl rfl rfl (b0 := cX6_isGuide) (m0 := 1) (r0 := (some .boolean)) (by decide +kernel) (by decide +kernel) ⟨Nat.le_trans (Nat.le_of_ble_eq_true rfl) hfr, Nat.le_trans (Nat.le_of_ble_eq_true rfl) hlo⟩) (va_recv (hK.sub (tys' := []) [] rfl) hPa (ci := 2) (q0 := 0) rfl rfl) rfl hsize hst hW hdg ⟨hce, hsl⟩ hS hA kk
  · rw [q.2.2.2.2.2] at hk
    rw [if_neg q.1] at hf
    rw [if_neg q.2.1] at hf
    rw [if_neg q.2.2.1] at hf
    rw [if_neg q.2.2.2.1] at hf
    rw [if_neg q.2.2.2.2.1] at hf
    have hPa : va_P (dC, dI) vwCl [(a, .inr (6, pdV d))] H := hP.by (fun _ => k) (fun i q9 hq => by match i, hq with | 0, hq => cases hq; exact hk)
    exact klXVi (rest := rest) (As := []) F (c_X6_isGuide_6 l dC dI H.size a d  r hf) (fun _ U g mk q => ⟨q.1.same rfl, q.2.1, va_K.moved (u := U) (U := U.calling g mk _) (Vm.Alike.refl U.vm) q.2.2⟩) (fun U hU hW => ⟨hN.warm hW, by rw [hU]; exact hPa, va_K.moved hW.alike (hK.sub [] rfl)⟩) (cwV 0 hts gX1_hasGuide_X6_isGuide rfl rfl rfl (by decide +kernel) ⟨Nat.le_trans (Nat.le_of_ble_eq_true rfl) hfr, Nat.le_trans (Nat.le_of_ble_eq_true rfl) hlo⟩) (va_recv (hK.sub (tys' := []) [] rfl) hPa (ci := 6) (q0 := 0) rfl rfl) rfl hsize hst hW hdg ⟨hce, hsl⟩ hS hA kk

def b_X1_hasGuide_3_2 (S : CS) (p0 : Int32) (y1 : Int32) : Option (Int32 ⊕ Int32) :=
  (if (S.1 1306 0) ≤ y1 then (some (Sum.inr 0)) else (Option.bind (f_X10_hasPorterIn p0 y1) (fun r2 => (if r2 = 0 then (Option.bind (some (y1 + 1)) (fun x3 => some (Sum.inl x3))) else (Option.bind (rdP (S.2.2 0) y1) (fun d4 => Option.bind (v_isGuide d4 ) (fun r5 => (if r5 = 0 then (Option.bind (some (y1 + 1)) (fun x6 => some (Sum.inl x6))) else (some (Sum.inr 1))))))))))
def f_X1_hasGuide_3 (S : CS) (p0 : Int32) : Option Int32 :=
  lp (fun s => b_X1_hasGuide_3_2 S p0 s) FU 0
def rmX1_hasGuide_3 : Room := { frames := 1, cells := 0, slots := 0, locals := 21 }
abbrev RRX1_hasGuide_3 : Room := (headSpec wsX1_hasGuide rmX1_hasGuide_3).room
theorem in1_X1_hasGuide_3 : ∀ w ∈ wsX10, w ∈ wsX1_hasGuide := by decide +kernel
set_option maxHeartbeats 4000000 in
set_option maxRecDepth 100000 in
theorem c_X1_hasGuide_3 (l : Launch) (dC : Nat → ClassId) (dI : Nat → Nat → Nat) (t : Nat → ClassId) (ts aK aV : Nat → Nat) (A : Nat → Prop) (h : Nat → Nat) (tx : Nat) (sz : Nat) (hA0 : ∀ q : Nat, sz ≤ q → A q) (S : CS) (p0 : Int32) (r : Int32) (hf : f_X1_hasGuide_3 S p0 = some r) : cCi l yX1_hasGuide wsX1_hasGuide rmX1_hasGuide_3 dC dI t ts aK aV A h tx tx sz [.ref (h 3), .int p0] S r S := by
  refine Met.ofW (cc := cX1_hasGuide) (maxL := 3) (ret := (some .boolean)) (by decide) rfl ?_
  intro p e s m args below meth c s₁ B hml hv
  obtain ⟨hargs, hsz, hE, hC, hK⟩ := hv
  have hx := B.exec
  have hb := B.bytes
  have hr := B.returns
  have hts := atoms_spec (ws := wsX1_hasGuide) B.pre
  have hown : s.vm.findClass RX1 = some m.cls := findClass_of_methodNamed B.named
  have hlocks := B.notSynchronized
  have hsz : s.heap.size = sz := hsz
  subst hsz
  have hin1 := in1_X1_hasGuide_3
  have lk11_1 : Cond.fieldLink RX1 11 (TX1 0).1 (TX1 0).2.1 (TX1 0).2.2.1 ∈ wsX1_hasGuide := by decide +kernel
  have lk56_1 : Cond.fieldLink RX1 56 (TX1 6).1 (TX1 6).2.1 (TX1 6).2.2.1 ∈ wsX1_hasGuide := by decide +kernel
  have hA : ∀ q : Nat, s.heap.size ≤ q → A q := hA0
  obtain ⟨g, LP, pf, hP, hD, hG⟩ := hC
  have hS : va_S A s.heap s.heap [] := va_S.rf
  have hl := lv_entry ([.ref (h 3), .int p0]) (n := 3) (Nat.le_of_ble_eq_true rfl)
  rw [show entryFrame m args 3 = entryFrame m ([.ref (h 3), .int p0] : List Value).toArray 3 from by rw [hargs], lg_entry_eq]
  generalize (lg_sl ([.ref (h 3), .int p0]) ++ List.replicate (3 - (lg_sl ([.ref (h 3), .int p0])).length) Slot.unset).toArray = ls at hl ⊢
  have hl : lv_has ls 3 [(0, .ref (h 3)), (1, .int p0)] := hl
  unfold f_X1_hasGuide_3 at hf
  refine lv_iconst (v := 0) hx hb dX1_hasGuide_0 (by decide) ?_
  refine lv_istore_n (lv' := [(2, .int 0), (0, .ref (h 3)), (1, .int p0)]) hx hb dX1_hasGuide_1 rfl hl (by decide) rfl (fun ls hl => ?_)
  have L2 : ∀ (n : Nat) (y1 : Int32) (g : Nat → Nat → Option Nat) (LP : List Nat) (pf : Nat → va_E) (H : Heap) (locs : List Loc) (ls : Array Slot), lp (fun s => b_X1_hasGuide_3_2 S p0 s) n y1 = some r → va_P (dC, dI) vwCl (wC t h tx g S ++ va_pl LP pf) H → va_D A (wC t h tx g S ++ va_pl LP pf) → rlC g LP pf S → va_S A s.heap H locs → lv_has ls 3 [(0, .ref (h 3)), (1, .int p0), (2, .int y1)] → W p l e RRX1_hasGuide_3 s m args below meth c H locs 0 0 (MQ below (qcCi dC dI t A h tx r S) args s 0 0 A) (F0 m 2 ls []) := by
    intro n
    induction n with
    | zero => intro y1 g LP pf H locs ls hf; exact lp_z hf
    | succ n ih2 =>
      intro y1 g LP pf H locs ls hf hP hD hG hS hl
      obtain ⟨q2, hf, hq2⟩ := lp_i hf
      have hf : b_X1_hasGuide_3_2 S p0 y1 = some q2 := hf
      unfold b_X1_hasGuide_3_2 at hf
      refine lv_iload_n hx hb dX1_hasGuide_2 rfl (lv_at hl 2 rfl) ?_
      refine lv_aload_n hx hb dX1_hasGuide_3 rfl (lv_at hl 0 rfl) ?_
      refine va_get (D := (dC, dI)) (ci := 1) (v := .int (S.1 1306 0)) (C := RX1) (T := TX1) (N := 10) hx hb hts hin1 hown hK hP 3 rfl rfl 6 (by decide) (hts _ lk56_1) (fun _ h9 => h9) rfl dX1_hasGuide_4 ?_
      refine lv_icmp_ge (tgt := 38) hx hb dX1_hasGuide_7 (by decide) (fun c9 => ?_) (fun c9 => ?_)
      · have hf := (if_pos c9).symm.trans hf
        refine lv_iconst (v := 0) hx hb dX1_hasGuide_38 (by decide) ?_
        have hf := lp_r hf hq2
        exact rtCz hx hb hr hlocks ⟨g, LP, pf, hP, hD, hG⟩ hS rfl (congrArg (fun z => some (z, S)) (Option.some.inj hf)) dX1_hasGuide_39
      · have hf := (if_neg c9).symm.trans hf
        refine lv_iload_n hx hb dX1_hasGuide_10 rfl (lv_at hl 1 rfl) ?_
        refine lv_iload_n hx hb dX1_hasGuide_11 rfl (lv_at hl 2 rfl) ?_
        obtain ⟨r2, er2, hf⟩ := bd hf
        refine klXNi (rest := []) (As := [.int p0, .int y1]) ⟨hx, hb, hml, hown, hts⟩ (c_X10_hasPorterIn l H.size p0 y1 r2 er2) (fun _ _ _ _ _ => trivial) (fun _ _ _ => trivial) ⟨va_cnB 2 hts gX1_hasGuide_X10_hasPorterIn_n66 rfl rfl rfl (hE.1.1 ("OnlyTwo$Camp", 66, ⟨"OnlyTwo", "hasPorterIn", "(II)Z"⟩, "OnlyTwo") (by decide +kernel)) (hts (.initialized RX10) (by decide +kernel)) (by decide +kernel) ⟨Nat.le_of_ble_eq_true rfl, Nat.le_of_ble_eq_true rfl⟩, hts (.static yX10_hasPorterIn) (by decide +kernel), trivial⟩ rfl hl.1 rfl (Nat.le_of_ble_eq_true rfl) dX1_hasGuide_12 ⟨Nat.zero_le _, Nat.zero_le _⟩ hS hA (fun H2 locs hk hS => ?_)
        have hP := kpP hP hk
        generalize H2 = H at hP hS ⊢
        refine lv_if_eq (tgt := 32) hx hb dX1_hasGuide_15 (by decide) (fun c8 => ?_) (fun c8 => ?_)
        · have hf := (if_pos c8).symm.trans hf
          obtain ⟨x3, ex3, hf⟩ := bn hf
          refine lv_iinc (v := x3) (lv' := [(2, .int x3), (0, .ref (h 3)), (1, .int p0)]) hx hb dX1_hasGuide_32 hl (k := 2) rfl (by rw [ex3]; rfl) (by decide) rfl (fun ls hl => ?_)
          refine lv_goto (tgt := 2) hx hb dX1_hasGuide_35 (by decide) ?_
          exact ih2 x3 _ _ _ _ _ _ (lp_l hf hq2) hP hD hG hS (lv_sub hl [1, 2, 0] rfl)
        · have hf := (if_neg c8).symm.trans hf
          refine lv_aload_n hx hb dX1_hasGuide_18 rfl (lv_at hl 0 rfl) ?_
          refine va_get (D := (dC, dI)) (ci := 1) (v := .ref (h 4)) (C := RX1) (T := TX1) (N := 10) hx hb hts hin1 hown hK hP 3 rfl rfl 0 (by decide) (hts _ lk11_1) (fun _ h9 => h9) rfl dX1_hasGuide_19 ?_
          refine lv_iload_n hx hb dX1_hasGuide_22 rfl (lv_at hl 2 rfl) ?_
          obtain ⟨d4, hid4, ed4, hf⟩ := rdP_b hf
          obtain ⟨ad4, gad4, lad4, pad4⟩ := hG 0 (by decide) _ (in_lt hid4)
          rw [← ed4] at pad4
          obtain ⟨kd4, hkd4⟩ := va_pl_get (X := wC t h tx g S) (f := pf) lad4
          rw [pad4] at hkd4
          refine va_aldq hx hb hK hP 4 4 rfl rfl hid4 dX1_hasGuide_23 (kR gad4 ?_)
          obtain ⟨r5, er5, hf⟩ := bd hf
          refine vs_X1_hasGuide_103 (rest := []) (As := []) ⟨hx, hb, hml, hown, hts⟩ hE.1 hK hP hkd4 er5 rfl hl.1 rfl (Nat.le_of_ble_eq_true rfl) (Nat.le_of_ble_eq_true rfl) (Nat.le_of_ble_eq_true rfl) dX1_hasGuide_24 hS hA (fun H2 locs hk2 hS => ?_) (Nat.zero_le _) (Nat.zero_le _)
          have hP := kpP hP hk2
          generalize H2 = H at hP hS ⊢
          refine lv_if_eq (tgt := 32) hx hb dX1_hasGuide_27 (by decide) (fun c7 => ?_) (fun c7 => ?_)
          · have hf := (if_pos c7).symm.trans hf
            obtain ⟨x6, ex6, hf⟩ := bn hf
            refine lv_iinc (v := x6) (lv' := [(2, .int x6), (0, .ref (h 3)), (1, .int p0)]) hx hb dX1_hasGuide_32 hl (k := 2) rfl (by rw [ex6]; rfl) (by decide) rfl (fun ls hl => ?_)
            refine lv_goto (tgt := 2) hx hb dX1_hasGuide_35 (by decide) ?_
            exact ih2 x6 _ _ _ _ _ _ (lp_l hf hq2) hP hD hG hS (lv_sub hl [1, 2, 0] rfl)
          · have hf := (if_neg c7).symm.trans hf
            refine lv_iconst (v := 1) hx hb dX1_hasGuide_30 (by decide) ?_
            have hf := lp_r hf hq2
            exact rtCz hx hb hr hlocks ⟨g, LP, pf, hP, hD, hG⟩ hS rfl (congrArg (fun z => some (z, S)) (Option.some.inj hf)) dX1_hasGuide_31
  exact L2 FU 0 _ _ _ _ _ _ hf hP hD hG hS (lv_sub hl [1, 2, 0] rfl)

def k_X1_isUnlikeEnough_3_8 (S : CS) (p0 : Int32) (y1 : Int32) : Option Int32 :=
  Option.bind (rdI 4 (S.1 5) 0) (fun x2 => (if x2 ≤ (if 0 ≤ y1 then y1 else 0 - y1) then (some 1) else (Option.bind (f_X1_hasGuide_3 S p0) (fun r3 => (if r3 = 0 then (some 0) else (some 1))))))
def b_X1_isUnlikeEnough_3_8 (S : CS) (p0 : Int32) (p1 : Int32) (y6 : Int32) (y7 : Int32) (y8 : Int32) : Option ((Int32 × Int32 × Int32) ⊕ Int32) :=
  (if (S.1 1306 0) ≤ y8 then (some (Sum.inr y6)) else (Option.bind (f_X10_hasPorterIn p0 y8) (fun r9 => (if r9 = 0 then (Option.bind (some (y8 + 1)) (fun x10 => some (Sum.inl (y6, y7, x10)))) else (Option.bind (f_X1_weightOf_3 S y8 p1) (fun r11 => Option.bind (some (y6 + (y7 * r11))) (fun x12 => Option.bind (some (y8 + 1)) (fun x13 => some (Sum.inl (x12, (-1), x13))))))))))
def f_X1_isUnlikeEnough_3 (S : CS) (p0 : Int32) (p1 : Int32) : Option Int32 :=
  Option.bind (lp (fun s => b_X1_isUnlikeEnough_3_8 S p0 p1 s.1 s.2.1 s.2.2) FU (0, 1, 0)) (fun s => k_X1_isUnlikeEnough_3_8 S p0 s)
def rmX1_isUnlikeEnough_3 : Room := { frames := 2, cells := 0, slots := 0, locals := 44 }
abbrev RRX1_isUnlikeEnough_3 : Room := (headSpec wsX1_isUnlikeEnough rmX1_isUnlikeEnough_3).room
theorem in1_X1_isUnlikeEnough_3 : ∀ w ∈ wsX10, w ∈ wsX1_isUnlikeEnough := by decide +kernel
set_option maxHeartbeats 4000000 in
set_option maxRecDepth 100000 in
theorem c_X1_isUnlikeEnough_3 (l : Launch) (dC : Nat → ClassId) (dI : Nat → Nat → Nat) (t : Nat → ClassId) (ts aK aV : Nat → Nat) (A : Nat → Prop) (h : Nat → Nat) (tx : Nat) (sz : Nat) (hA0 : ∀ q : Nat, sz ≤ q → A q) (S : CS) (p0 : Int32) (p1 : Int32) (r : Int32) (hf : f_X1_isUnlikeEnough_3 S p0 p1 = some r) : cCi l yX1_isUnlikeEnough wsX1_isUnlikeEnough rmX1_isUnlikeEnough_3 dC dI t ts aK aV A h tx tx sz [.ref (h 3), .int p0, .int p1] S r S := by
  refine Met.ofW (cc := cX1_isUnlikeEnough) (maxL := 6) (ret := (some .boolean)) (by decide) rfl ?_
  intro p e s m args below meth c s₁ B hml hv
  obtain ⟨hargs, hsz, hE, hC, hK⟩ := hv
  have hx := B.exec
  have hb := B.bytes
  have hr := B.returns
  have hts := atoms_spec (ws := wsX1_isUnlikeEnough) B.pre
  have hown : s.vm.findClass RX1 = some m.cls := findClass_of_methodNamed B.named
  have hlocks := B.notSynchronized
  have hsz : s.heap.size = sz := hsz
  subst hsz
  have hin1 := in1_X1_isUnlikeEnough_3
  have lk17_1 : Cond.fieldLink RX1 17 (TX1 1).1 (TX1 1).2.1 (TX1 1).2.2.1 ∈ wsX1_isUnlikeEnough := by decide +kernel
  have lk56_1 : Cond.fieldLink RX1 56 (TX1 6).1 (TX1 6).2.1 (TX1 6).2.2.1 ∈ wsX1_isUnlikeEnough := by decide +kernel
  have hA : ∀ q : Nat, s.heap.size ≤ q → A q := hA0
  obtain ⟨g, LP, pf, hP, hD, hG⟩ := hC
  have hS : va_S A s.heap s.heap [] := va_S.rf
  have hl := lv_entry ([.ref (h 3), .int p0, .int p1]) (n := 6) (Nat.le_of_ble_eq_true rfl)
  rw [show entryFrame m args 6 = entryFrame m ([.ref (h 3), .int p0, .int p1] : List Value).toArray 6 from by rw [hargs], lg_entry_eq]
  generalize (lg_sl ([.ref (h 3), .int p0, .int p1]) ++ List.replicate (6 - (lg_sl ([.ref (h 3), .int p0, .int p1])).length) Slot.unset).toArray = ls at hl ⊢
  have hl : lv_has ls 6 [(0, .ref (h 3)), (1, .int p0), (2, .int p1)] := hl
  unfold f_X1_isUnlikeEnough_3 at hf
  refine lv_iconst (v := 0) hx hb dX1_isUnlikeEnough_0 (by decide) ?_
  refine lv_istore_n (lv' := [(3, .int 0), (0, .ref (h 3)), (1, .int p0), (2, .int p1)]) hx hb dX1_isUnlikeEnough_1 rfl hl (by decide) rfl (fun ls hl => ?_)
  refine lv_iconst (v := 1) hx hb dX1_isUnlikeEnough_2 (by decide) ?_
  refine lv_istore (lv' := [(4, .int 1), (3, .int 0), (0, .ref (h 3)), (1, .int p0), (2, .int p1)]) hx hb dX1_isUnlikeEnough_3 hl (by decide) rfl (fun ls hl => ?_)
  refine lv_iconst (v := 0) hx hb dX1_isUnlikeEnough_5 (by decide) ?_
  refine lv_istore (lv' := [(5, .int 0), (4, .int 1), (3, .int 0), (0, .ref (h 3)), (1, .int p0), (2, .int p1)]) hx hb dX1_isUnlikeEnough_6 hl (by decide) rfl (fun ls hl => ?_)
  have K8 : ∀ (y1 : Int32) (g : Nat → Nat → Option Nat) (LP : List Nat) (pf : Nat → va_E) (H : Heap) (locs : List Loc) (ls : Array Slot), k_X1_isUnlikeEnough_3_8 S p0 y1 = some r → va_P (dC, dI) vwCl (wC t h tx g S ++ va_pl LP pf) H → va_D A (wC t h tx g S ++ va_pl LP pf) → rlC g LP pf S → va_S A s.heap H locs → lv_has ls 6 [(0, .ref (h 3)), (1, .int p0), (3, .int y1)] → W p l e RRX1_isUnlikeEnough_3 s m args below meth c H locs 0 0 (MQ below (qcCi dC dI t A h tx r S) args s 0 0 A) (F0 m 48 ls []) := by
    intro y1 g LP pf H locs ls hf hP hD hG hS hl
    unfold k_X1_isUnlikeEnough_3_8 at hf
    refine lv_iload_n hx hb dX1_isUnlikeEnough_48 rfl (lv_at hl 2 rfl) ?_
    refine va_mabs hx hb (by rw [hml]; exact hl.1.symm) hown (hts (.methodLink RX1 110 Lib.Math.abs.name) (by decide +kernel)) (hts (.static Lib.Math.abs.name) (by decide +kernel)) (hts (.initialized "java/lang/Math") (by decide +kernel)) (hts (.code Lib.Math.abs.name Lib.Math.abs.code 1 (some .int)) (by decide +kernel)) (Nat.le_of_ble_eq_true rfl) (Nat.le_of_ble_eq_true rfl) (Nat.zero_le _) (Nat.zero_le _) dX1_isUnlikeEnough_49 ?_
    refine lv_aload_n hx hb dX1_isUnlikeEnough_52 rfl (lv_at hl 0 rfl) ?_
    refine va_get (D := (dC, dI)) (ci := 1) (v := .ref (h 5)) (C := RX1) (T := TX1) (N := 10) hx hb hts hin1 hown hK hP 3 rfl rfl 1 (by decide) (hts _ lk17_1) (fun _ h9 => h9) rfl dX1_isUnlikeEnough_53 ?_
    refine lv_iconst (v := 0) hx hb dX1_isUnlikeEnough_56 (by decide) ?_
    obtain ⟨x2, hix2, ex2, hf⟩ := rd_b hf
    refine va_iald hx hb hK hP 5 0 rfl rfl hix2 dX1_isUnlikeEnough_57 (kI ex2 ?_)
    refine lv_icmp_ge (tgt := 69) hx hb dX1_isUnlikeEnough_58 (by decide) (fun c5 => ?_) (fun c5 => ?_)
    · have hf := (if_pos c5).symm.trans hf
      refine lv_iconst (v := 1) hx hb dX1_isUnlikeEnough_69 (by decide) ?_
      refine lv_goto (tgt := 74) hx hb dX1_isUnlikeEnough_70 (by decide) ?_
      exact rtCz hx hb hr hlocks ⟨g, LP, pf, hP, hD, hG⟩ hS rfl (congrArg (fun z => some (z, S)) (Option.some.inj hf)) dX1_isUnlikeEnough_74
    · have hf := (if_neg c5).symm.trans hf
      refine lv_aload_n hx hb dX1_isUnlikeEnough_61 rfl (lv_at hl 0 rfl) ?_
      refine lv_iload_n hx hb dX1_isUnlikeEnough_62 rfl (lv_at hl 1 rfl) ?_
      obtain ⟨r3, er3, hf⟩ := bd hf
      refine klCi (rest := []) (As := [.int p0]) ⟨hx, hb, hml, hown, hts⟩ (c_X1_hasGuide_3 l dC dI t ts aK aV A h tx H.size (fun q hq => hA q (Nat.le_trans hS.1 hq)) S p0 r3 er3) (cwV 1 hts gX1_isUnlikeEnough_X1_hasGuide rfl rfl rfl (by decide +kernel) ⟨Nat.le_of_ble_eq_true rfl, Nat.le_of_ble_eq_true rfl⟩) (va_recv hK hP (ci := 1) (q0 := 3) rfl rfl) rfl hl.1 rfl (Nat.le_of_ble_eq_true rfl) dX1_isUnlikeEnough_63 ⟨Nat.zero_le _, Nat.zero_le _⟩ hE hK ⟨g, LP, pf, hP, hD, hG⟩ hS (fun H locs hC hS => ?_)
      obtain ⟨g, LP, pf, hP, hD, hG⟩ := hC
      refine lv_if_eq (tgt := 73) hx hb dX1_isUnlikeEnough_66 (by decide) (fun c4 => ?_) (fun c4 => ?_)
      · have hf := (if_pos c4).symm.trans hf
        refine lv_iconst (v := 0) hx hb dX1_isUnlikeEnough_73 (by decide) ?_
        exact rtCz hx hb hr hlocks ⟨g, LP, pf, hP, hD, hG⟩ hS rfl (congrArg (fun z => some (z, S)) (Option.some.inj hf)) dX1_isUnlikeEnough_74
      · have hf := (if_neg c4).symm.trans hf
        refine lv_iconst (v := 1) hx hb dX1_isUnlikeEnough_69 (by decide) ?_
        refine lv_goto (tgt := 74) hx hb dX1_isUnlikeEnough_70 (by decide) ?_
        exact rtCz hx hb hr hlocks ⟨g, LP, pf, hP, hD, hG⟩ hS rfl (congrArg (fun z => some (z, S)) (Option.some.inj hf)) dX1_isUnlikeEnough_74
  obtain ⟨z8, ez8, hz8⟩ := bd hf
  have L8 : ∀ (n : Nat) (y6 : Int32) (y7 : Int32) (y8 : Int32) (g : Nat → Nat → Option Nat) (LP : List Nat) (pf : Nat → va_E) (H : Heap) (locs : List Loc) (ls : Array Slot), lp (fun s => b_X1_isUnlikeEnough_3_8 S p0 p1 s.1 s.2.1 s.2.2) n (y6, y7, y8) = some z8 → va_P (dC, dI) vwCl (wC t h tx g S ++ va_pl LP pf) H → va_D A (wC t h tx g S ++ va_pl LP pf) → rlC g LP pf S → va_S A s.heap H locs → lv_has ls 6 [(0, .ref (h 3)), (1, .int p0), (2, .int p1), (3, .int y6), (4, .int y7), (5, .int y8)] → W p l e RRX1_isUnlikeEnough_3 s m args below meth c H locs 0 0 (MQ below (qcCi dC dI t A h tx r S) args s 0 0 A) (F0 m 8 ls []) := by
    intro n
    induction n with
    | zero => intro y6 y7 y8 g LP pf H locs ls hf; exact lp_z hf
    | succ n ih8 =>
      intro y6 y7 y8 g LP pf H locs ls hf hP hD hG hS hl
      obtain ⟨q8, hf, hq8⟩ := lp_i hf
      have hf : b_X1_isUnlikeEnough_3_8 S p0 p1 y6 y7 y8 = some q8 := hf
      unfold b_X1_isUnlikeEnough_3_8 at hf
      refine lv_iload hx hb dX1_isUnlikeEnough_8 (lv_at hl 5 rfl) ?_
      refine lv_aload_n hx hb dX1_isUnlikeEnough_10 rfl (lv_at hl 0 rfl) ?_
      refine va_get (D := (dC, dI)) (ci := 1) (v := .int (S.1 1306 0)) (C := RX1) (T := TX1) (N := 10) hx hb hts hin1 hown hK hP 3 rfl rfl 6 (by decide) (hts _ lk56_1) (fun _ h9 => h9) rfl dX1_isUnlikeEnough_11 ?_
      refine lv_icmp_ge (tgt := 48) hx hb dX1_isUnlikeEnough_14 (by decide) (fun c15 => ?_) (fun c15 => ?_)
      · have hf := (if_pos c15).symm.trans hf
        exact K8 y6 _ _ _ _ _ _ (lp_x (k := (fun s => k_X1_isUnlikeEnough_3_8 S p0 s)) (lp_r hf hq8) hz8) hP hD hG hS (lv_sub hl [0, 1, 3] rfl)
      · have hf := (if_neg c15).symm.trans hf
        refine lv_iload_n hx hb dX1_isUnlikeEnough_17 rfl (lv_at hl 1 rfl) ?_
        refine lv_iload hx hb dX1_isUnlikeEnough_18 (lv_at hl 5 rfl) ?_
        obtain ⟨r9, er9, hf⟩ := bd hf
        refine klXNi (rest := []) (As := [.int p0, .int y8]) ⟨hx, hb, hml, hown, hts⟩ (c_X10_hasPorterIn l H.size p0 y8 r9 er9) (fun _ _ _ _ _ => trivial) (fun _ _ _ => trivial) ⟨va_cnB 2 hts gX1_isUnlikeEnough_X10_hasPorterIn_n66 rfl rfl rfl (hE.1.1 ("OnlyTwo$Camp", 66, ⟨"OnlyTwo", "hasPorterIn", "(II)Z"⟩, "OnlyTwo") (by decide +kernel)) (hts (.initialized RX10) (by decide +kernel)) (by decide +kernel) ⟨Nat.le_of_ble_eq_true rfl, Nat.le_of_ble_eq_true rfl⟩, hts (.static yX10_hasPorterIn) (by decide +kernel), trivial⟩ rfl hl.1 rfl (Nat.le_of_ble_eq_true rfl) dX1_isUnlikeEnough_20 ⟨Nat.zero_le _, Nat.zero_le _⟩ hS hA (fun H2 locs hk hS => ?_)
        have hP := kpP hP hk
        generalize H2 = H at hP hS ⊢
        refine lv_if_eq (tgt := 42) hx hb dX1_isUnlikeEnough_23 (by decide) (fun c14 => ?_) (fun c14 => ?_)
        · have hf := (if_pos c14).symm.trans hf
          obtain ⟨x10, ex10, hf⟩ := bn hf
          refine lv_iinc (v := x10) (lv' := [(5, .int x10), (0, .ref (h 3)), (1, .int p0), (2, .int p1), (3, .int y6), (4, .int y7)]) hx hb dX1_isUnlikeEnough_42 hl (k := 5) rfl (by rw [ex10]; rfl) (by decide) rfl (fun ls hl => ?_)
          refine lv_goto (tgt := 8) hx hb dX1_isUnlikeEnough_45 (by decide) ?_
          exact ih8 y6 y7 x10 _ _ _ _ _ _ (lp_l hf hq8) hP hD hG hS (lv_sub hl [1, 2, 3, 4, 5, 0] rfl)
        · have hf := (if_neg c14).symm.trans hf
          refine lv_iload_n hx hb dX1_isUnlikeEnough_26 rfl (lv_at hl 3 rfl) ?_
          refine lv_iload hx hb dX1_isUnlikeEnough_27 (lv_at hl 4 rfl) ?_
          refine lv_aload_n hx hb dX1_isUnlikeEnough_29 rfl (lv_at hl 0 rfl) ?_
          refine lv_iload hx hb dX1_isUnlikeEnough_30 (lv_at hl 5 rfl) ?_
          refine lv_iload_n hx hb dX1_isUnlikeEnough_32 rfl (lv_at hl 2 rfl) ?_
          obtain ⟨r11, er11, hf⟩ := bd hf
          refine klCi (rest := [.int y7, .int y6]) (As := [.int y8, .int p1]) ⟨hx, hb, hml, hown, hts⟩ (c_X1_weightOf_3 l dC dI t ts aK aV A h tx H.size (fun q hq => hA q (Nat.le_trans hS.1 hq)) S y8 p1 r11 er11) (cwV 2 hts gX1_isUnlikeEnough_X1_weightOf rfl rfl rfl (by decide +kernel) ⟨Nat.le_of_ble_eq_true rfl, Nat.le_of_ble_eq_true rfl⟩) (va_recv hK hP (ci := 1) (q0 := 3) rfl rfl) rfl hl.1 rfl (Nat.le_of_ble_eq_true rfl) dX1_isUnlikeEnough_33 ⟨Nat.zero_le _, Nat.zero_le _⟩ hE hK ⟨g, LP, pf, hP, hD, hG⟩ hS (fun H locs hC hS => ?_)
          obtain ⟨g, LP, pf, hP, hD, hG⟩ := hC
          refine lv_imul hx hb dX1_isUnlikeEnough_36 ?_
          refine lv_iadd hx hb dX1_isUnlikeEnough_37 ?_
          refine lv_topi (fun x12 ex12 => ?_)
          have hf := bs ex12 hf
          refine lv_istore_n (lv' := [(3, .int x12), (0, .ref (h 3)), (1, .int p0), (2, .int p1), (4, .int y7), (5, .int y8)]) hx hb dX1_isUnlikeEnough_38 rfl hl (by decide) rfl (fun ls hl => ?_)
          refine lv_iconst (v := (-1)) hx hb dX1_isUnlikeEnough_39 (by decide) ?_
          refine lv_istore (lv' := [(4, .int (-1)), (3, .int x12), (0, .ref (h 3)), (1, .int p0), (2, .int p1), (5, .int y8)]) hx hb dX1_isUnlikeEnough_40 hl (by decide) rfl (fun ls hl => ?_)
          obtain ⟨x13, ex13, hf⟩ := bn hf
          refine lv_iinc (v := x13) (lv' := [(5, .int x13), (4, .int (-1)), (3, .int x12), (0, .ref (h 3)), (1, .int p0), (2, .int p1)]) hx hb dX1_isUnlikeEnough_42 hl (k := 5) rfl (by rw [ex13]; rfl) (by decide) rfl (fun ls hl => ?_)
          refine lv_goto (tgt := 8) hx hb dX1_isUnlikeEnough_45 (by decide) ?_
          exact ih8 x12 (-1) x13 _ _ _ _ _ _ (lp_l hf hq8) hP hD hG hS (lv_sub hl [3, 4, 5, 2, 1, 0] rfl)
  exact L8 FU 0 1 0 _ _ _ _ _ _ ez8 hP hD hG hS (lv_sub hl [3, 4, 5, 2, 1, 0] rfl)

def f_J6_bitCount_0f7a4 (p0 : Int32) : Option Int32 :=
  Option.bind (some (p0 - (((Int32.toUInt32 p0 >>> (Int32.toUInt32 1 &&& Int32.toUInt32 31)).toInt32) &&& 1431655765))) (fun x1 => Option.bind (some ((x1 &&& 858993459) + (((Int32.toUInt32 x1 >>> (Int32.toUInt32 2 &&& Int32.toUInt32 31)).toInt32) &&& 858993459))) (fun x2 => Option.bind (some ((x2 + ((Int32.toUInt32 x2 >>> (Int32.toUInt32 4 &&& Int32.toUInt32 31)).toInt32)) &&& 252645135)) (fun x3 => Option.bind (some (x3 + ((Int32.toUInt32 x3 >>> (Int32.toUInt32 8 &&& Int32.toUInt32 31)).toInt32))) (fun x4 => Option.bind (some (x4 + ((Int32.toUInt32 x4 >>> (Int32.toUInt32 16 &&& Int32.toUInt32 31)).toInt32))) (fun x5 => some (x5 &&& 63))))))
def rmJ6_bitCount_0f7a4 : Room := { frames := 0, cells := 0, slots := 0, locals := 0 }
abbrev RRJ6_bitCount_0f7a4 : Room := (headSpec wsJ6_bitCount_0f7a4 rmJ6_bitCount_0f7a4).room
set_option maxHeartbeats 4000000 in
set_option maxRecDepth 100000 in
theorem c_J6_bitCount_0f7a4 (l : Launch) (sz : Nat) (p0 : Int32) (r : Int32) (hf : f_J6_bitCount_0f7a4 p0 = some r) : cXi l yJ6_bitCount_0f7a4 wsJ6_bitCount_0f7a4 rmJ6_bitCount_0f7a4 sz [.int p0] (fun _ => True) r := by
  refine Met.ofW (cc := cJ6_bitCount_0f7a4) (maxL := 1) (ret := (some .int)) (by decide) rfl ?_
  intro p e s m args below meth c s₁ B hml hv
  obtain ⟨hargs, hsz, hXX⟩ := hv
  have hx := B.exec
  have hb := B.bytes
  have hr := B.returns
  have hts := atoms_spec (ws := wsJ6_bitCount_0f7a4) B.pre
  have hown : s.vm.findClass RJ6 = some m.cls := findClass_of_methodNamed B.named
  have hlocks := B.notSynchronized
  have hsz : s.heap.size = sz := hsz
  subst hsz
  obtain ⟨A, hAe⟩ : ∃ A : Nat → Prop, A = fun q => s.heap.size ≤ q := ⟨_, rfl⟩
  rw [← hAe]
  have hA : ∀ q : Nat, s.heap.size ≤ q → A q := fun q h => by rw [hAe]; exact h
  have hS : va_S A s.heap s.heap [] := va_S.rf
  have hl := lv_entry ([.int p0]) (n := 1) (Nat.le_of_ble_eq_true rfl)
  rw [show entryFrame m args 1 = entryFrame m ([.int p0] : List Value).toArray 1 from by rw [hargs], lg_entry_eq]
  generalize (lg_sl ([.int p0]) ++ List.replicate (1 - (lg_sl ([.int p0])).length) Slot.unset).toArray = ls at hl ⊢
  have hl : lv_has ls 1 [(0, .int p0)] := hl
  unfold f_J6_bitCount_0f7a4 at hf
  refine lv_iload_n hx hb dJ6_bitCount_0f7a4_0 rfl (lv_at hl 0 rfl) ?_
  refine lv_iload_n hx hb dJ6_bitCount_0f7a4_1 rfl (lv_at hl 0 rfl) ?_
  refine lv_iconst (v := 1) hx hb dJ6_bitCount_0f7a4_2 (by decide) ?_
  refine lv_iushr hx hb dJ6_bitCount_0f7a4_3 rfl ?_
  refine lv_ldcw (v := 1431655765) hx hb hown (hts (.constant RJ6 265 (1431655765)) (by decide +kernel)) dJ6_bitCount_0f7a4_4 ?_
  refine lv_iand hx hb dJ6_bitCount_0f7a4_7 ?_
  refine lv_isub hx hb dJ6_bitCount_0f7a4_8 ?_
  refine lv_topi (fun x1 ex1 => ?_)
  have hf := bs ex1 hf
  refine lv_istore_n (lv' := [(0, .int x1)]) hx hb dJ6_bitCount_0f7a4_9 rfl hl (by decide) rfl (fun ls hl => ?_)
  refine lv_iload_n hx hb dJ6_bitCount_0f7a4_10 rfl (lv_at hl 0 rfl) ?_
  refine lv_ldcw (v := 858993459) hx hb hown (hts (.constant RJ6 266 (858993459)) (by decide +kernel)) dJ6_bitCount_0f7a4_11 ?_
  refine lv_iand hx hb dJ6_bitCount_0f7a4_14 ?_
  refine lv_iload_n hx hb dJ6_bitCount_0f7a4_15 rfl (lv_at hl 0 rfl) ?_
  refine lv_iconst (v := 2) hx hb dJ6_bitCount_0f7a4_16 (by decide) ?_
  refine lv_iushr hx hb dJ6_bitCount_0f7a4_17 rfl ?_
  refine lv_ldcw (v := 858993459) hx hb hown (hts (.constant RJ6 266 (858993459)) (by decide +kernel)) dJ6_bitCount_0f7a4_18 ?_
  refine lv_iand hx hb dJ6_bitCount_0f7a4_21 ?_
  refine lv_iadd hx hb dJ6_bitCount_0f7a4_22 ?_
  refine lv_topi (fun x2 ex2 => ?_)
  have hf := bs ex2 hf
  refine lv_istore_n (lv' := [(0, .int x2)]) hx hb dJ6_bitCount_0f7a4_23 rfl hl (by decide) rfl (fun ls hl => ?_)
  refine lv_iload_n hx hb dJ6_bitCount_0f7a4_24 rfl (lv_at hl 0 rfl) ?_
  refine lv_iload_n hx hb dJ6_bitCount_0f7a4_25 rfl (lv_at hl 0 rfl) ?_
  refine lv_iconst (v := 4) hx hb dJ6_bitCount_0f7a4_26 (by decide) ?_
  refine lv_iushr hx hb dJ6_bitCount_0f7a4_27 rfl ?_
  refine lv_iadd hx hb dJ6_bitCount_0f7a4_28 ?_
  refine lv_ldcw (v := 252645135) hx hb hown (hts (.constant RJ6 267 (252645135)) (by decide +kernel)) dJ6_bitCount_0f7a4_29 ?_
  refine lv_iand hx hb dJ6_bitCount_0f7a4_32 ?_
  refine lv_topi (fun x3 ex3 => ?_)
  have hf := bs ex3 hf
  refine lv_istore_n (lv' := [(0, .int x3)]) hx hb dJ6_bitCount_0f7a4_33 rfl hl (by decide) rfl (fun ls hl => ?_)
  refine lv_iload_n hx hb dJ6_bitCount_0f7a4_34 rfl (lv_at hl 0 rfl) ?_
  refine lv_iload_n hx hb dJ6_bitCount_0f7a4_35 rfl (lv_at hl 0 rfl) ?_
  refine lv_bipush (v := 8) hx hb dJ6_bitCount_0f7a4_36 (by decide) ?_
  refine lv_iushr hx hb dJ6_bitCount_0f7a4_38 rfl ?_
  refine lv_iadd hx hb dJ6_bitCount_0f7a4_39 ?_
  refine lv_topi (fun x4 ex4 => ?_)
  have hf := bs ex4 hf
  refine lv_istore_n (lv' := [(0, .int x4)]) hx hb dJ6_bitCount_0f7a4_40 rfl hl (by decide) rfl (fun ls hl => ?_)
  refine lv_iload_n hx hb dJ6_bitCount_0f7a4_41 rfl (lv_at hl 0 rfl) ?_
  refine lv_iload_n hx hb dJ6_bitCount_0f7a4_42 rfl (lv_at hl 0 rfl) ?_
  refine lv_bipush (v := 16) hx hb dJ6_bitCount_0f7a4_43 (by decide) ?_
  refine lv_iushr hx hb dJ6_bitCount_0f7a4_45 rfl ?_
  refine lv_iadd hx hb dJ6_bitCount_0f7a4_46 ?_
  refine lv_topi (fun x5 ex5 => ?_)
  have hf := bs ex5 hf
  refine lv_istore_n (lv' := [(0, .int x5)]) hx hb dJ6_bitCount_0f7a4_47 rfl hl (by decide) rfl (fun ls hl => ?_)
  refine lv_iload_n hx hb dJ6_bitCount_0f7a4_48 rfl (lv_at hl 0 rfl) ?_
  refine lv_bipush (v := 63) hx hb dJ6_bitCount_0f7a4_49 (by decide) ?_
  refine lv_iand hx hb dJ6_bitCount_0f7a4_51 ?_
  exact rtEi hx hb hr hlocks hS hf dJ6_bitCount_0f7a4_52

def j_X1_whyNot_3_44 (S : CS) (p0 : Int32) (p1 : Int32) : Option Int32 :=
  Option.bind (f_X1_minutesOf_3 S p0) (fun r4 => (if (p1 + r4) ≤ 240 then (some 0) else (some 6)))
def j_X1_whyNot_3_13 (S : CS) (p0 : Int32) (p1 : Int32) (p2 : Int32) (r1 : Int32) (k2 : Int32) : Option Int32 :=
  (if r1 = k2 then (Option.bind (f_X1_hasNeverSo_3 S p0 p2) (fun r3 => (if r3 = 0 then ((if p2 = 0 then (Option.bind (f_X1_isUnlikeEnough_3 S p0 p1) (fun r6 => (if r6 = 0 then (some 5) else (j_X1_whyNot_3_44 S p0 p1)))) else (j_X1_whyNot_3_44 S p0 p1))) else (some 4)))) else (some 3))
def f_X1_whyNot_3 (S : CS) (p0 : Int32) (p1 : Int32) (p2 : Int32) : Option Int32 :=
  Option.bind (f_J6_bitCount_0f7a4 p0) (fun r1 => (if p2 = 0 then (j_X1_whyNot_3_13 S p0 p1 p2 r1 2) else (j_X1_whyNot_3_13 S p0 p1 p2 r1 1)))
def rmX1_whyNot_3 : Room := { frames := 3, cells := 0, slots := 0, locals := 69 }
abbrev RRX1_whyNot_3 : Room := (headSpec wsX1_whyNot rmX1_whyNot_3).room
set_option maxHeartbeats 4000000 in
set_option maxRecDepth 100000 in
theorem c_X1_whyNot_3 (l : Launch) (dC : Nat → ClassId) (dI : Nat → Nat → Nat) (t : Nat → ClassId) (ts aK aV : Nat → Nat) (A : Nat → Prop) (h : Nat → Nat) (tx : Nat) (sz : Nat) (hA0 : ∀ q : Nat, sz ≤ q → A q) (S : CS) (p0 : Int32) (p1 : Int32) (p2 : Int32) (r : Int32) (hf : f_X1_whyNot_3 S p0 p1 p2 = some r) : cCi l yX1_whyNot wsX1_whyNot rmX1_whyNot_3 dC dI t ts aK aV A h tx tx sz [.ref (h 3), .int p0, .int p1, .int p2] S r S := by
  refine Met.ofW (cc := cX1_whyNot) (maxL := 4) (ret := (some .int)) (by decide) rfl ?_
  intro p e s m args below meth c s₁ B hml hv
  obtain ⟨hargs, hsz, hE, hC, hK⟩ := hv
  have hx := B.exec
  have hb := B.bytes
  have hr := B.returns
  have hts := atoms_spec (ws := wsX1_whyNot) B.pre
  have hown : s.vm.findClass RX1 = some m.cls := findClass_of_methodNamed B.named
  have hlocks := B.notSynchronized
  have hsz : s.heap.size = sz := hsz
  subst hsz
  have hA : ∀ q : Nat, s.heap.size ≤ q → A q := hA0
  obtain ⟨g, LP, pf, hP, hD, hG⟩ := hC
  have hS : va_S A s.heap s.heap [] := va_S.rf
  have hl := lv_entry ([.ref (h 3), .int p0, .int p1, .int p2]) (n := 4) (Nat.le_of_ble_eq_true rfl)
  rw [show entryFrame m args 4 = entryFrame m ([.ref (h 3), .int p0, .int p1, .int p2] : List Value).toArray 4 from by rw [hargs], lg_entry_eq]
  generalize (lg_sl ([.ref (h 3), .int p0, .int p1, .int p2]) ++ List.replicate (4 - (lg_sl ([.ref (h 3), .int p0, .int p1, .int p2])).length) Slot.unset).toArray = ls at hl ⊢
  have hl : lv_has ls 4 [(0, .ref (h 3)), (1, .int p0), (2, .int p1), (3, .int p2)] := hl
  unfold f_X1_whyNot_3 at hf
  refine lv_iload_n hx hb dX1_whyNot_0 rfl (lv_at hl 1 rfl) ?_
  obtain ⟨r1, er1, hf⟩ := bd hf
  refine klXi (rest := []) (As := [.int p0]) ⟨hx, hb, hml, hown, hts⟩ (c_J6_bitCount_0f7a4 l s.heap.size p0 r1 er1) (fun _ _ _ _ _ => trivial) (fun _ _ _ => trivial) (va_cwS 1 hts gX1_whyNot_J6_bitCount_0f7a4 rfl rfl rfl (by decide +kernel) ⟨Nat.le_of_ble_eq_true rfl, Nat.le_of_ble_eq_true rfl⟩) rfl hl.1 rfl (Nat.le_of_ble_eq_true rfl) dX1_whyNot_1 ⟨Nat.zero_le _, Nat.zero_le _⟩ hS hA (fun H2 locs hk hS => ?_)
  have hP := kpP hP hk
  generalize H2 = H at hP hS ⊢
  refine lv_iload_n hx hb dX1_whyNot_4 rfl (lv_at hl 3 rfl) ?_
  have J13 : ∀ (k2 : Int32) (g : Nat → Nat → Option Nat) (LP : List Nat) (pf : Nat → va_E) (H : Heap) (locs : List Loc) (ls : Array Slot), j_X1_whyNot_3_13 S p0 p1 p2 r1 k2 = some r → va_P (dC, dI) vwCl (wC t h tx g S ++ va_pl LP pf) H → va_D A (wC t h tx g S ++ va_pl LP pf) → rlC g LP pf S → va_S A s.heap H locs → lv_has ls 4 [(0, .ref (h 3)), (1, .int p0), (2, .int p1), (3, .int p2)] → W p l e RRX1_whyNot_3 s m args below meth c H locs 0 0 (MQ below (qcCi dC dI t A h tx r S) args s 0 0 A) (F0 m 13 ls [.int k2, .int r1]) := by
    intro k2 g LP pf H locs ls hf hP hD hG hS hl
    unfold j_X1_whyNot_3_13 at hf
    refine lv_icmp_eq (tgt := 18) hx hb dX1_whyNot_13 (by decide) (fun c10 => ?_) (fun c10 => ?_)
    · have hf := (if_pos c10).symm.trans hf
      refine lv_aload_n hx hb dX1_whyNot_18 rfl (lv_at hl 0 rfl) ?_
      refine lv_iload_n hx hb dX1_whyNot_19 rfl (lv_at hl 1 rfl) ?_
      refine lv_iload_n hx hb dX1_whyNot_20 rfl (lv_at hl 3 rfl) ?_
      obtain ⟨r3, er3, hf⟩ := bd hf
      refine klCi (rest := []) (As := [.int p0, .int p2]) ⟨hx, hb, hml, hown, hts⟩ (c_X1_hasNeverSo_3 l dC dI t ts aK aV A h tx H.size (fun q hq => hA q (Nat.le_trans hS.1 hq)) S p0 p2 r3 er3) (cwV 2 hts gX1_whyNot_X1_hasNeverSo rfl rfl rfl (by decide +kernel) ⟨Nat.le_of_ble_eq_true rfl, Nat.le_of_ble_eq_true rfl⟩) (va_recv hK hP (ci := 1) (q0 := 3) rfl rfl) rfl hl.1 rfl (Nat.le_of_ble_eq_true rfl) dX1_whyNot_21 ⟨Nat.zero_le _, Nat.zero_le _⟩ hE hK ⟨g, LP, pf, hP, hD, hG⟩ hS (fun H locs hC hS => ?_)
      obtain ⟨g, LP, pf, hP, hD, hG⟩ := hC
      refine lv_if_eq (tgt := 29) hx hb dX1_whyNot_24 (by decide) (fun c9 => ?_) (fun c9 => ?_)
      · have hf := (if_pos c9).symm.trans hf
        refine lv_iload_n hx hb dX1_whyNot_29 rfl (lv_at hl 3 rfl) ?_
        have J44 : ∀  (g : Nat → Nat → Option Nat) (LP : List Nat) (pf : Nat → va_E) (H : Heap) (locs : List Loc) (ls : Array Slot), j_X1_whyNot_3_44 S p0 p1 = some r → va_P (dC, dI) vwCl (wC t h tx g S ++ va_pl LP pf) H → va_D A (wC t h tx g S ++ va_pl LP pf) → rlC g LP pf S → va_S A s.heap H locs → lv_has ls 4 [(0, .ref (h 3)), (1, .int p0), (2, .int p1)] → W p l e RRX1_whyNot_3 s m args below meth c H locs 0 0 (MQ below (qcCi dC dI t A h tx r S) args s 0 0 A) (F0 m 44 ls []) := by
          intro  g LP pf H locs ls hf hP hD hG hS hl
          unfold j_X1_whyNot_3_44 at hf
          refine lv_iload_n hx hb dX1_whyNot_44 rfl (lv_at hl 2 rfl) ?_
          refine lv_aload_n hx hb dX1_whyNot_45 rfl (lv_at hl 0 rfl) ?_
          refine lv_iload_n hx hb dX1_whyNot_46 rfl (lv_at hl 1 rfl) ?_
          obtain ⟨r4, er4, hf⟩ := bd hf
          refine klCi (rest := [.int p1]) (As := [.int p0]) ⟨hx, hb, hml, hown, hts⟩ (c_X1_minutesOf_3 l dC dI t ts aK aV A h tx H.size (fun q hq => hA q (Nat.le_trans hS.1 hq)) S p0 r4 er4) (cwV 1 hts gX1_whyNot_X1_minutesOf rfl rfl rfl (by decide +kernel) ⟨Nat.le_of_ble_eq_true rfl, Nat.le_of_ble_eq_true rfl⟩) (va_recv hK hP (ci := 1) (q0 := 3) rfl rfl) rfl hl.1 rfl (Nat.le_of_ble_eq_true rfl) dX1_whyNot_47 ⟨Nat.zero_le _, Nat.zero_le _⟩ hE hK ⟨g, LP, pf, hP, hD, hG⟩ hS (fun H locs hC hS => ?_)
          obtain ⟨g, LP, pf, hP, hD, hG⟩ := hC
          refine lv_iadd hx hb dX1_whyNot_50 ?_
          refine lv_sipush (v := 240) hx hb dX1_whyNot_51 (by decide) ?_
          refine lv_icmp_le (tgt := 62) hx hb dX1_whyNot_54 (by decide) (fun c5 => ?_) (fun c5 => ?_)
          · have hf := (if_pos c5).symm.trans hf
            refine lv_iconst (v := 0) hx hb dX1_whyNot_62 (by decide) ?_
            exact rtCi hx hb hr hlocks ⟨g, LP, pf, hP, hD, hG⟩ hS (congrArg (fun z => some (z, S)) (Option.some.inj hf)) dX1_whyNot_63
          · have hf := (if_neg c5).symm.trans hf
            refine lv_bipush (v := 6) hx hb dX1_whyNot_57 (by decide) ?_
            refine lv_goto (tgt := 63) hx hb dX1_whyNot_59 (by decide) ?_
            exact rtCi hx hb hr hlocks ⟨g, LP, pf, hP, hD, hG⟩ hS (congrArg (fun z => some (z, S)) (Option.some.inj hf)) dX1_whyNot_63
        refine lv_if_ne (tgt := 44) hx hb dX1_whyNot_30 (by decide) (fun c8 => ?_) (fun c8 => ?_)
        · have hf := (if_neg c8).symm.trans hf
          exact J44  _ _ _ _ _ _ hf hP hD hG hS (lv_sub hl [0, 1, 2] rfl)
        · have hf := (if_pos c8).symm.trans hf
          refine lv_aload_n hx hb dX1_whyNot_33 rfl (lv_at hl 0 rfl) ?_
          refine lv_iload_n hx hb dX1_whyNot_34 rfl (lv_at hl 1 rfl) ?_
          refine lv_iload_n hx hb dX1_whyNot_35 rfl (lv_at hl 2 rfl) ?_
          obtain ⟨r6, er6, hf⟩ := bd hf
          refine klCi (rest := []) (As := [.int p0, .int p1]) ⟨hx, hb, hml, hown, hts⟩ (c_X1_isUnlikeEnough_3 l dC dI t ts aK aV A h tx H.size (fun q hq => hA q (Nat.le_trans hS.1 hq)) S p0 p1 r6 er6) (cwV 2 hts gX1_whyNot_X1_isUnlikeEnough rfl rfl rfl (by decide +kernel) ⟨Nat.le_of_ble_eq_true rfl, Nat.le_of_ble_eq_true rfl⟩) (va_recv hK hP (ci := 1) (q0 := 3) rfl rfl) rfl hl.1 rfl (Nat.le_of_ble_eq_true rfl) dX1_whyNot_36 ⟨Nat.zero_le _, Nat.zero_le _⟩ hE hK ⟨g, LP, pf, hP, hD, hG⟩ hS (fun H locs hC hS => ?_)
          obtain ⟨g, LP, pf, hP, hD, hG⟩ := hC
          refine lv_if_ne (tgt := 44) hx hb dX1_whyNot_39 (by decide) (fun c7 => ?_) (fun c7 => ?_)
          · have hf := (if_neg c7).symm.trans hf
            exact J44  _ _ _ _ _ _ hf hP hD hG hS (lv_sub hl [0, 1, 2] rfl)
          · have hf := (if_pos c7).symm.trans hf
            refine lv_iconst (v := 5) hx hb dX1_whyNot_42 (by decide) ?_
            exact rtCi hx hb hr hlocks ⟨g, LP, pf, hP, hD, hG⟩ hS (congrArg (fun z => some (z, S)) (Option.some.inj hf)) dX1_whyNot_43
      · have hf := (if_neg c9).symm.trans hf
        refine lv_iconst (v := 4) hx hb dX1_whyNot_27 (by decide) ?_
        exact rtCi hx hb hr hlocks ⟨g, LP, pf, hP, hD, hG⟩ hS (congrArg (fun z => some (z, S)) (Option.some.inj hf)) dX1_whyNot_28
    · have hf := (if_neg c10).symm.trans hf
      refine lv_iconst (v := 3) hx hb dX1_whyNot_16 (by decide) ?_
      exact rtCi hx hb hr hlocks ⟨g, LP, pf, hP, hD, hG⟩ hS (congrArg (fun z => some (z, S)) (Option.some.inj hf)) dX1_whyNot_17
  refine lv_if_eq (tgt := 12) hx hb dX1_whyNot_5 (by decide) (fun c11 => ?_) (fun c11 => ?_)
  · have hf := (if_pos c11).symm.trans hf
    refine lv_iconst (v := 2) hx hb dX1_whyNot_12 (by decide) ?_
    exact J13 2 _ _ _ _ _ _ hf hP hD hG hS (lv_sub hl [0, 1, 2, 3] rfl)
  · have hf := (if_neg c11).symm.trans hf
    refine lv_iconst (v := 1) hx hb dX1_whyNot_8 (by decide) ?_
    refine lv_goto (tgt := 13) hx hb dX1_whyNot_9 (by decide) ?_
    exact J13 1 _ _ _ _ _ _ hf hP hD hG hS (lv_sub hl [0, 1, 2, 3] rfl)
