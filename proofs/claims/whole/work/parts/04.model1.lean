def f_X11_in (p0 : Int64) (p1 : Int64) (p2 : Int64) : Option Int32 :=
  (if (lg_cmp p0 p1) < 0 then (some 0) else ((if 0 < (lg_cmp p0 p2) then (some 0) else (some 1))))
def rmX11_in : Room := { frames := 0, cells := 0, slots := 0, locals := 0 }
abbrev RRX11_in : Room := (headSpec wsX11_in rmX11_in).room
set_option maxHeartbeats 4000000 in
set_option maxRecDepth 100000 in
theorem c_X11_in (l : Launch) (sz : Nat) (p0 : Int64) (p1 : Int64) (p2 : Int64) (r : Int32) (hf : f_X11_in p0 p1 p2 = some r) : cEi l yX11_in wsX11_in rmX11_in sz [.long p0, .long p1, .long p2] r := by
  refine Met.ofW (cc := cX11_in) (maxL := 6) (ret := (some .boolean)) (by decide) rfl ?_
  intro p e s m args below meth c s₁ B hml hv
  obtain ⟨hargs, hsz⟩ := hv
  have hx := B.exec
  have hb := B.bytes
  have hr := B.returns
  have hts := atoms_spec (ws := wsX11_in) B.pre
  have hown : s.vm.findClass RX11 = some m.cls := findClass_of_methodNamed B.named
  have hlocks := B.notSynchronized
  have hsz : s.heap.size = sz := hsz
  subst hsz
  obtain ⟨A, hAe⟩ : ∃ A : Nat → Prop, A = fun q => s.heap.size ≤ q := ⟨_, rfl⟩
  rw [← hAe]
  have hA : ∀ q : Nat, s.heap.size ≤ q → A q := fun q h => by rw [hAe]; exact h
  have hS : va_S A s.heap s.heap [] := va_S.rf
  have hl := lv_entry ([.long p0, .long p1, .long p2]) (n := 6) (Nat.le_of_ble_eq_true rfl)
  rw [show entryFrame m args 6 = entryFrame m ([.long p0, .long p1, .long p2] : List Value).toArray 6 from by rw [hargs], lg_entry_eq]
  generalize (lg_sl ([.long p0, .long p1, .long p2]) ++ List.replicate (6 - (lg_sl ([.long p0, .long p1, .long p2])).length) Slot.unset).toArray = ls at hl ⊢
  have hl : lv_has ls 6 [(0, .long p0), (2, .long p1), (4, .long p2)] := hl
  unfold f_X11_in at hf
  refine lv_lload_n hx hb dX11_in_0 rfl (lv_at hl 0 rfl) ?_
  refine lv_lload_n hx hb dX11_in_1 rfl (lv_at hl 1 rfl) ?_
  refine W.lcmp hx hb dX11_in_2 ?_
  refine lv_if_lt (tgt := 17) hx hb dX11_in_3 (by decide) (fun c2 => ?_) (fun c2 => ?_)
  · have hf := (if_pos c2).symm.trans hf
    refine lv_iconst (v := 0) hx hb dX11_in_17 (by decide) ?_
    exact rtEz hx hb hr hlocks hS rfl hf dX11_in_18
  · have hf := (if_neg c2).symm.trans hf
    refine lv_lload_n hx hb dX11_in_6 rfl (lv_at hl 0 rfl) ?_
    refine lv_lload hx hb dX11_in_7 (lv_at hl 2 rfl) ?_
    refine W.lcmp hx hb dX11_in_9 ?_
    refine lv_if_gt (tgt := 17) hx hb dX11_in_10 (by decide) (fun c1 => ?_) (fun c1 => ?_)
    · have hf := (if_pos c1).symm.trans hf
      refine lv_iconst (v := 0) hx hb dX11_in_17 (by decide) ?_
      exact rtEz hx hb hr hlocks hS rfl hf dX11_in_18
    · have hf := (if_neg c1).symm.trans hf
      refine lv_iconst (v := 1) hx hb dX11_in_13 (by decide) ?_
      refine lv_goto (tgt := 18) hx hb dX11_in_14 (by decide) ?_
      exact rtEz hx hb hr hlocks hS rfl hf dX11_in_18

def f_X11_bad (M : MS) (p0 : Int32) : Option (Int32 × MS) :=
  Option.bind (rdI 3 (M 3) 0) (fun x1 => Option.bind (wrM M 3 3 0 (x1 + 1)) (fun M2 => some ((p0, M2))))
def rmX11_bad : Room := { frames := 0, cells := 0, slots := 0, locals := 0 }
abbrev RRX11_bad : Room := (headSpec wsX11_bad rmX11_bad).room
theorem inX11_bad : ∀ w ∈ wsX110, w ∈ wsX11_bad := by decide +kernel
set_option maxHeartbeats 4000000 in
set_option maxRecDepth 100000 in
theorem c_X11_bad (l : Launch) (dC : Nat → ClassId) (dI : Nat → Nat → Nat) (tI tZ : ClassId) (h : Nat → Nat) (sz : Nat) (M : MS) (p0 : Int32) (r : Int32) (M' : MS) (hf : f_X11_bad M p0 = some (r, M')) : cMi l yX11_bad wsX11_bad rmX11_bad dC dI tI tZ h sz [.ref (h 0), .int p0] M r M' := by
  refine Met.ofW (cc := cX11_bad) (maxL := 2) (ret := (some .int)) (by decide) rfl ?_
  intro p e s m args below meth c s₁ B hml hv
  obtain ⟨hargs, hsz, hP, hK, hD0⟩ := hv
  have hx := B.exec
  have hb := B.bytes
  have hr := B.returns
  have hts := atoms_spec (ws := wsX11_bad) B.pre
  have hown : s.vm.findClass RX11 = some m.cls := findClass_of_methodNamed B.named
  have hlocks := B.notSynchronized
  have hin := inX11_bad
  have hsz : s.heap.size = sz := hsz
  subst hsz
  have lk20 : Cond.fieldLink RX11 20 (TX11 3).1 (TX11 3).2.1 (TX11 3).2.2.1 ∈ wsX11_bad := by decide +kernel
  have hD := hD0.self (sz := s.heap.size)
  generalize hAe : va_A (wM tI tZ h M) s.heap.size = A at hD ⊢
  have hA : ∀ q : Nat, s.heap.size ≤ q → A q := fun q h => by rw [← hAe]; exact Or.inr h
  have hS : va_S A s.heap s.heap [] := va_S.rf
  have hl := lv_entry ([.ref (h 0), .int p0]) (n := 2) (Nat.le_of_ble_eq_true rfl)
  rw [show entryFrame m args 2 = entryFrame m ([.ref (h 0), .int p0] : List Value).toArray 2 from by rw [hargs], lg_entry_eq]
  generalize (lg_sl ([.ref (h 0), .int p0]) ++ List.replicate (2 - (lg_sl ([.ref (h 0), .int p0])).length) Slot.unset).toArray = ls at hl ⊢
  have hl : lv_has ls 2 [(0, .ref (h 0)), (1, .int p0)] := hl
  unfold f_X11_bad at hf
  refine lv_aload_n hx hb dX11_bad_0 rfl (lv_at hl 0 rfl) ?_
  refine geM hx hb hts hin hown hK hP 3 (by decide) lk20 rfl dX11_bad_1 ?_
  refine lv_iconst (v := 0) hx hb dX11_bad_4 (by decide) ?_
  refine lv_dup2_11 hx hb dX11_bad_5 rfl rfl ?_
  obtain ⟨x1, hix1, ex1, hf⟩ := rd_b hf
  refine va_iald hx hb hK hP 4 0 rfl rfl hix1 dX11_bad_6 (kI ex1 ?_)
  refine lv_iconst (v := 1) hx hb dX11_bad_7 (by decide) ?_
  refine lv_iadd hx hb dX11_bad_8 ?_
  obtain ⟨M2, hiM2, eM2, hf⟩ := wr_b hf
  refine va_iast hx hb hK hP hD hS 4 0 rfl rfl hiM2 dX11_bad_9 (fun H locs hP hD hS => ?_)
  have hP : va_P (dC, dI) vwCl (wM tI tZ h M2) H := by rw [eM2]; exact hP
  have hD : va_D A (wM tI tZ h M2) := by rw [eM2]; exact hD
  refine lv_iload_n hx hb dX11_bad_10 rfl (lv_at hl 1 rfl) ?_
  exact rtMi hx hb hr hlocks hK hP hD hS hf dX11_bad_11

def f_X11_no (M : MS) (p0 : Int32) : Option (Int32 × MS) :=
  Option.bind (rdI 3 (M 3) 1) (fun x1 => Option.bind (wrM M 3 3 1 (x1 + 1)) (fun M2 => some ((p0, M2))))
def rmX11_no : Room := { frames := 0, cells := 0, slots := 0, locals := 0 }
abbrev RRX11_no : Room := (headSpec wsX11_no rmX11_no).room
theorem inX11_no : ∀ w ∈ wsX110, w ∈ wsX11_no := by decide +kernel
set_option maxHeartbeats 4000000 in
set_option maxRecDepth 100000 in
theorem c_X11_no (l : Launch) (dC : Nat → ClassId) (dI : Nat → Nat → Nat) (tI tZ : ClassId) (h : Nat → Nat) (sz : Nat) (M : MS) (p0 : Int32) (r : Int32) (M' : MS) (hf : f_X11_no M p0 = some (r, M')) : cMi l yX11_no wsX11_no rmX11_no dC dI tI tZ h sz [.ref (h 0), .int p0] M r M' := by
  refine Met.ofW (cc := cX11_no) (maxL := 2) (ret := (some .int)) (by decide) rfl ?_
  intro p e s m args below meth c s₁ B hml hv
  obtain ⟨hargs, hsz, hP, hK, hD0⟩ := hv
  have hx := B.exec
  have hb := B.bytes
  have hr := B.returns
  have hts := atoms_spec (ws := wsX11_no) B.pre
  have hown : s.vm.findClass RX11 = some m.cls := findClass_of_methodNamed B.named
  have hlocks := B.notSynchronized
  have hin := inX11_no
  have hsz : s.heap.size = sz := hsz
  subst hsz
  have lk20 : Cond.fieldLink RX11 20 (TX11 3).1 (TX11 3).2.1 (TX11 3).2.2.1 ∈ wsX11_no := by decide +kernel
  have hD := hD0.self (sz := s.heap.size)
  generalize hAe : va_A (wM tI tZ h M) s.heap.size = A at hD ⊢
  have hA : ∀ q : Nat, s.heap.size ≤ q → A q := fun q h => by rw [← hAe]; exact Or.inr h
  have hS : va_S A s.heap s.heap [] := va_S.rf
  have hl := lv_entry ([.ref (h 0), .int p0]) (n := 2) (Nat.le_of_ble_eq_true rfl)
  rw [show entryFrame m args 2 = entryFrame m ([.ref (h 0), .int p0] : List Value).toArray 2 from by rw [hargs], lg_entry_eq]
  generalize (lg_sl ([.ref (h 0), .int p0]) ++ List.replicate (2 - (lg_sl ([.ref (h 0), .int p0])).length) Slot.unset).toArray = ls at hl ⊢
  have hl : lv_has ls 2 [(0, .ref (h 0)), (1, .int p0)] := hl
  unfold f_X11_no at hf
  refine lv_aload_n hx hb dX11_no_0 rfl (lv_at hl 0 rfl) ?_
  refine geM hx hb hts hin hown hK hP 3 (by decide) lk20 rfl dX11_no_1 ?_
  refine lv_iconst (v := 1) hx hb dX11_no_4 (by decide) ?_
  refine lv_dup2_11 hx hb dX11_no_5 rfl rfl ?_
  obtain ⟨x1, hix1, ex1, hf⟩ := rd_b hf
  refine va_iald hx hb hK hP 4 0 rfl rfl hix1 dX11_no_6 (kI ex1 ?_)
  refine lv_iconst (v := 1) hx hb dX11_no_7 (by decide) ?_
  refine lv_iadd hx hb dX11_no_8 ?_
  obtain ⟨M2, hiM2, eM2, hf⟩ := wr_b hf
  refine va_iast hx hb hK hP hD hS 4 0 rfl rfl hiM2 dX11_no_9 (fun H locs hP hD hS => ?_)
  have hP : va_P (dC, dI) vwCl (wM tI tZ h M2) H := by rw [eM2]; exact hP
  have hD : va_D A (wM tI tZ h M2) := by rw [eM2]; exact hD
  refine lv_iload_n hx hb dX11_no_10 rfl (lv_at hl 1 rfl) ?_
  exact rtMi hx hb hr hlocks hK hP hD hS hf dX11_no_11

def f_X11_full (M : MS)  : Option (Int32 × MS) :=
  Option.bind (rdI 3 (M 3) 2) (fun x1 => Option.bind (wrM M 3 3 2 (x1 + 1)) (fun M2 => some (((-4), M2))))
def rmX11_full : Room := { frames := 0, cells := 0, slots := 0, locals := 0 }
abbrev RRX11_full : Room := (headSpec wsX11_full rmX11_full).room
theorem inX11_full : ∀ w ∈ wsX110, w ∈ wsX11_full := by decide +kernel
set_option maxHeartbeats 4000000 in
set_option maxRecDepth 100000 in
theorem c_X11_full (l : Launch) (dC : Nat → ClassId) (dI : Nat → Nat → Nat) (tI tZ : ClassId) (h : Nat → Nat) (sz : Nat) (M : MS)  (r : Int32) (M' : MS) (hf : f_X11_full M  = some (r, M')) : cMi l yX11_full wsX11_full rmX11_full dC dI tI tZ h sz [.ref (h 0)] M r M' := by
  refine Met.ofW (cc := cX11_full) (maxL := 1) (ret := (some .int)) (by decide) rfl ?_
  intro p e s m args below meth c s₁ B hml hv
  obtain ⟨hargs, hsz, hP, hK, hD0⟩ := hv
  have hx := B.exec
  have hb := B.bytes
  have hr := B.returns
  have hts := atoms_spec (ws := wsX11_full) B.pre
  have hown : s.vm.findClass RX11 = some m.cls := findClass_of_methodNamed B.named
  have hlocks := B.notSynchronized
  have hin := inX11_full
  have hsz : s.heap.size = sz := hsz
  subst hsz
  have lk20 : Cond.fieldLink RX11 20 (TX11 3).1 (TX11 3).2.1 (TX11 3).2.2.1 ∈ wsX11_full := by decide +kernel
  have hD := hD0.self (sz := s.heap.size)
  generalize hAe : va_A (wM tI tZ h M) s.heap.size = A at hD ⊢
  have hA : ∀ q : Nat, s.heap.size ≤ q → A q := fun q h => by rw [← hAe]; exact Or.inr h
  have hS : va_S A s.heap s.heap [] := va_S.rf
  have hl := lv_entry ([.ref (h 0)]) (n := 1) (Nat.le_of_ble_eq_true rfl)
  rw [show entryFrame m args 1 = entryFrame m ([.ref (h 0)] : List Value).toArray 1 from by rw [hargs], lg_entry_eq]
  generalize (lg_sl ([.ref (h 0)]) ++ List.replicate (1 - (lg_sl ([.ref (h 0)])).length) Slot.unset).toArray = ls at hl ⊢
  have hl : lv_has ls 1 [(0, .ref (h 0))] := hl
  unfold f_X11_full at hf
  refine lv_aload_n hx hb dX11_full_0 rfl (lv_at hl 0 rfl) ?_
  refine geM hx hb hts hin hown hK hP 3 (by decide) lk20 rfl dX11_full_1 ?_
  refine lv_iconst (v := 2) hx hb dX11_full_4 (by decide) ?_
  refine lv_dup2_11 hx hb dX11_full_5 rfl rfl ?_
  obtain ⟨x1, hix1, ex1, hf⟩ := rd_b hf
  refine va_iald hx hb hK hP 4 0 rfl rfl hix1 dX11_full_6 (kI ex1 ?_)
  refine lv_iconst (v := 1) hx hb dX11_full_7 (by decide) ?_
  refine lv_iadd hx hb dX11_full_8 ?_
  obtain ⟨M2, hiM2, eM2, hf⟩ := wr_b hf
  refine va_iast hx hb hK hP hD hS 4 0 rfl rfl hiM2 dX11_full_9 (fun H locs hP hD hS => ?_)
  have hP : va_P (dC, dI) vwCl (wM tI tZ h M2) H := by rw [eM2]; exact hP
  have hD : va_D A (wM tI tZ h M2) := by rw [eM2]; exact hD
  refine lv_bipush (v := (-4)) hx hb dX11_full_10 (by decide) ?_
  exact rtMi hx hb hr hlocks hK hP hD hS hf dX11_full_12

def f_X11_porters (M : MS)  : Option Int32 :=
  Option.bind (rdI 277 (M 0) 274) (fun x1 => some x1)
def rmX11_porters : Room := { frames := 0, cells := 0, slots := 0, locals := 0 }
abbrev RRX11_porters : Room := (headSpec wsX11_porters rmX11_porters).room
theorem inX11_porters : ∀ w ∈ wsX110, w ∈ wsX11_porters := by decide +kernel
set_option maxHeartbeats 4000000 in
set_option maxRecDepth 100000 in
theorem c_X11_porters (l : Launch) (dC : Nat → ClassId) (dI : Nat → Nat → Nat) (tI tZ : ClassId) (h : Nat → Nat) (sz : Nat) (M : MS)  (r : Int32) (hf : f_X11_porters M  = some r) : cMi l yX11_porters wsX11_porters rmX11_porters dC dI tI tZ h sz [.ref (h 0)] M r M := by
  refine Met.ofW (cc := cX11_porters) (maxL := 1) (ret := (some .int)) (by decide) rfl ?_
  intro p e s m args below meth c s₁ B hml hv
  obtain ⟨hargs, hsz, hP, hK, hD0⟩ := hv
  have hx := B.exec
  have hb := B.bytes
  have hr := B.returns
  have hts := atoms_spec (ws := wsX11_porters) B.pre
  have hown : s.vm.findClass RX11 = some m.cls := findClass_of_methodNamed B.named
  have hlocks := B.notSynchronized
  have hin := inX11_porters
  have hsz : s.heap.size = sz := hsz
  subst hsz
  have lk7 : Cond.fieldLink RX11 7 (TX11 0).1 (TX11 0).2.1 (TX11 0).2.2.1 ∈ wsX11_porters := by decide +kernel
  have hD := hD0.self (sz := s.heap.size)
  generalize hAe : va_A (wM tI tZ h M) s.heap.size = A at hD ⊢
  have hA : ∀ q : Nat, s.heap.size ≤ q → A q := fun q h => by rw [← hAe]; exact Or.inr h
  have hS : va_S A s.heap s.heap [] := va_S.rf
  have hl := lv_entry ([.ref (h 0)]) (n := 1) (Nat.le_of_ble_eq_true rfl)
  rw [show entryFrame m args 1 = entryFrame m ([.ref (h 0)] : List Value).toArray 1 from by rw [hargs], lg_entry_eq]
  generalize (lg_sl ([.ref (h 0)]) ++ List.replicate (1 - (lg_sl ([.ref (h 0)])).length) Slot.unset).toArray = ls at hl ⊢
  have hl : lv_has ls 1 [(0, .ref (h 0))] := hl
  unfold f_X11_porters at hf
  refine lv_aload_n hx hb dX11_porters_0 rfl (lv_at hl 0 rfl) ?_
  refine geM hx hb hts hin hown hK hP 0 (by decide) lk7 rfl dX11_porters_1 ?_
  refine lv_sipush (v := 274) hx hb dX11_porters_4 (by decide) ?_
  obtain ⟨x1, hix1, ex1, hf⟩ := rd_b hf
  refine va_iald hx hb hK hP 1 0 rfl rfl hix1 dX11_porters_7 (kI ex1 ?_)
  exact rtMi hx hb hr hlocks hK hP hD hS (congrArg (fun z => some (z, M)) (Option.some.inj hf)) dX11_porters_8

def f_X11_number (M : MS) (p0 : Int32) : Option Int32 :=
  Option.bind (rdI 277 (M 0) (24 + p0)) (fun x1 => some x1)
def rmX11_number : Room := { frames := 0, cells := 0, slots := 0, locals := 0 }
abbrev RRX11_number : Room := (headSpec wsX11_number rmX11_number).room
theorem inX11_number : ∀ w ∈ wsX110, w ∈ wsX11_number := by decide +kernel
set_option maxHeartbeats 4000000 in
set_option maxRecDepth 100000 in
theorem c_X11_number (l : Launch) (dC : Nat → ClassId) (dI : Nat → Nat → Nat) (tI tZ : ClassId) (h : Nat → Nat) (sz : Nat) (M : MS) (p0 : Int32) (r : Int32) (hf : f_X11_number M p0 = some r) : cMi l yX11_number wsX11_number rmX11_number dC dI tI tZ h sz [.ref (h 0), .int p0] M r M := by
  refine Met.ofW (cc := cX11_number) (maxL := 2) (ret := (some .int)) (by decide) rfl ?_
  intro p e s m args below meth c s₁ B hml hv
  obtain ⟨hargs, hsz, hP, hK, hD0⟩ := hv
  have hx := B.exec
  have hb := B.bytes
  have hr := B.returns
  have hts := atoms_spec (ws := wsX11_number) B.pre
  have hown : s.vm.findClass RX11 = some m.cls := findClass_of_methodNamed B.named
  have hlocks := B.notSynchronized
  have hin := inX11_number
  have hsz : s.heap.size = sz := hsz
  subst hsz
  have lk7 : Cond.fieldLink RX11 7 (TX11 0).1 (TX11 0).2.1 (TX11 0).2.2.1 ∈ wsX11_number := by decide +kernel
  have hD := hD0.self (sz := s.heap.size)
  generalize hAe : va_A (wM tI tZ h M) s.heap.size = A at hD ⊢
  have hA : ∀ q : Nat, s.heap.size ≤ q → A q := fun q h => by rw [← hAe]; exact Or.inr h
  have hS : va_S A s.heap s.heap [] := va_S.rf
  have hl := lv_entry ([.ref (h 0), .int p0]) (n := 2) (Nat.le_of_ble_eq_true rfl)
  rw [show entryFrame m args 2 = entryFrame m ([.ref (h 0), .int p0] : List Value).toArray 2 from by rw [hargs], lg_entry_eq]
  generalize (lg_sl ([.ref (h 0), .int p0]) ++ List.replicate (2 - (lg_sl ([.ref (h 0), .int p0])).length) Slot.unset).toArray = ls at hl ⊢
  have hl : lv_has ls 2 [(0, .ref (h 0)), (1, .int p0)] := hl
  unfold f_X11_number at hf
  refine lv_aload_n hx hb dX11_number_0 rfl (lv_at hl 0 rfl) ?_
  refine geM hx hb hts hin hown hK hP 0 (by decide) lk7 rfl dX11_number_1 ?_
  refine lv_bipush (v := 24) hx hb dX11_number_4 (by decide) ?_
  refine lv_iload_n hx hb dX11_number_6 rfl (lv_at hl 1 rfl) ?_
  refine lv_iadd hx hb dX11_number_7 ?_
  obtain ⟨x1, hix1, ex1, hf⟩ := rd_b hf
  refine va_iald hx hb hK hP 1 0 rfl rfl hix1 dX11_number_8 (kI ex1 ?_)
  exact rtMi hx hb hr hlocks hK hP hD hS (congrArg (fun z => some (z, M)) (Option.some.inj hf)) dX11_number_9

def f_X11_told (M : MS) (p0 : Int32) (p1 : Int32) : Option Int32 :=
  Option.bind (rdI 277 (M 0) ((0 + (4 * p0)) + p1)) (fun x1 => some x1)
def rmX11_told : Room := { frames := 0, cells := 0, slots := 0, locals := 0 }
abbrev RRX11_told : Room := (headSpec wsX11_told rmX11_told).room
theorem inX11_told : ∀ w ∈ wsX110, w ∈ wsX11_told := by decide +kernel
set_option maxHeartbeats 4000000 in
set_option maxRecDepth 100000 in
theorem c_X11_told (l : Launch) (dC : Nat → ClassId) (dI : Nat → Nat → Nat) (tI tZ : ClassId) (h : Nat → Nat) (sz : Nat) (M : MS) (p0 : Int32) (p1 : Int32) (r : Int32) (hf : f_X11_told M p0 p1 = some r) : cMi l yX11_told wsX11_told rmX11_told dC dI tI tZ h sz [.ref (h 0), .int p0, .int p1] M r M := by
  refine Met.ofW (cc := cX11_told) (maxL := 3) (ret := (some .int)) (by decide) rfl ?_
  intro p e s m args below meth c s₁ B hml hv
  obtain ⟨hargs, hsz, hP, hK, hD0⟩ := hv
  have hx := B.exec
  have hb := B.bytes
  have hr := B.returns
  have hts := atoms_spec (ws := wsX11_told) B.pre
  have hown : s.vm.findClass RX11 = some m.cls := findClass_of_methodNamed B.named
  have hlocks := B.notSynchronized
  have hin := inX11_told
  have hsz : s.heap.size = sz := hsz
  subst hsz
  have lk7 : Cond.fieldLink RX11 7 (TX11 0).1 (TX11 0).2.1 (TX11 0).2.2.1 ∈ wsX11_told := by decide +kernel
  have hD := hD0.self (sz := s.heap.size)
  generalize hAe : va_A (wM tI tZ h M) s.heap.size = A at hD ⊢
  have hA : ∀ q : Nat, s.heap.size ≤ q → A q := fun q h => by rw [← hAe]; exact Or.inr h
  have hS : va_S A s.heap s.heap [] := va_S.rf
  have hl := lv_entry ([.ref (h 0), .int p0, .int p1]) (n := 3) (Nat.le_of_ble_eq_true rfl)
  rw [show entryFrame m args 3 = entryFrame m ([.ref (h 0), .int p0, .int p1] : List Value).toArray 3 from by rw [hargs], lg_entry_eq]
  generalize (lg_sl ([.ref (h 0), .int p0, .int p1]) ++ List.replicate (3 - (lg_sl ([.ref (h 0), .int p0, .int p1])).length) Slot.unset).toArray = ls at hl ⊢
  have hl : lv_has ls 3 [(0, .ref (h 0)), (1, .int p0), (2, .int p1)] := hl
  unfold f_X11_told at hf
  refine lv_aload_n hx hb dX11_told_0 rfl (lv_at hl 0 rfl) ?_
  refine geM hx hb hts hin hown hK hP 0 (by decide) lk7 rfl dX11_told_1 ?_
  refine lv_iconst (v := 0) hx hb dX11_told_4 (by decide) ?_
  refine lv_iconst (v := 4) hx hb dX11_told_5 (by decide) ?_
  refine lv_iload_n hx hb dX11_told_6 rfl (lv_at hl 1 rfl) ?_
  refine lv_imul hx hb dX11_told_7 ?_
  refine lv_iadd hx hb dX11_told_8 ?_
  refine lv_iload_n hx hb dX11_told_9 rfl (lv_at hl 2 rfl) ?_
  refine lv_iadd hx hb dX11_told_10 ?_
  obtain ⟨x1, hix1, ex1, hf⟩ := rd_b hf
  refine va_iald hx hb hK hP 1 0 rfl rfl hix1 dX11_told_11 (kI ex1 ?_)
  exact rtMi hx hb hr hlocks hK hP hD hS (congrArg (fun z => some (z, M)) (Option.some.inj hf)) dX11_told_12

def f_X11_isPorter (M : MS) (p0 : Int32) : Option Int32 :=
  Option.bind (f_X11_porters M) (fun r1 => Option.bind (f_X11_in (Int32.toInt64 p0) 0 (Int32.toInt64 (r1 - 1))) (fun r2 => Option.bind (zr r2) (fun z3 => some z3)))
def rmX11_isPorter : Room := { frames := 1, cells := 0, slots := 0, locals := 25 }
abbrev RRX11_isPorter : Room := (headSpec wsX11_isPorter rmX11_isPorter).room
theorem inX11_isPorter : ∀ w ∈ wsX110, w ∈ wsX11_isPorter := by decide +kernel
set_option maxHeartbeats 4000000 in
set_option maxRecDepth 100000 in
theorem c_X11_isPorter (l : Launch) (dC : Nat → ClassId) (dI : Nat → Nat → Nat) (tI tZ : ClassId) (h : Nat → Nat) (sz : Nat) (M : MS) (p0 : Int32) (r : Int32) (hf : f_X11_isPorter M p0 = some r) : cMi l yX11_isPorter wsX11_isPorter rmX11_isPorter dC dI tI tZ h sz [.ref (h 0), .int p0] M r M := by
  refine Met.ofW (cc := cX11_isPorter) (maxL := 2) (ret := (some .boolean)) (by decide) rfl ?_
  intro p e s m args below meth c s₁ B hml hv
  obtain ⟨hargs, hsz, hP, hK, hD0⟩ := hv
  have hx := B.exec
  have hb := B.bytes
  have hr := B.returns
  have hts := atoms_spec (ws := wsX11_isPorter) B.pre
  have hown : s.vm.findClass RX11 = some m.cls := findClass_of_methodNamed B.named
  have hlocks := B.notSynchronized
  have hin := inX11_isPorter
  have hsz : s.heap.size = sz := hsz
  subst hsz
  have hD := hD0.self (sz := s.heap.size)
  generalize hAe : va_A (wM tI tZ h M) s.heap.size = A at hD ⊢
  have hA : ∀ q : Nat, s.heap.size ≤ q → A q := fun q h => by rw [← hAe]; exact Or.inr h
  have hS : va_S A s.heap s.heap [] := va_S.rf
  have hl := lv_entry ([.ref (h 0), .int p0]) (n := 2) (Nat.le_of_ble_eq_true rfl)
  rw [show entryFrame m args 2 = entryFrame m ([.ref (h 0), .int p0] : List Value).toArray 2 from by rw [hargs], lg_entry_eq]
  generalize (lg_sl ([.ref (h 0), .int p0]) ++ List.replicate (2 - (lg_sl ([.ref (h 0), .int p0])).length) Slot.unset).toArray = ls at hl ⊢
  have hl : lv_has ls 2 [(0, .ref (h 0)), (1, .int p0)] := hl
  unfold f_X11_isPorter at hf
  refine lv_iload_n hx hb dX11_isPorter_0 rfl (lv_at hl 1 rfl) ?_
  refine lv_i2l hx hb dX11_isPorter_1 rfl ?_
  refine lv_lconst (v := 0) hx hb dX11_isPorter_2 (by decide) ?_
  refine lv_aload_n hx hb dX11_isPorter_3 rfl (lv_at hl 0 rfl) ?_
  obtain ⟨r1, er1, hf⟩ := bd hf
  refine klMi (rest := [.long 0, .long (Int32.toInt64 p0)]) (As := []) ⟨hx, hb, hml, hown, hts⟩ (c_X11_porters l dC dI tI tZ h s.heap.size M r1 er1) (cwV 0 hts gX11_isPorter_X11_porters rfl rfl rfl (by decide +kernel) ⟨Nat.le_of_ble_eq_true rfl, Nat.le_of_ble_eq_true rfl⟩) rfl hl.1 rfl (Nat.le_of_ble_eq_true rfl) dX11_isPorter_4 ⟨Nat.zero_le _, Nat.zero_le _⟩ hK hP hD hS hA (fun H locs hP hD hS => ?_)
  refine lv_iconst (v := 1) hx hb dX11_isPorter_7 (by decide) ?_
  refine lv_isub hx hb dX11_isPorter_8 ?_
  refine lv_i2l hx hb dX11_isPorter_9 rfl ?_
  obtain ⟨r2, er2, hf⟩ := bd hf
  refine klEi (rest := []) (As := [.long (Int32.toInt64 p0), .long 0, .long (Int32.toInt64 (r1 - 1))]) ⟨hx, hb, hml, hown, hts⟩ (c_X11_in l H.size (Int32.toInt64 p0) 0 (Int32.toInt64 (r1 - 1)) r2 er2) (va_cwS 3 hts gX11_isPorter_X11_in rfl rfl rfl (by decide +kernel) ⟨Nat.le_of_ble_eq_true rfl, Nat.le_of_ble_eq_true rfl⟩) rfl hl.1 rfl (Nat.le_of_ble_eq_true rfl) dX11_isPorter_10 ⟨Nat.zero_le _, Nat.zero_le _⟩ hS hA (fun H2 locs hk hS => ?_)
  have hP := kpP hP hk
  generalize H2 = H at hP hS ⊢
  obtain ⟨hnz3, hf⟩ := zr_b hf
  exact rtMz hx hb hr hlocks hK hP hD hS hnz3 (congrArg (fun z => some (z, M)) (Option.some.inj hf)) dX11_isPorter_13

def f_X11_all (M : MS)  : Option Int32 :=
  Option.bind (f_X11_porters M) (fun r1 => some ((1 <<< (r1 &&& 31)) - 1))
def rmX11_all : Room := { frames := 1, cells := 0, slots := 0, locals := 20 }
abbrev RRX11_all : Room := (headSpec wsX11_all rmX11_all).room
theorem inX11_all : ∀ w ∈ wsX110, w ∈ wsX11_all := by decide +kernel
set_option maxHeartbeats 4000000 in
set_option maxRecDepth 100000 in
theorem c_X11_all (l : Launch) (dC : Nat → ClassId) (dI : Nat → Nat → Nat) (tI tZ : ClassId) (h : Nat → Nat) (sz : Nat) (M : MS)  (r : Int32) (hf : f_X11_all M  = some r) : cMi l yX11_all wsX11_all rmX11_all dC dI tI tZ h sz [.ref (h 0)] M r M := by
  refine Met.ofW (cc := cX11_all) (maxL := 1) (ret := (some .int)) (by decide) rfl ?_
  intro p e s m args below meth c s₁ B hml hv
  obtain ⟨hargs, hsz, hP, hK, hD0⟩ := hv
  have hx := B.exec
  have hb := B.bytes
  have hr := B.returns
  have hts := atoms_spec (ws := wsX11_all) B.pre
  have hown : s.vm.findClass RX11 = some m.cls := findClass_of_methodNamed B.named
  have hlocks := B.notSynchronized
  have hin := inX11_all
  have hsz : s.heap.size = sz := hsz
  subst hsz
  have hD := hD0.self (sz := s.heap.size)
  generalize hAe : va_A (wM tI tZ h M) s.heap.size = A at hD ⊢
  have hA : ∀ q : Nat, s.heap.size ≤ q → A q := fun q h => by rw [← hAe]; exact Or.inr h
  have hS : va_S A s.heap s.heap [] := va_S.rf
  have hl := lv_entry ([.ref (h 0)]) (n := 1) (Nat.le_of_ble_eq_true rfl)
  rw [show entryFrame m args 1 = entryFrame m ([.ref (h 0)] : List Value).toArray 1 from by rw [hargs], lg_entry_eq]
  generalize (lg_sl ([.ref (h 0)]) ++ List.replicate (1 - (lg_sl ([.ref (h 0)])).length) Slot.unset).toArray = ls at hl ⊢
  have hl : lv_has ls 1 [(0, .ref (h 0))] := hl
  unfold f_X11_all at hf
  refine lv_iconst (v := 1) hx hb dX11_all_0 (by decide) ?_
  refine lv_aload_n hx hb dX11_all_1 rfl (lv_at hl 0 rfl) ?_
  obtain ⟨r1, er1, hf⟩ := bd hf
  refine klMi (rest := [.int 1]) (As := []) ⟨hx, hb, hml, hown, hts⟩ (c_X11_porters l dC dI tI tZ h s.heap.size M r1 er1) (cwV 0 hts gX11_all_X11_porters rfl rfl rfl (by decide +kernel) ⟨Nat.le_of_ble_eq_true rfl, Nat.le_of_ble_eq_true rfl⟩) rfl hl.1 rfl (Nat.le_of_ble_eq_true rfl) dX11_all_2 ⟨Nat.zero_le _, Nat.zero_le _⟩ hK hP hD hS hA (fun H locs hP hD hS => ?_)
  refine lv_ishl hx hb dX11_all_5 ?_
  refine lv_iconst (v := 1) hx hb dX11_all_6 (by decide) ?_
  refine lv_isub hx hb dX11_all_7 ?_
  exact rtMi hx hb hr hlocks hK hP hD hS (congrArg (fun z => some (z, M)) (Option.some.inj hf)) dX11_all_8

def f_X11_isTold (p0 : Int32) (p1 : Int32) (p2 : Int32) (p3 : Int32) : Option Int32 :=
  Option.bind (f_X11_in (Int32.toInt64 p0) 1 60) (fun r1 => (if r1 = 0 then (some 0) else (Option.bind (f_X11_in (Int32.toInt64 p1) 1 30) (fun r2 => (if r2 = 0 then (some 0) else (Option.bind (f_X11_in (Int32.toInt64 p2) 0 99) (fun r3 => (if r3 = 0 then (some 0) else (Option.bind (f_X11_in (Int32.toInt64 p3) 0 5) (fun r4 => (if r4 = 0 then (some 0) else (some 1))))))))))))
def rmX11_isTold : Room := { frames := 1, cells := 0, slots := 0, locals := 25 }
abbrev RRX11_isTold : Room := (headSpec wsX11_isTold rmX11_isTold).room
set_option maxHeartbeats 4000000 in
set_option maxRecDepth 100000 in
theorem c_X11_isTold (l : Launch) (sz : Nat) (p0 : Int32) (p1 : Int32) (p2 : Int32) (p3 : Int32) (r : Int32) (hf : f_X11_isTold p0 p1 p2 p3 = some r) : cEi l yX11_isTold wsX11_isTold rmX11_isTold sz [.int p0, .int p1, .int p2, .int p3] r := by
  refine Met.ofW (cc := cX11_isTold) (maxL := 4) (ret := (some .boolean)) (by decide) rfl ?_
  intro p e s m args below meth c s₁ B hml hv
  obtain ⟨hargs, hsz⟩ := hv
  have hx := B.exec
  have hb := B.bytes
  have hr := B.returns
  have hts := atoms_spec (ws := wsX11_isTold) B.pre
  have hown : s.vm.findClass RX11 = some m.cls := findClass_of_methodNamed B.named
  have hlocks := B.notSynchronized
  have hsz : s.heap.size = sz := hsz
  subst hsz
  obtain ⟨A, hAe⟩ : ∃ A : Nat → Prop, A = fun q => s.heap.size ≤ q := ⟨_, rfl⟩
  rw [← hAe]
  have hA : ∀ q : Nat, s.heap.size ≤ q → A q := fun q h => by rw [hAe]; exact h
  have hS : va_S A s.heap s.heap [] := va_S.rf
  have hl := lv_entry ([.int p0, .int p1, .int p2, .int p3]) (n := 4) (Nat.le_of_ble_eq_true rfl)
  rw [show entryFrame m args 4 = entryFrame m ([.int p0, .int p1, .int p2, .int p3] : List Value).toArray 4 from by rw [hargs], lg_entry_eq]
  generalize (lg_sl ([.int p0, .int p1, .int p2, .int p3]) ++ List.replicate (4 - (lg_sl ([.int p0, .int p1, .int p2, .int p3])).length) Slot.unset).toArray = ls at hl ⊢
  have hl : lv_has ls 4 [(0, .int p0), (1, .int p1), (2, .int p2), (3, .int p3)] := hl
  unfold f_X11_isTold at hf
  refine lv_iload_n hx hb dX11_isTold_0 rfl (lv_at hl 0 rfl) ?_
  refine lv_i2l hx hb dX11_isTold_1 rfl ?_
  refine lv_lconst (v := 1) hx hb dX11_isTold_2 (by decide) ?_
  refine lv_ldc2 (v := 60) hx hb hown (hts (.constantLong RX11 61 (60)) (by decide +kernel)) dX11_isTold_3 ?_
  obtain ⟨r1, er1, hf⟩ := bd hf
  refine klEi (rest := []) (As := [.long (Int32.toInt64 p0), .long 1, .long 60]) ⟨hx, hb, hml, hown, hts⟩ (c_X11_in l s.heap.size (Int32.toInt64 p0) 1 60 r1 er1) (va_cwS 3 hts gX11_isTold_X11_in rfl rfl rfl (by decide +kernel) ⟨Nat.le_of_ble_eq_true rfl, Nat.le_of_ble_eq_true rfl⟩) rfl hl.1 rfl (Nat.le_of_ble_eq_true rfl) dX11_isTold_6 ⟨Nat.zero_le _, Nat.zero_le _⟩ hS hA (fun H2 locs hk hS => ?_)
  generalize H2 = H at hS ⊢
  refine lv_if_eq (tgt := 52) hx hb dX11_isTold_9 (by decide) (fun c8 => ?_) (fun c8 => ?_)
  · have hf := (if_pos c8).symm.trans hf
    refine lv_iconst (v := 0) hx hb dX11_isTold_52 (by decide) ?_
    exact rtEz hx hb hr hlocks hS rfl hf dX11_isTold_53
  · have hf := (if_neg c8).symm.trans hf
    refine lv_iload_n hx hb dX11_isTold_12 rfl (lv_at hl 1 rfl) ?_
    refine lv_i2l hx hb dX11_isTold_13 rfl ?_
    refine lv_lconst (v := 1) hx hb dX11_isTold_14 (by decide) ?_
    refine lv_ldc2 (v := 30) hx hb hown (hts (.constantLong RX11 63 (30)) (by decide +kernel)) dX11_isTold_15 ?_
    obtain ⟨r2, er2, hf⟩ := bd hf
    refine klEi (rest := []) (As := [.long (Int32.toInt64 p1), .long 1, .long 30]) ⟨hx, hb, hml, hown, hts⟩ (c_X11_in l H.size (Int32.toInt64 p1) 1 30 r2 er2) (va_cwS 3 hts gX11_isTold_X11_in rfl rfl rfl (by decide +kernel) ⟨Nat.le_of_ble_eq_true rfl, Nat.le_of_ble_eq_true rfl⟩) rfl hl.1 rfl (Nat.le_of_ble_eq_true rfl) dX11_isTold_18 ⟨Nat.zero_le _, Nat.zero_le _⟩ hS hA (fun H2 locs hk hS => ?_)
    generalize H2 = H at hS ⊢
    refine lv_if_eq (tgt := 52) hx hb dX11_isTold_21 (by decide) (fun c7 => ?_) (fun c7 => ?_)
    · have hf := (if_pos c7).symm.trans hf
      refine lv_iconst (v := 0) hx hb dX11_isTold_52 (by decide) ?_
      exact rtEz hx hb hr hlocks hS rfl hf dX11_isTold_53
    · have hf := (if_neg c7).symm.trans hf
      refine lv_iload_n hx hb dX11_isTold_24 rfl (lv_at hl 2 rfl) ?_
      refine lv_i2l hx hb dX11_isTold_25 rfl ?_
      refine lv_lconst (v := 0) hx hb dX11_isTold_26 (by decide) ?_
      refine lv_ldc2 (v := 99) hx hb hown (hts (.constantLong RX11 65 (99)) (by decide +kernel)) dX11_isTold_27 ?_
      obtain ⟨r3, er3, hf⟩ := bd hf
      refine klEi (rest := []) (As := [.long (Int32.toInt64 p2), .long 0, .long 99]) ⟨hx, hb, hml, hown, hts⟩ (c_X11_in l H.size (Int32.toInt64 p2) 0 99 r3 er3) (va_cwS 3 hts gX11_isTold_X11_in rfl rfl rfl (by decide +kernel) ⟨Nat.le_of_ble_eq_true rfl, Nat.le_of_ble_eq_true rfl⟩) rfl hl.1 rfl (Nat.le_of_ble_eq_true rfl) dX11_isTold_30 ⟨Nat.zero_le _, Nat.zero_le _⟩ hS hA (fun H2 locs hk hS => ?_)
      generalize H2 = H at hS ⊢
      refine lv_if_eq (tgt := 52) hx hb dX11_isTold_33 (by decide) (fun c6 => ?_) (fun c6 => ?_)
      · have hf := (if_pos c6).symm.trans hf
        refine lv_iconst (v := 0) hx hb dX11_isTold_52 (by decide) ?_
        exact rtEz hx hb hr hlocks hS rfl hf dX11_isTold_53
      · have hf := (if_neg c6).symm.trans hf
        refine lv_iload_n hx hb dX11_isTold_36 rfl (lv_at hl 3 rfl) ?_
        refine lv_i2l hx hb dX11_isTold_37 rfl ?_
        refine lv_lconst (v := 0) hx hb dX11_isTold_38 (by decide) ?_
        refine lv_ldc2 (v := 5) hx hb hown (hts (.constantLong RX11 67 (5)) (by decide +kernel)) dX11_isTold_39 ?_
        obtain ⟨r4, er4, hf⟩ := bd hf
        refine klEi (rest := []) (As := [.long (Int32.toInt64 p3), .long 0, .long 5]) ⟨hx, hb, hml, hown, hts⟩ (c_X11_in l H.size (Int32.toInt64 p3) 0 5 r4 er4) (va_cwS 3 hts gX11_isTold_X11_in rfl rfl rfl (by decide +kernel) ⟨Nat.le_of_ble_eq_true rfl, Nat.le_of_ble_eq_true rfl⟩) rfl hl.1 rfl (Nat.le_of_ble_eq_true rfl) dX11_isTold_42 ⟨Nat.zero_le _, Nat.zero_le _⟩ hS hA (fun H2 locs hk hS => ?_)
        generalize H2 = H at hS ⊢
        refine lv_if_eq (tgt := 52) hx hb dX11_isTold_45 (by decide) (fun c5 => ?_) (fun c5 => ?_)
        · have hf := (if_pos c5).symm.trans hf
          refine lv_iconst (v := 0) hx hb dX11_isTold_52 (by decide) ?_
          exact rtEz hx hb hr hlocks hS rfl hf dX11_isTold_53
        · have hf := (if_neg c5).symm.trans hf
          refine lv_iconst (v := 1) hx hb dX11_isTold_48 (by decide) ?_
          refine lv_goto (tgt := 53) hx hb dX11_isTold_49 (by decide) ?_
          exact rtEz hx hb hr hlocks hS rfl hf dX11_isTold_53

def f_X11_porter (M : MS) (p0 : Int32) (p1 : Int32) (p2 : Int32) (p3 : Int32) : Option (Int32 × MS) :=
  Option.bind (f_X11_isTold p0 p1 p2 p3) (fun r1 => (if r1 = 0 then (bi2 (f_X11_bad M (-2)) (fun r12 M13 => some ((r12, M13)))) else (Option.bind (f_X11_porters M) (fun r2 => (if r2 = 6 then (bi2 (f_X11_full M) (fun r9 M10 => some ((r9, M10)))) else (Option.bind (wrM M 0 277 (0 + (4 * r2)) p0) (fun M3 => Option.bind (wrM M3 0 277 ((0 + (4 * r2)) + 1) p1) (fun M4 => Option.bind (wrM M4 0 277 ((0 + (4 * r2)) + 2) p2) (fun M5 => Option.bind (wrM M5 0 277 ((0 + (4 * r2)) + 3) p3) (fun M6 => Option.bind (rdI 277 (M6 0) 274) (fun x7 => Option.bind (wrM M6 0 277 274 (x7 + 1)) (fun M8 => some ((r2, M8))))))))))))))
def rmX11_porter : Room := { frames := 2, cells := 0, slots := 0, locals := 48 }
abbrev RRX11_porter : Room := (headSpec wsX11_porter rmX11_porter).room
theorem inX11_porter : ∀ w ∈ wsX110, w ∈ wsX11_porter := by decide +kernel
set_option maxHeartbeats 4000000 in
set_option maxRecDepth 100000 in
theorem c_X11_porter (l : Launch) (dC : Nat → ClassId) (dI : Nat → Nat → Nat) (tI tZ : ClassId) (h : Nat → Nat) (sz : Nat) (M : MS) (p0 : Int32) (p1 : Int32) (p2 : Int32) (p3 : Int32) (r : Int32) (M' : MS) (hf : f_X11_porter M p0 p1 p2 p3 = some (r, M')) : cMi l yX11_porter wsX11_porter rmX11_porter dC dI tI tZ h sz [.ref (h 0), .int p0, .int p1, .int p2, .int p3] M r M' := by
  refine Met.ofW (cc := cX11_porter) (maxL := 6) (ret := (some .int)) (by decide) rfl ?_
  intro p e s m args below meth c s₁ B hml hv
  obtain ⟨hargs, hsz, hP, hK, hD0⟩ := hv
  have hx := B.exec
  have hb := B.bytes
  have hr := B.returns
  have hts := atoms_spec (ws := wsX11_porter) B.pre
  have hown : s.vm.findClass RX11 = some m.cls := findClass_of_methodNamed B.named
  have hlocks := B.notSynchronized
  have hin := inX11_porter
  have hsz : s.heap.size = sz := hsz
  subst hsz
  have lk7 : Cond.fieldLink RX11 7 (TX11 0).1 (TX11 0).2.1 (TX11 0).2.2.1 ∈ wsX11_porter := by decide +kernel
  have hD := hD0.self (sz := s.heap.size)
  generalize hAe : va_A (wM tI tZ h M) s.heap.size = A at hD ⊢
  have hA : ∀ q : Nat, s.heap.size ≤ q → A q := fun q h => by rw [← hAe]; exact Or.inr h
  have hS : va_S A s.heap s.heap [] := va_S.rf
  have hl := lv_entry ([.ref (h 0), .int p0, .int p1, .int p2, .int p3]) (n := 6) (Nat.le_of_ble_eq_true rfl)
  rw [show entryFrame m args 6 = entryFrame m ([.ref (h 0), .int p0, .int p1, .int p2, .int p3] : List Value).toArray 6 from by rw [hargs], lg_entry_eq]
  generalize (lg_sl ([.ref (h 0), .int p0, .int p1, .int p2, .int p3]) ++ List.replicate (6 - (lg_sl ([.ref (h 0), .int p0, .int p1, .int p2, .int p3])).length) Slot.unset).toArray = ls at hl ⊢
  have hl : lv_has ls 6 [(0, .ref (h 0)), (1, .int p0), (2, .int p1), (3, .int p2), (4, .int p3)] := hl
  unfold f_X11_porter at hf
  refine lv_iload_n hx hb dX11_porter_0 rfl (lv_at hl 1 rfl) ?_
  refine lv_iload_n hx hb dX11_porter_1 rfl (lv_at hl 2 rfl) ?_
  refine lv_iload_n hx hb dX11_porter_2 rfl (lv_at hl 3 rfl) ?_
  refine lv_iload hx hb dX11_porter_3 (lv_at hl 4 rfl) ?_
  obtain ⟨r1, er1, hf⟩ := bd hf
  refine klEi (rest := []) (As := [.int p0, .int p1, .int p2, .int p3]) ⟨hx, hb, hml, hown, hts⟩ (c_X11_isTold l s.heap.size p0 p1 p2 p3 r1 er1) (va_cwS 4 hts gX11_porter_X11_isTold rfl rfl rfl (by decide +kernel) ⟨Nat.le_of_ble_eq_true rfl, Nat.le_of_ble_eq_true rfl⟩) rfl hl.1 rfl (Nat.le_of_ble_eq_true rfl) dX11_porter_5 ⟨Nat.zero_le _, Nat.zero_le _⟩ hS hA (fun H2 locs hk hS => ?_)
  have hP := kpP hP hk
  generalize H2 = H at hP hS ⊢
  refine lv_if_ne (tgt := 18) hx hb dX11_porter_8 (by decide) (fun c14 => ?_) (fun c14 => ?_)
  · have hf := (if_neg c14).symm.trans hf
    refine lv_aload_n hx hb dX11_porter_18 rfl (lv_at hl 0 rfl) ?_
    obtain ⟨r2, er2, hf⟩ := bd hf
    refine klMi (rest := []) (As := []) ⟨hx, hb, hml, hown, hts⟩ (c_X11_porters l dC dI tI tZ h H.size M r2 er2) (cwV 0 hts gX11_porter_X11_porters rfl rfl rfl (by decide +kernel) ⟨Nat.le_of_ble_eq_true rfl, Nat.le_of_ble_eq_true rfl⟩) rfl hl.1 rfl (Nat.le_of_ble_eq_true rfl) dX11_porter_19 ⟨Nat.zero_le _, Nat.zero_le _⟩ hK hP hD hS hA (fun H locs hP hD hS => ?_)
    refine lv_istore (lv' := [(5, .int r2), (0, .ref (h 0)), (1, .int p0), (2, .int p1), (3, .int p2), (4, .int p3)]) hx hb dX11_porter_22 hl (by decide) rfl (fun ls hl => ?_)
    refine lv_iload hx hb dX11_porter_24 (lv_at hl 0 rfl) ?_
    refine lv_bipush (v := 6) hx hb dX11_porter_26 (by decide) ?_
    refine lv_icmp_ne (tgt := 36) hx hb dX11_porter_28 (by decide) (fun c11 => ?_) (fun c11 => ?_)
    · have hf := (if_neg c11).symm.trans hf
      refine lv_aload_n hx hb dX11_porter_36 rfl (lv_at hl 1 rfl) ?_
      refine geM hx hb hts hin hown hK hP 0 (by decide) lk7 rfl dX11_porter_37 ?_
      refine lv_iconst (v := 0) hx hb dX11_porter_40 (by decide) ?_
      refine lv_iconst (v := 4) hx hb dX11_porter_41 (by decide) ?_
      refine lv_iload hx hb dX11_porter_42 (lv_at hl 0 rfl) ?_
      refine lv_imul hx hb dX11_porter_44 ?_
      refine lv_iadd hx hb dX11_porter_45 ?_
      refine lv_iload_n hx hb dX11_porter_46 rfl (lv_at hl 2 rfl) ?_
      obtain ⟨M3, hiM3, eM3, hf⟩ := wr_b hf
      refine va_iast hx hb hK hP hD hS 1 0 rfl rfl hiM3 dX11_porter_47 (fun H locs hP hD hS => ?_)
      have hP : va_P (dC, dI) vwCl (wM tI tZ h M3) H := by rw [eM3]; exact hP
      have hD : va_D A (wM tI tZ h M3) := by rw [eM3]; exact hD
      refine lv_aload_n hx hb dX11_porter_48 rfl (lv_at hl 1 rfl) ?_
      refine geM hx hb hts hin hown hK hP 0 (by decide) lk7 rfl dX11_porter_49 ?_
      refine lv_iconst (v := 0) hx hb dX11_porter_52 (by decide) ?_
      refine lv_iconst (v := 4) hx hb dX11_porter_53 (by decide) ?_
      refine lv_iload hx hb dX11_porter_54 (lv_at hl 0 rfl) ?_
      refine lv_imul hx hb dX11_porter_56 ?_
      refine lv_iadd hx hb dX11_porter_57 ?_
      refine lv_iconst (v := 1) hx hb dX11_porter_58 (by decide) ?_
      refine lv_iadd hx hb dX11_porter_59 ?_
      refine lv_iload_n hx hb dX11_porter_60 rfl (lv_at hl 3 rfl) ?_
      obtain ⟨M4, hiM4, eM4, hf⟩ := wr_b hf
      refine va_iast hx hb hK hP hD hS 1 0 rfl rfl hiM4 dX11_porter_61 (fun H locs hP hD hS => ?_)
      have hP : va_P (dC, dI) vwCl (wM tI tZ h M4) H := by rw [eM4]; exact hP
      have hD : va_D A (wM tI tZ h M4) := by rw [eM4]; exact hD
      refine lv_aload_n hx hb dX11_porter_62 rfl (lv_at hl 1 rfl) ?_
      refine geM hx hb hts hin hown hK hP 0 (by decide) lk7 rfl dX11_porter_63 ?_
      refine lv_iconst (v := 0) hx hb dX11_porter_66 (by decide) ?_
      refine lv_iconst (v := 4) hx hb dX11_porter_67 (by decide) ?_
      refine lv_iload hx hb dX11_porter_68 (lv_at hl 0 rfl) ?_
      refine lv_imul hx hb dX11_porter_70 ?_
      refine lv_iadd hx hb dX11_porter_71 ?_
      refine lv_iconst (v := 2) hx hb dX11_porter_72 (by decide) ?_
      refine lv_iadd hx hb dX11_porter_73 ?_
      refine lv_iload_n hx hb dX11_porter_74 rfl (lv_at hl 4 rfl) ?_
      obtain ⟨M5, hiM5, eM5, hf⟩ := wr_b hf
      refine va_iast hx hb hK hP hD hS 1 0 rfl rfl hiM5 dX11_porter_75 (fun H locs hP hD hS => ?_)
      have hP : va_P (dC, dI) vwCl (wM tI tZ h M5) H := by rw [eM5]; exact hP
      have hD : va_D A (wM tI tZ h M5) := by rw [eM5]; exact hD
      refine lv_aload_n hx hb dX11_porter_76 rfl (lv_at hl 1 rfl) ?_
      refine geM hx hb hts hin hown hK hP 0 (by decide) lk7 rfl dX11_porter_77 ?_
      refine lv_iconst (v := 0) hx hb dX11_porter_80 (by decide) ?_
      refine lv_iconst (v := 4) hx hb dX11_porter_81 (by decide) ?_
      refine lv_iload hx hb dX11_porter_82 (lv_at hl 0 rfl) ?_
      refine lv_imul hx hb dX11_porter_84 ?_
      refine lv_iadd hx hb dX11_porter_85 ?_
      refine lv_iconst (v := 3) hx hb dX11_porter_86 (by decide) ?_
      refine lv_iadd hx hb dX11_porter_87 ?_
      refine lv_iload hx hb dX11_porter_88 (lv_at hl 5 rfl) ?_
      obtain ⟨M6, hiM6, eM6, hf⟩ := wr_b hf
      refine va_iast hx hb hK hP hD hS 1 0 rfl rfl hiM6 dX11_porter_90 (fun H locs hP hD hS => ?_)
      have hP : va_P (dC, dI) vwCl (wM tI tZ h M6) H := by rw [eM6]; exact hP
      have hD : va_D A (wM tI tZ h M6) := by rw [eM6]; exact hD
      refine lv_aload_n hx hb dX11_porter_91 rfl (lv_at hl 1 rfl) ?_
      refine geM hx hb hts hin hown hK hP 0 (by decide) lk7 rfl dX11_porter_92 ?_
      refine lv_sipush (v := 274) hx hb dX11_porter_95 (by decide) ?_
      refine lv_dup2_11 hx hb dX11_porter_98 rfl rfl ?_
      obtain ⟨x7, hix7, ex7, hf⟩ := rd_b hf
      refine va_iald hx hb hK hP 1 0 rfl rfl hix7 dX11_porter_99 (kI ex7 ?_)
      refine lv_iconst (v := 1) hx hb dX11_porter_100 (by decide) ?_
      refine lv_iadd hx hb dX11_porter_101 ?_
      obtain ⟨M8, hiM8, eM8, hf⟩ := wr_b hf
      refine va_iast hx hb hK hP hD hS 1 0 rfl rfl hiM8 dX11_porter_102 (fun H locs hP hD hS => ?_)
      have hP : va_P (dC, dI) vwCl (wM tI tZ h M8) H := by rw [eM8]; exact hP
      have hD : va_D A (wM tI tZ h M8) := by rw [eM8]; exact hD
      refine lv_iload hx hb dX11_porter_103 (lv_at hl 0 rfl) ?_
      exact rtMi hx hb hr hlocks hK hP hD hS hf dX11_porter_105
    · have hf := (if_pos c11).symm.trans hf
      refine lv_aload_n hx hb dX11_porter_31 rfl (lv_at hl 1 rfl) ?_
      obtain ⟨r9, M10, er9, hf⟩ := b2 hf
      refine klMi (rest := []) (As := []) ⟨hx, hb, hml, hown, hts⟩ (c_X11_full l dC dI tI tZ h H.size M r9 M10 er9) (cwV 0 hts gX11_porter_X11_full rfl rfl rfl (by decide +kernel) ⟨Nat.le_of_ble_eq_true rfl, Nat.le_of_ble_eq_true rfl⟩) rfl hl.1 rfl (Nat.le_of_ble_eq_true rfl) dX11_porter_32 ⟨Nat.zero_le _, Nat.zero_le _⟩ hK hP hD hS hA (fun H locs hP hD hS => ?_)
      exact rtMi hx hb hr hlocks hK hP hD hS hf dX11_porter_35
  · have hf := (if_pos c14).symm.trans hf
    refine lv_aload_n hx hb dX11_porter_11 rfl (lv_at hl 0 rfl) ?_
    refine lv_bipush (v := (-2)) hx hb dX11_porter_12 (by decide) ?_
    obtain ⟨r12, M13, er12, hf⟩ := b2 hf
    refine klMi (rest := []) (As := [.int (-2)]) ⟨hx, hb, hml, hown, hts⟩ (c_X11_bad l dC dI tI tZ h H.size M (-2) r12 M13 er12) (cwV 1 hts gX11_porter_X11_bad rfl rfl rfl (by decide +kernel) ⟨Nat.le_of_ble_eq_true rfl, Nat.le_of_ble_eq_true rfl⟩) rfl hl.1 rfl (Nat.le_of_ble_eq_true rfl) dX11_porter_14 ⟨Nat.zero_le _, Nat.zero_le _⟩ hK hP hD hS hA (fun H locs hP hD hS => ?_)
    exact rtMi hx hb hr hlocks hK hP hD hS hf dX11_porter_17

def f_X11_mostOf (p0 : Int32) : Option Int32 :=
  (if p0 = 1 then (some 239) else ((if p0 = 3 then (some 240) else (some 20))))
def rmX11_mostOf : Room := { frames := 0, cells := 0, slots := 0, locals := 0 }
abbrev RRX11_mostOf : Room := (headSpec wsX11_mostOf rmX11_mostOf).room
set_option maxHeartbeats 4000000 in
set_option maxRecDepth 100000 in
theorem c_X11_mostOf (l : Launch) (sz : Nat) (p0 : Int32) (r : Int32) (hf : f_X11_mostOf p0 = some r) : cEi l yX11_mostOf wsX11_mostOf rmX11_mostOf sz [.int p0] r := by
  refine Met.ofW (cc := cX11_mostOf) (maxL := 1) (ret := (some .int)) (by decide) rfl ?_
  intro p e s m args below meth c s₁ B hml hv
  obtain ⟨hargs, hsz⟩ := hv
  have hx := B.exec
  have hb := B.bytes
  have hr := B.returns
  have hts := atoms_spec (ws := wsX11_mostOf) B.pre
  have hown : s.vm.findClass RX11 = some m.cls := findClass_of_methodNamed B.named
  have hlocks := B.notSynchronized
  have hsz : s.heap.size = sz := hsz
  subst hsz
  obtain ⟨A, hAe⟩ : ∃ A : Nat → Prop, A = fun q => s.heap.size ≤ q := ⟨_, rfl⟩
  rw [← hAe]
  have hA : ∀ q : Nat, s.heap.size ≤ q → A q := fun q h => by rw [hAe]; exact h
  have hS : va_S A s.heap s.heap [] := va_S.rf
  have hl := lv_entry ([.int p0]) (n := 1) (Nat.le_of_ble_eq_true rfl)
  rw [show entryFrame m args 1 = entryFrame m ([.int p0] : List Value).toArray 1 from by rw [hargs], lg_entry_eq]
  generalize (lg_sl ([.int p0]) ++ List.replicate (1 - (lg_sl ([.int p0])).length) Slot.unset).toArray = ls at hl ⊢
  have hl : lv_has ls 1 [(0, .int p0)] := hl
  unfold f_X11_mostOf at hf
  refine lv_iload_n hx hb dX11_mostOf_0 rfl (lv_at hl 0 rfl) ?_
  refine lv_iconst (v := 1) hx hb dX11_mostOf_1 (by decide) ?_
  refine lv_icmp_ne (tgt := 11) hx hb dX11_mostOf_2 (by decide) (fun c2 => ?_) (fun c2 => ?_)
  · have hf := (if_neg c2).symm.trans hf
    refine lv_iload_n hx hb dX11_mostOf_11 rfl (lv_at hl 0 rfl) ?_
    refine lv_iconst (v := 3) hx hb dX11_mostOf_12 (by decide) ?_
    refine lv_icmp_ne (tgt := 22) hx hb dX11_mostOf_13 (by decide) (fun c1 => ?_) (fun c1 => ?_)
    · have hf := (if_neg c1).symm.trans hf
      refine lv_bipush (v := 20) hx hb dX11_mostOf_22 (by decide) ?_
      exact rtEi hx hb hr hlocks hS hf dX11_mostOf_24
    · have hf := (if_pos c1).symm.trans hf
      refine lv_sipush (v := 240) hx hb dX11_mostOf_16 (by decide) ?_
      refine lv_goto (tgt := 24) hx hb dX11_mostOf_19 (by decide) ?_
      exact rtEi hx hb hr hlocks hS hf dX11_mostOf_24
  · have hf := (if_pos c2).symm.trans hf
    refine lv_sipush (v := 239) hx hb dX11_mostOf_5 (by decide) ?_
    refine lv_goto (tgt := 24) hx hb dX11_mostOf_8 (by decide) ?_
    exact rtEi hx hb hr hlocks hS hf dX11_mostOf_24

def f_X11_put (M : MS) (p0 : Int32) (p1 : Int32) : Option (Int32 × MS) :=
  Option.bind (f_X11_in (Int32.toInt64 p0) 0 3) (fun r1 => (if r1 = 0 then (bi2 (f_X11_bad M (-2)) (fun r2 M3 => some ((r2, M3)))) else (Option.bind (f_X11_mostOf p0) (fun r4 => Option.bind (f_X11_in (Int32.toInt64 p1) 0 (Int32.toInt64 r4)) (fun r5 => (if r5 = 0 then (bi2 (f_X11_bad M (-2)) (fun r8 M9 => some ((r8, M9)))) else (Option.bind (f_X11_number M p0) (fun r6 => Option.bind (wrM M 0 277 (24 + p0) p1) (fun M7 => some ((r6, M7)))))))))))
def rmX11_put : Room := { frames := 1, cells := 0, slots := 0, locals := 25 }
abbrev RRX11_put : Room := (headSpec wsX11_put rmX11_put).room
theorem inX11_put : ∀ w ∈ wsX110, w ∈ wsX11_put := by decide +kernel
set_option maxHeartbeats 4000000 in
set_option maxRecDepth 100000 in
theorem c_X11_put (l : Launch) (dC : Nat → ClassId) (dI : Nat → Nat → Nat) (tI tZ : ClassId) (h : Nat → Nat) (sz : Nat) (M : MS) (p0 : Int32) (p1 : Int32) (r : Int32) (M' : MS) (hf : f_X11_put M p0 p1 = some (r, M')) : cMi l yX11_put wsX11_put rmX11_put dC dI tI tZ h sz [.ref (h 0), .int p0, .int p1] M r M' := by
  refine Met.ofW (cc := cX11_put) (maxL := 4) (ret := (some .int)) (by decide) rfl ?_
  intro p e s m args below meth c s₁ B hml hv
  obtain ⟨hargs, hsz, hP, hK, hD0⟩ := hv
  have hx := B.exec
  have hb := B.bytes
  have hr := B.returns
  have hts := atoms_spec (ws := wsX11_put) B.pre
  have hown : s.vm.findClass RX11 = some m.cls := findClass_of_methodNamed B.named
  have hlocks := B.notSynchronized
  have hin := inX11_put
  have hsz : s.heap.size = sz := hsz
  subst hsz
  have lk7 : Cond.fieldLink RX11 7 (TX11 0).1 (TX11 0).2.1 (TX11 0).2.2.1 ∈ wsX11_put := by decide +kernel
  have hD := hD0.self (sz := s.heap.size)
  generalize hAe : va_A (wM tI tZ h M) s.heap.size = A at hD ⊢
  have hA : ∀ q : Nat, s.heap.size ≤ q → A q := fun q h => by rw [← hAe]; exact Or.inr h
  have hS : va_S A s.heap s.heap [] := va_S.rf
  have hl := lv_entry ([.ref (h 0), .int p0, .int p1]) (n := 4) (Nat.le_of_ble_eq_true rfl)
  rw [show entryFrame m args 4 = entryFrame m ([.ref (h 0), .int p0, .int p1] : List Value).toArray 4 from by rw [hargs], lg_entry_eq]
  generalize (lg_sl ([.ref (h 0), .int p0, .int p1]) ++ List.replicate (4 - (lg_sl ([.ref (h 0), .int p0, .int p1])).length) Slot.unset).toArray = ls at hl ⊢
  have hl : lv_has ls 4 [(0, .ref (h 0)), (1, .int p0), (2, .int p1)] := hl
  unfold f_X11_put at hf
  refine lv_iload_n hx hb dX11_put_0 rfl (lv_at hl 1 rfl) ?_
  refine lv_i2l hx hb dX11_put_1 rfl ?_
  refine lv_lconst (v := 0) hx hb dX11_put_2 (by decide) ?_
  refine lv_ldc2 (v := 3) hx hb hown (hts (.constantLong RX11 80 (3)) (by decide +kernel)) dX11_put_3 ?_
  obtain ⟨r1, er1, hf⟩ := bd hf
  refine klEi (rest := []) (As := [.long (Int32.toInt64 p0), .long 0, .long 3]) ⟨hx, hb, hml, hown, hts⟩ (c_X11_in l s.heap.size (Int32.toInt64 p0) 0 3 r1 er1) (va_cwS 3 hts gX11_put_X11_in rfl rfl rfl (by decide +kernel) ⟨Nat.le_of_ble_eq_true rfl, Nat.le_of_ble_eq_true rfl⟩) rfl hl.1 rfl (Nat.le_of_ble_eq_true rfl) dX11_put_6 ⟨Nat.zero_le _, Nat.zero_le _⟩ hS hA (fun H2 locs hk hS => ?_)
  have hP := kpP hP hk
  generalize H2 = H at hP hS ⊢
  refine lv_if_eq (tgt := 26) hx hb dX11_put_9 (by decide) (fun c11 => ?_) (fun c11 => ?_)
  · have hf := (if_pos c11).symm.trans hf
    refine lv_aload_n hx hb dX11_put_26 rfl (lv_at hl 0 rfl) ?_
    refine lv_bipush (v := (-2)) hx hb dX11_put_27 (by decide) ?_
    obtain ⟨r2, M3, er2, hf⟩ := b2 hf
    refine klMi (rest := []) (As := [.int (-2)]) ⟨hx, hb, hml, hown, hts⟩ (c_X11_bad l dC dI tI tZ h H.size M (-2) r2 M3 er2) (cwV 1 hts gX11_put_X11_bad rfl rfl rfl (by decide +kernel) ⟨Nat.le_of_ble_eq_true rfl, Nat.le_of_ble_eq_true rfl⟩) rfl hl.1 rfl (Nat.le_of_ble_eq_true rfl) dX11_put_29 ⟨Nat.zero_le _, Nat.zero_le _⟩ hK hP hD hS hA (fun H locs hP hD hS => ?_)
    exact rtMi hx hb hr hlocks hK hP hD hS hf dX11_put_32
  · have hf := (if_neg c11).symm.trans hf
    refine lv_iload_n hx hb dX11_put_12 rfl (lv_at hl 2 rfl) ?_
    refine lv_i2l hx hb dX11_put_13 rfl ?_
    refine lv_lconst (v := 0) hx hb dX11_put_14 (by decide) ?_
    refine lv_iload_n hx hb dX11_put_15 rfl (lv_at hl 1 rfl) ?_
    obtain ⟨r4, er4, hf⟩ := bd hf
    refine klEi (rest := [.long 0, .long (Int32.toInt64 p1)]) (As := [.int p0]) ⟨hx, hb, hml, hown, hts⟩ (c_X11_mostOf l H.size p0 r4 er4) (va_cwS 1 hts gX11_put_X11_mostOf rfl rfl rfl (by decide +kernel) ⟨Nat.le_of_ble_eq_true rfl, Nat.le_of_ble_eq_true rfl⟩) rfl hl.1 rfl (Nat.le_of_ble_eq_true rfl) dX11_put_16 ⟨Nat.zero_le _, Nat.zero_le _⟩ hS hA (fun H2 locs hk hS => ?_)
    have hP := kpP hP hk
    generalize H2 = H at hP hS ⊢
    refine lv_i2l hx hb dX11_put_19 rfl ?_
    obtain ⟨r5, er5, hf⟩ := bd hf
    refine klEi (rest := []) (As := [.long (Int32.toInt64 p1), .long 0, .long (Int32.toInt64 r4)]) ⟨hx, hb, hml, hown, hts⟩ (c_X11_in l H.size (Int32.toInt64 p1) 0 (Int32.toInt64 r4) r5 er5) (va_cwS 3 hts gX11_put_X11_in rfl rfl rfl (by decide +kernel) ⟨Nat.le_of_ble_eq_true rfl, Nat.le_of_ble_eq_true rfl⟩) rfl hl.1 rfl (Nat.le_of_ble_eq_true rfl) dX11_put_20 ⟨Nat.zero_le _, Nat.zero_le _⟩ hS hA (fun H2 locs hk hS => ?_)
    have hP := kpP hP hk
    generalize H2 = H at hP hS ⊢
    refine lv_if_ne (tgt := 33) hx hb dX11_put_23 (by decide) (fun c10 => ?_) (fun c10 => ?_)
    · have hf := (if_neg c10).symm.trans hf
      refine lv_aload_n hx hb dX11_put_33 rfl (lv_at hl 0 rfl) ?_
      refine lv_iload_n hx hb dX11_put_34 rfl (lv_at hl 1 rfl) ?_
      obtain ⟨r6, er6, hf⟩ := bd hf
      refine klMi (rest := []) (As := [.int p0]) ⟨hx, hb, hml, hown, hts⟩ (c_X11_number l dC dI tI tZ h H.size M p0 r6 er6) (cwV 1 hts gX11_put_X11_number rfl rfl rfl (by decide +kernel) ⟨Nat.le_of_ble_eq_true rfl, Nat.le_of_ble_eq_true rfl⟩) rfl hl.1 rfl (Nat.le_of_ble_eq_true rfl) dX11_put_35 ⟨Nat.zero_le _, Nat.zero_le _⟩ hK hP hD hS hA (fun H locs hP hD hS => ?_)
      refine lv_istore_n (lv' := [(3, .int r6), (0, .ref (h 0)), (1, .int p0), (2, .int p1)]) hx hb dX11_put_38 rfl hl (by decide) rfl (fun ls hl => ?_)
      refine lv_aload_n hx hb dX11_put_39 rfl (lv_at hl 1 rfl) ?_
      refine geM hx hb hts hin hown hK hP 0 (by decide) lk7 rfl dX11_put_40 ?_
      refine lv_bipush (v := 24) hx hb dX11_put_43 (by decide) ?_
      refine lv_iload_n hx hb dX11_put_45 rfl (lv_at hl 2 rfl) ?_
      refine lv_iadd hx hb dX11_put_46 ?_
      refine lv_iload_n hx hb dX11_put_47 rfl (lv_at hl 3 rfl) ?_
      obtain ⟨M7, hiM7, eM7, hf⟩ := wr_b hf
      refine va_iast hx hb hK hP hD hS 1 0 rfl rfl hiM7 dX11_put_48 (fun H locs hP hD hS => ?_)
      have hP : va_P (dC, dI) vwCl (wM tI tZ h M7) H := by rw [eM7]; exact hP
      have hD : va_D A (wM tI tZ h M7) := by rw [eM7]; exact hD
      refine lv_iload_n hx hb dX11_put_49 rfl (lv_at hl 0 rfl) ?_
      exact rtMi hx hb hr hlocks hK hP hD hS hf dX11_put_50
    · have hf := (if_pos c10).symm.trans hf
      refine lv_aload_n hx hb dX11_put_26 rfl (lv_at hl 0 rfl) ?_
      refine lv_bipush (v := (-2)) hx hb dX11_put_27 (by decide) ?_
      obtain ⟨r8, M9, er8, hf⟩ := b2 hf
      refine klMi (rest := []) (As := [.int (-2)]) ⟨hx, hb, hml, hown, hts⟩ (c_X11_bad l dC dI tI tZ h H.size M (-2) r8 M9 er8) (cwV 1 hts gX11_put_X11_bad rfl rfl rfl (by decide +kernel) ⟨Nat.le_of_ble_eq_true rfl, Nat.le_of_ble_eq_true rfl⟩) rfl hl.1 rfl (Nat.le_of_ble_eq_true rfl) dX11_put_29 ⟨Nat.zero_le _, Nat.zero_le _⟩ hK hP hD hS hA (fun H locs hP hD hS => ?_)
      exact rtMi hx hb hr hlocks hK hP hD hS hf dX11_put_32

def j_X11_weightOf_31 (M : MS) (p0 : Int32) (k2 : Int32) : Option Int32 :=
  Option.bind (f_X11_told M p0 0) (fun r3 => (if k2 = 0 then (some (r3 + 0)) else (Option.bind (f_X11_number M 2) (fun r4 => some (r3 + r4)))))
def j_X11_weightOf_30 (M : MS) (p0 : Int32) : Option Int32 :=
  j_X11_weightOf_31 M p0 0
def j_X11_weightOf_17 (M : MS) (p0 : Int32) (p1 : Int32) : Option Int32 :=
  Option.bind (f_X11_number M 1) (fun r6 => (if p1 < r6 then (j_X11_weightOf_30 M p0) else (j_X11_weightOf_31 M p0 1)))
def f_X11_weightOf (M : MS) (p0 : Int32) (p1 : Int32) : Option Int32 :=
  Option.bind (f_X11_told M p0 3) (fun r1 => (if r1 = 2 then (j_X11_weightOf_17 M p0 p1) else ((if r1 = 4 then (j_X11_weightOf_17 M p0 p1) else (j_X11_weightOf_30 M p0)))))
def rmX11_weightOf : Room := { frames := 1, cells := 0, slots := 0, locals := 22 }
abbrev RRX11_weightOf : Room := (headSpec wsX11_weightOf rmX11_weightOf).room
theorem inX11_weightOf : ∀ w ∈ wsX110, w ∈ wsX11_weightOf := by decide +kernel
set_option maxHeartbeats 4000000 in
set_option maxRecDepth 100000 in
theorem c_X11_weightOf (l : Launch) (dC : Nat → ClassId) (dI : Nat → Nat → Nat) (tI tZ : ClassId) (h : Nat → Nat) (sz : Nat) (M : MS) (p0 : Int32) (p1 : Int32) (r : Int32) (hf : f_X11_weightOf M p0 p1 = some r) : cMi l yX11_weightOf wsX11_weightOf rmX11_weightOf dC dI tI tZ h sz [.ref (h 0), .int p0, .int p1] M r M := by
  refine Met.ofW (cc := cX11_weightOf) (maxL := 5) (ret := (some .int)) (by decide) rfl ?_
  intro p e s m args below meth c s₁ B hml hv
  obtain ⟨hargs, hsz, hP, hK, hD0⟩ := hv
  have hx := B.exec
  have hb := B.bytes
  have hr := B.returns
  have hts := atoms_spec (ws := wsX11_weightOf) B.pre
  have hown : s.vm.findClass RX11 = some m.cls := findClass_of_methodNamed B.named
  have hlocks := B.notSynchronized
  have hin := inX11_weightOf
  have hsz : s.heap.size = sz := hsz
  subst hsz
  have hD := hD0.self (sz := s.heap.size)
  generalize hAe : va_A (wM tI tZ h M) s.heap.size = A at hD ⊢
  have hA : ∀ q : Nat, s.heap.size ≤ q → A q := fun q h => by rw [← hAe]; exact Or.inr h
  have hS : va_S A s.heap s.heap [] := va_S.rf
  have hl := lv_entry ([.ref (h 0), .int p0, .int p1]) (n := 5) (Nat.le_of_ble_eq_true rfl)
  rw [show entryFrame m args 5 = entryFrame m ([.ref (h 0), .int p0, .int p1] : List Value).toArray 5 from by rw [hargs], lg_entry_eq]
  generalize (lg_sl ([.ref (h 0), .int p0, .int p1]) ++ List.replicate (5 - (lg_sl ([.ref (h 0), .int p0, .int p1])).length) Slot.unset).toArray = ls at hl ⊢
  have hl : lv_has ls 5 [(0, .ref (h 0)), (1, .int p0), (2, .int p1)] := hl
  unfold f_X11_weightOf at hf
  refine lv_aload_n hx hb dX11_weightOf_0 rfl (lv_at hl 0 rfl) ?_
  refine lv_iload_n hx hb dX11_weightOf_1 rfl (lv_at hl 1 rfl) ?_
  refine lv_iconst (v := 3) hx hb dX11_weightOf_2 (by decide) ?_
  obtain ⟨r1, er1, hf⟩ := bd hf
  refine klMi (rest := []) (As := [.int p0, .int 3]) ⟨hx, hb, hml, hown, hts⟩ (c_X11_told l dC dI tI tZ h s.heap.size M p0 3 r1 er1) (cwV 2 hts gX11_weightOf_X11_told rfl rfl rfl (by decide +kernel) ⟨Nat.le_of_ble_eq_true rfl, Nat.le_of_ble_eq_true rfl⟩) rfl hl.1 rfl (Nat.le_of_ble_eq_true rfl) dX11_weightOf_3 ⟨Nat.zero_le _, Nat.zero_le _⟩ hK hP hD hS hA (fun H locs hP hD hS => ?_)
  refine lv_istore_n (lv' := [(3, .int r1), (0, .ref (h 0)), (1, .int p0), (2, .int p1)]) hx hb dX11_weightOf_6 rfl hl (by decide) rfl (fun ls hl => ?_)
  refine lv_iload_n hx hb dX11_weightOf_7 rfl (lv_at hl 0 rfl) ?_
  refine lv_iconst (v := 2) hx hb dX11_weightOf_8 (by decide) ?_
  have J31 : ∀ (k2 : Int32) (H : Heap) (locs : List Loc) (ls : Array Slot), j_X11_weightOf_31 M p0 k2 = some r → va_P (dC, dI) vwCl (wM tI tZ h M) H → va_D A (wM tI tZ h M) → va_S A s.heap H locs → lv_has ls 5 [(0, .ref (h 0)), (1, .int p0)] → W p l e RRX11_weightOf s m args below meth c H locs 0 0 (MQ below (qcMi dC dI tI tZ A h r M) args s 0 0 A) (F0 m 31 ls [.int k2]) := by
    intro k2 H locs ls hf hP hD hS hl
    unfold j_X11_weightOf_31 at hf
    refine lv_istore (lv' := [(4, .int k2), (0, .ref (h 0)), (1, .int p0)]) hx hb dX11_weightOf_31 hl (by decide) rfl (fun ls hl => ?_)
    refine lv_aload_n hx hb dX11_weightOf_33 rfl (lv_at hl 1 rfl) ?_
    refine lv_iload_n hx hb dX11_weightOf_34 rfl (lv_at hl 2 rfl) ?_
    refine lv_iconst (v := 0) hx hb dX11_weightOf_35 (by decide) ?_
    obtain ⟨r3, er3, hf⟩ := bd hf
    refine klMi (rest := []) (As := [.int p0, .int 0]) ⟨hx, hb, hml, hown, hts⟩ (c_X11_told l dC dI tI tZ h H.size M p0 0 r3 er3) (cwV 2 hts gX11_weightOf_X11_told rfl rfl rfl (by decide +kernel) ⟨Nat.le_of_ble_eq_true rfl, Nat.le_of_ble_eq_true rfl⟩) rfl hl.1 rfl (Nat.le_of_ble_eq_true rfl) dX11_weightOf_36 ⟨Nat.zero_le _, Nat.zero_le _⟩ hK hP hD hS hA (fun H locs hP hD hS => ?_)
    refine lv_iload hx hb dX11_weightOf_39 (lv_at hl 0 rfl) ?_
    refine lv_if_eq (tgt := 52) hx hb dX11_weightOf_41 (by decide) (fun c5 => ?_) (fun c5 => ?_)
    · have hf := (if_pos c5).symm.trans hf
      refine lv_iconst (v := 0) hx hb dX11_weightOf_52 (by decide) ?_
      refine lv_iadd hx hb dX11_weightOf_53 ?_
      exact rtMi hx hb hr hlocks hK hP hD hS (congrArg (fun z => some (z, M)) (Option.some.inj hf)) dX11_weightOf_54
    · have hf := (if_neg c5).symm.trans hf
      refine lv_aload_n hx hb dX11_weightOf_44 rfl (lv_at hl 1 rfl) ?_
      refine lv_iconst (v := 2) hx hb dX11_weightOf_45 (by decide) ?_
      obtain ⟨r4, er4, hf⟩ := bd hf
      refine klMi (rest := [.int r3]) (As := [.int 2]) ⟨hx, hb, hml, hown, hts⟩ (c_X11_number l dC dI tI tZ h H.size M 2 r4 er4) (cwV 1 hts gX11_weightOf_X11_number rfl rfl rfl (by decide +kernel) ⟨Nat.le_of_ble_eq_true rfl, Nat.le_of_ble_eq_true rfl⟩) rfl hl.1 rfl (Nat.le_of_ble_eq_true rfl) dX11_weightOf_46 ⟨Nat.zero_le _, Nat.zero_le _⟩ hK hP hD hS hA (fun H locs hP hD hS => ?_)
      refine lv_goto (tgt := 53) hx hb dX11_weightOf_49 (by decide) ?_
      refine lv_iadd hx hb dX11_weightOf_53 ?_
      exact rtMi hx hb hr hlocks hK hP hD hS (congrArg (fun z => some (z, M)) (Option.some.inj hf)) dX11_weightOf_54
  have J30 : ∀  (H : Heap) (locs : List Loc) (ls : Array Slot), j_X11_weightOf_30 M p0 = some r → va_P (dC, dI) vwCl (wM tI tZ h M) H → va_D A (wM tI tZ h M) → va_S A s.heap H locs → lv_has ls 5 [(0, .ref (h 0)), (1, .int p0)] → W p l e RRX11_weightOf s m args below meth c H locs 0 0 (MQ below (qcMi dC dI tI tZ A h r M) args s 0 0 A) (F0 m 30 ls []) := by
    intro  H locs ls hf hP hD hS hl
    unfold j_X11_weightOf_30 at hf
    refine lv_iconst (v := 0) hx hb dX11_weightOf_30 (by decide) ?_
    exact J31 0 _ _ _ hf hP hD hS (lv_sub hl [0, 1] rfl)
  have J17 : ∀  (H : Heap) (locs : List Loc) (ls : Array Slot), j_X11_weightOf_17 M p0 p1 = some r → va_P (dC, dI) vwCl (wM tI tZ h M) H → va_D A (wM tI tZ h M) → va_S A s.heap H locs → lv_has ls 5 [(0, .ref (h 0)), (1, .int p0), (2, .int p1)] → W p l e RRX11_weightOf s m args below meth c H locs 0 0 (MQ below (qcMi dC dI tI tZ A h r M) args s 0 0 A) (F0 m 17 ls []) := by
    intro  H locs ls hf hP hD hS hl
    unfold j_X11_weightOf_17 at hf
    refine lv_iload_n hx hb dX11_weightOf_17 rfl (lv_at hl 2 rfl) ?_
    refine lv_aload_n hx hb dX11_weightOf_18 rfl (lv_at hl 0 rfl) ?_
    refine lv_iconst (v := 1) hx hb dX11_weightOf_19 (by decide) ?_
    obtain ⟨r6, er6, hf⟩ := bd hf
    refine klMi (rest := [.int p1]) (As := [.int 1]) ⟨hx, hb, hml, hown, hts⟩ (c_X11_number l dC dI tI tZ h H.size M 1 r6 er6) (cwV 1 hts gX11_weightOf_X11_number rfl rfl rfl (by decide +kernel) ⟨Nat.le_of_ble_eq_true rfl, Nat.le_of_ble_eq_true rfl⟩) rfl hl.1 rfl (Nat.le_of_ble_eq_true rfl) dX11_weightOf_20 ⟨Nat.zero_le _, Nat.zero_le _⟩ hK hP hD hS hA (fun H locs hP hD hS => ?_)
    refine lv_icmp_lt (tgt := 30) hx hb dX11_weightOf_23 (by decide) (fun c7 => ?_) (fun c7 => ?_)
    · have hf := (if_pos c7).symm.trans hf
      exact J30  _ _ _ hf hP hD hS (lv_sub hl [0, 1] rfl)
    · have hf := (if_neg c7).symm.trans hf
      refine lv_iconst (v := 1) hx hb dX11_weightOf_26 (by decide) ?_
      refine lv_goto (tgt := 31) hx hb dX11_weightOf_27 (by decide) ?_
      exact J31 1 _ _ _ hf hP hD hS (lv_sub hl [0, 1] rfl)
  refine lv_icmp_eq (tgt := 17) hx hb dX11_weightOf_9 (by decide) (fun c9 => ?_) (fun c9 => ?_)
  · have hf := (if_pos c9).symm.trans hf
    exact J17  _ _ _ hf hP hD hS (lv_sub hl [1, 2, 3] rfl)
  · have hf := (if_neg c9).symm.trans hf
    refine lv_iload_n hx hb dX11_weightOf_12 rfl (lv_at hl 0 rfl) ?_
    refine lv_iconst (v := 4) hx hb dX11_weightOf_13 (by decide) ?_
    refine lv_icmp_ne (tgt := 30) hx hb dX11_weightOf_14 (by decide) (fun c8 => ?_) (fun c8 => ?_)
    · have hf := (if_neg c8).symm.trans hf
      exact J30  _ _ _ hf hP hD hS (lv_sub hl [1, 2] rfl)
    · have hf := (if_pos c8).symm.trans hf
      exact J17  _ _ _ hf hP hD hS (lv_sub hl [1, 2, 3] rfl)

def f_X11_timeOf (M : MS) (p0 : Int32) : Option Int32 :=
  Option.bind (f_X11_told M p0 3) (fun r1 => (if r1 = 1 then (Option.bind (f_X11_told M p0 1) (fun r2 => some (2 * r2))) else ((if r1 = 3 then (Option.bind (f_X11_told M p0 1) (fun r4 => some (2 * r4))) else (Option.bind (f_X11_told M p0 1) (fun r3 => some r3))))))
def rmX11_timeOf : Room := { frames := 1, cells := 0, slots := 0, locals := 22 }
abbrev RRX11_timeOf : Room := (headSpec wsX11_timeOf rmX11_timeOf).room
theorem inX11_timeOf : ∀ w ∈ wsX110, w ∈ wsX11_timeOf := by decide +kernel
set_option maxHeartbeats 4000000 in
set_option maxRecDepth 100000 in
theorem c_X11_timeOf (l : Launch) (dC : Nat → ClassId) (dI : Nat → Nat → Nat) (tI tZ : ClassId) (h : Nat → Nat) (sz : Nat) (M : MS) (p0 : Int32) (r : Int32) (hf : f_X11_timeOf M p0 = some r) : cMi l yX11_timeOf wsX11_timeOf rmX11_timeOf dC dI tI tZ h sz [.ref (h 0), .int p0] M r M := by
  refine Met.ofW (cc := cX11_timeOf) (maxL := 3) (ret := (some .int)) (by decide) rfl ?_
  intro p e s m args below meth c s₁ B hml hv
  obtain ⟨hargs, hsz, hP, hK, hD0⟩ := hv
  have hx := B.exec
  have hb := B.bytes
  have hr := B.returns
  have hts := atoms_spec (ws := wsX11_timeOf) B.pre
  have hown : s.vm.findClass RX11 = some m.cls := findClass_of_methodNamed B.named
  have hlocks := B.notSynchronized
  have hin := inX11_timeOf
  have hsz : s.heap.size = sz := hsz
  subst hsz
  have hD := hD0.self (sz := s.heap.size)
  generalize hAe : va_A (wM tI tZ h M) s.heap.size = A at hD ⊢
  have hA : ∀ q : Nat, s.heap.size ≤ q → A q := fun q h => by rw [← hAe]; exact Or.inr h
  have hS : va_S A s.heap s.heap [] := va_S.rf
  have hl := lv_entry ([.ref (h 0), .int p0]) (n := 3) (Nat.le_of_ble_eq_true rfl)
  rw [show entryFrame m args 3 = entryFrame m ([.ref (h 0), .int p0] : List Value).toArray 3 from by rw [hargs], lg_entry_eq]
  generalize (lg_sl ([.ref (h 0), .int p0]) ++ List.replicate (3 - (lg_sl ([.ref (h 0), .int p0])).length) Slot.unset).toArray = ls at hl ⊢
  have hl : lv_has ls 3 [(0, .ref (h 0)), (1, .int p0)] := hl
  unfold f_X11_timeOf at hf
  refine lv_aload_n hx hb dX11_timeOf_0 rfl (lv_at hl 0 rfl) ?_
  refine lv_iload_n hx hb dX11_timeOf_1 rfl (lv_at hl 1 rfl) ?_
  refine lv_iconst (v := 3) hx hb dX11_timeOf_2 (by decide) ?_
  obtain ⟨r1, er1, hf⟩ := bd hf
  refine klMi (rest := []) (As := [.int p0, .int 3]) ⟨hx, hb, hml, hown, hts⟩ (c_X11_told l dC dI tI tZ h s.heap.size M p0 3 r1 er1) (cwV 2 hts gX11_timeOf_X11_told rfl rfl rfl (by decide +kernel) ⟨Nat.le_of_ble_eq_true rfl, Nat.le_of_ble_eq_true rfl⟩) rfl hl.1 rfl (Nat.le_of_ble_eq_true rfl) dX11_timeOf_3 ⟨Nat.zero_le _, Nat.zero_le _⟩ hK hP hD hS hA (fun H locs hP hD hS => ?_)
  refine lv_istore_n (lv' := [(2, .int r1), (0, .ref (h 0)), (1, .int p0)]) hx hb dX11_timeOf_6 rfl hl (by decide) rfl (fun ls hl => ?_)
  refine lv_iload_n hx hb dX11_timeOf_7 rfl (lv_at hl 0 rfl) ?_
  refine lv_iconst (v := 1) hx hb dX11_timeOf_8 (by decide) ?_
  refine lv_icmp_eq (tgt := 17) hx hb dX11_timeOf_9 (by decide) (fun c6 => ?_) (fun c6 => ?_)
  · have hf := (if_pos c6).symm.trans hf
    refine lv_iconst (v := 2) hx hb dX11_timeOf_17 (by decide) ?_
    refine lv_aload_n hx hb dX11_timeOf_18 rfl (lv_at hl 1 rfl) ?_
    refine lv_iload_n hx hb dX11_timeOf_19 rfl (lv_at hl 2 rfl) ?_
    refine lv_iconst (v := 1) hx hb dX11_timeOf_20 (by decide) ?_
    obtain ⟨r2, er2, hf⟩ := bd hf
    refine klMi (rest := [.int 2]) (As := [.int p0, .int 1]) ⟨hx, hb, hml, hown, hts⟩ (c_X11_told l dC dI tI tZ h H.size M p0 1 r2 er2) (cwV 2 hts gX11_timeOf_X11_told rfl rfl rfl (by decide +kernel) ⟨Nat.le_of_ble_eq_true rfl, Nat.le_of_ble_eq_true rfl⟩) rfl hl.1 rfl (Nat.le_of_ble_eq_true rfl) dX11_timeOf_21 ⟨Nat.zero_le _, Nat.zero_le _⟩ hK hP hD hS hA (fun H locs hP hD hS => ?_)
    refine lv_imul hx hb dX11_timeOf_24 ?_
    refine lv_goto (tgt := 34) hx hb dX11_timeOf_25 (by decide) ?_
    exact rtMi hx hb hr hlocks hK hP hD hS (congrArg (fun z => some (z, M)) (Option.some.inj hf)) dX11_timeOf_34
  · have hf := (if_neg c6).symm.trans hf
    refine lv_iload_n hx hb dX11_timeOf_12 rfl (lv_at hl 0 rfl) ?_
    refine lv_iconst (v := 3) hx hb dX11_timeOf_13 (by decide) ?_
    refine lv_icmp_ne (tgt := 28) hx hb dX11_timeOf_14 (by decide) (fun c5 => ?_) (fun c5 => ?_)
    · have hf := (if_neg c5).symm.trans hf
      refine lv_aload_n hx hb dX11_timeOf_28 rfl (lv_at hl 1 rfl) ?_
      refine lv_iload_n hx hb dX11_timeOf_29 rfl (lv_at hl 2 rfl) ?_
      refine lv_iconst (v := 1) hx hb dX11_timeOf_30 (by decide) ?_
      obtain ⟨r3, er3, hf⟩ := bd hf
      refine klMi (rest := []) (As := [.int p0, .int 1]) ⟨hx, hb, hml, hown, hts⟩ (c_X11_told l dC dI tI tZ h H.size M p0 1 r3 er3) (cwV 2 hts gX11_timeOf_X11_told rfl rfl rfl (by decide +kernel) ⟨Nat.le_of_ble_eq_true rfl, Nat.le_of_ble_eq_true rfl⟩) rfl hl.1 rfl (Nat.le_of_ble_eq_true rfl) dX11_timeOf_31 ⟨Nat.zero_le _, Nat.zero_le _⟩ hK hP hD hS hA (fun H locs hP hD hS => ?_)
      exact rtMi hx hb hr hlocks hK hP hD hS (congrArg (fun z => some (z, M)) (Option.some.inj hf)) dX11_timeOf_34
    · have hf := (if_pos c5).symm.trans hf
      refine lv_iconst (v := 2) hx hb dX11_timeOf_17 (by decide) ?_
      refine lv_aload_n hx hb dX11_timeOf_18 rfl (lv_at hl 1 rfl) ?_
      refine lv_iload_n hx hb dX11_timeOf_19 rfl (lv_at hl 2 rfl) ?_
      refine lv_iconst (v := 1) hx hb dX11_timeOf_20 (by decide) ?_
      obtain ⟨r4, er4, hf⟩ := bd hf
      refine klMi (rest := [.int 2]) (As := [.int p0, .int 1]) ⟨hx, hb, hml, hown, hts⟩ (c_X11_told l dC dI tI tZ h H.size M p0 1 r4 er4) (cwV 2 hts gX11_timeOf_X11_told rfl rfl rfl (by decide +kernel) ⟨Nat.le_of_ble_eq_true rfl, Nat.le_of_ble_eq_true rfl⟩) rfl hl.1 rfl (Nat.le_of_ble_eq_true rfl) dX11_timeOf_21 ⟨Nat.zero_le _, Nat.zero_le _⟩ hK hP hD hS hA (fun H locs hP hD hS => ?_)
      refine lv_imul hx hb dX11_timeOf_24 ?_
      refine lv_goto (tgt := 34) hx hb dX11_timeOf_25 (by decide) ?_
      exact rtMi hx hb hr hlocks hK hP hD hS (congrArg (fun z => some (z, M)) (Option.some.inj hf)) dX11_timeOf_34

def f_X11_of (M : MS) (p0 : Int32) (p1 : Int32) (p2 : Int32) : Option (Int32 × MS) :=
  Option.bind (f_X11_isPorter M p0) (fun r1 => (if r1 = 0 then (bi2 (f_X11_bad M (-2)) (fun r2 M3 => some ((r2, M3)))) else (Option.bind (f_X11_in (Int32.toInt64 p1) 0 239) (fun r4 => (if r4 = 0 then (bi2 (f_X11_bad M (-2)) (fun r5 M6 => some ((r5, M6)))) else (Option.bind (f_X11_in (Int32.toInt64 p2) 0 1) (fun r7 => (if r7 = 0 then (bi2 (f_X11_bad M (-2)) (fun r11 M12 => some ((r11, M12)))) else ((if p2 = 0 then (Option.bind (f_X11_weightOf M p0 p1) (fun r9 => some ((r9, M)))) else (Option.bind (f_X11_timeOf M p0) (fun r8 => some ((r8, M))))))))))))))
def rmX11_of : Room := { frames := 2, cells := 0, slots := 0, locals := 46 }
abbrev RRX11_of : Room := (headSpec wsX11_of rmX11_of).room
theorem inX11_of : ∀ w ∈ wsX110, w ∈ wsX11_of := by decide +kernel
set_option maxHeartbeats 4000000 in
set_option maxRecDepth 100000 in
theorem c_X11_of (l : Launch) (dC : Nat → ClassId) (dI : Nat → Nat → Nat) (tI tZ : ClassId) (h : Nat → Nat) (sz : Nat) (M : MS) (p0 : Int32) (p1 : Int32) (p2 : Int32) (r : Int32) (M' : MS) (hf : f_X11_of M p0 p1 p2 = some (r, M')) : cMi l yX11_of wsX11_of rmX11_of dC dI tI tZ h sz [.ref (h 0), .int p0, .int p1, .int p2] M r M' := by
  refine Met.ofW (cc := cX11_of) (maxL := 4) (ret := (some .int)) (by decide) rfl ?_
  intro p e s m args below meth c s₁ B hml hv
  obtain ⟨hargs, hsz, hP, hK, hD0⟩ := hv
  have hx := B.exec
  have hb := B.bytes
  have hr := B.returns
  have hts := atoms_spec (ws := wsX11_of) B.pre
  have hown : s.vm.findClass RX11 = some m.cls := findClass_of_methodNamed B.named
  have hlocks := B.notSynchronized
  have hin := inX11_of
  have hsz : s.heap.size = sz := hsz
  subst hsz
  have hD := hD0.self (sz := s.heap.size)
  generalize hAe : va_A (wM tI tZ h M) s.heap.size = A at hD ⊢
  have hA : ∀ q : Nat, s.heap.size ≤ q → A q := fun q h => by rw [← hAe]; exact Or.inr h
  have hS : va_S A s.heap s.heap [] := va_S.rf
  have hl := lv_entry ([.ref (h 0), .int p0, .int p1, .int p2]) (n := 4) (Nat.le_of_ble_eq_true rfl)
  rw [show entryFrame m args 4 = entryFrame m ([.ref (h 0), .int p0, .int p1, .int p2] : List Value).toArray 4 from by rw [hargs], lg_entry_eq]
  generalize (lg_sl ([.ref (h 0), .int p0, .int p1, .int p2]) ++ List.replicate (4 - (lg_sl ([.ref (h 0), .int p0, .int p1, .int p2])).length) Slot.unset).toArray = ls at hl ⊢
  have hl : lv_has ls 4 [(0, .ref (h 0)), (1, .int p0), (2, .int p1), (3, .int p2)] := hl
  unfold f_X11_of at hf
  refine lv_aload_n hx hb dX11_of_0 rfl (lv_at hl 0 rfl) ?_
  refine lv_iload_n hx hb dX11_of_1 rfl (lv_at hl 1 rfl) ?_
  obtain ⟨r1, er1, hf⟩ := bd hf
  refine klMi (rest := []) (As := [.int p0]) ⟨hx, hb, hml, hown, hts⟩ (c_X11_isPorter l dC dI tI tZ h s.heap.size M p0 r1 er1) (cwV 1 hts gX11_of_X11_isPorter rfl rfl rfl (by decide +kernel) ⟨Nat.le_of_ble_eq_true rfl, Nat.le_of_ble_eq_true rfl⟩) rfl hl.1 rfl (Nat.le_of_ble_eq_true rfl) dX11_of_2 ⟨Nat.zero_le _, Nat.zero_le _⟩ hK hP hD hS hA (fun H locs hP hD hS => ?_)
  refine lv_if_eq (tgt := 30) hx hb dX11_of_5 (by decide) (fun c15 => ?_) (fun c15 => ?_)
  · have hf := (if_pos c15).symm.trans hf
    refine lv_aload_n hx hb dX11_of_30 rfl (lv_at hl 0 rfl) ?_
    refine lv_bipush (v := (-2)) hx hb dX11_of_31 (by decide) ?_
    obtain ⟨r2, M3, er2, hf⟩ := b2 hf
    refine klMi (rest := []) (As := [.int (-2)]) ⟨hx, hb, hml, hown, hts⟩ (c_X11_bad l dC dI tI tZ h H.size M (-2) r2 M3 er2) (cwV 1 hts gX11_of_X11_bad rfl rfl rfl (by decide +kernel) ⟨Nat.le_of_ble_eq_true rfl, Nat.le_of_ble_eq_true rfl⟩) rfl hl.1 rfl (Nat.le_of_ble_eq_true rfl) dX11_of_33 ⟨Nat.zero_le _, Nat.zero_le _⟩ hK hP hD hS hA (fun H locs hP hD hS => ?_)
    exact rtMi hx hb hr hlocks hK hP hD hS hf dX11_of_36
  · have hf := (if_neg c15).symm.trans hf
    refine lv_iload_n hx hb dX11_of_8 rfl (lv_at hl 2 rfl) ?_
    refine lv_i2l hx hb dX11_of_9 rfl ?_
    refine lv_lconst (v := 0) hx hb dX11_of_10 (by decide) ?_
    refine lv_ldc2 (v := 239) hx hb hown (hts (.constantLong RX11 96 (239)) (by decide +kernel)) dX11_of_11 ?_
    obtain ⟨r4, er4, hf⟩ := bd hf
    refine klEi (rest := []) (As := [.long (Int32.toInt64 p1), .long 0, .long 239]) ⟨hx, hb, hml, hown, hts⟩ (c_X11_in l H.size (Int32.toInt64 p1) 0 239 r4 er4) (va_cwS 3 hts gX11_of_X11_in rfl rfl rfl (by decide +kernel) ⟨Nat.le_of_ble_eq_true rfl, Nat.le_of_ble_eq_true rfl⟩) rfl hl.1 rfl (Nat.le_of_ble_eq_true rfl) dX11_of_14 ⟨Nat.zero_le _, Nat.zero_le _⟩ hS hA (fun H2 locs hk hS => ?_)
    have hP := kpP hP hk
    generalize H2 = H at hP hS ⊢
    refine lv_if_eq (tgt := 30) hx hb dX11_of_17 (by decide) (fun c14 => ?_) (fun c14 => ?_)
    · have hf := (if_pos c14).symm.trans hf
      refine lv_aload_n hx hb dX11_of_30 rfl (lv_at hl 0 rfl) ?_
      refine lv_bipush (v := (-2)) hx hb dX11_of_31 (by decide) ?_
      obtain ⟨r5, M6, er5, hf⟩ := b2 hf
      refine klMi (rest := []) (As := [.int (-2)]) ⟨hx, hb, hml, hown, hts⟩ (c_X11_bad l dC dI tI tZ h H.size M (-2) r5 M6 er5) (cwV 1 hts gX11_of_X11_bad rfl rfl rfl (by decide +kernel) ⟨Nat.le_of_ble_eq_true rfl, Nat.le_of_ble_eq_true rfl⟩) rfl hl.1 rfl (Nat.le_of_ble_eq_true rfl) dX11_of_33 ⟨Nat.zero_le _, Nat.zero_le _⟩ hK hP hD hS hA (fun H locs hP hD hS => ?_)
      exact rtMi hx hb hr hlocks hK hP hD hS hf dX11_of_36
    · have hf := (if_neg c14).symm.trans hf
      refine lv_iload_n hx hb dX11_of_20 rfl (lv_at hl 3 rfl) ?_
      refine lv_i2l hx hb dX11_of_21 rfl ?_
      refine lv_lconst (v := 0) hx hb dX11_of_22 (by decide) ?_
      refine lv_lconst (v := 1) hx hb dX11_of_23 (by decide) ?_
      obtain ⟨r7, er7, hf⟩ := bd hf
      refine klEi (rest := []) (As := [.long (Int32.toInt64 p2), .long 0, .long 1]) ⟨hx, hb, hml, hown, hts⟩ (c_X11_in l H.size (Int32.toInt64 p2) 0 1 r7 er7) (va_cwS 3 hts gX11_of_X11_in rfl rfl rfl (by decide +kernel) ⟨Nat.le_of_ble_eq_true rfl, Nat.le_of_ble_eq_true rfl⟩) rfl hl.1 rfl (Nat.le_of_ble_eq_true rfl) dX11_of_24 ⟨Nat.zero_le _, Nat.zero_le _⟩ hS hA (fun H2 locs hk hS => ?_)
      have hP := kpP hP hk
      generalize H2 = H at hP hS ⊢
      refine lv_if_ne (tgt := 37) hx hb dX11_of_27 (by decide) (fun c13 => ?_) (fun c13 => ?_)
      · have hf := (if_neg c13).symm.trans hf
        refine lv_iload_n hx hb dX11_of_37 rfl (lv_at hl 3 rfl) ?_
        refine lv_if_ne (tgt := 50) hx hb dX11_of_38 (by decide) (fun c10 => ?_) (fun c10 => ?_)
        · have hf := (if_neg c10).symm.trans hf
          refine lv_aload_n hx hb dX11_of_50 rfl (lv_at hl 0 rfl) ?_
          refine lv_iload_n hx hb dX11_of_51 rfl (lv_at hl 1 rfl) ?_
          obtain ⟨r8, er8, hf⟩ := bd hf
          refine klMi (rest := []) (As := [.int p0]) ⟨hx, hb, hml, hown, hts⟩ (c_X11_timeOf l dC dI tI tZ h H.size M p0 r8 er8) (cwV 1 hts gX11_of_X11_timeOf rfl rfl rfl (by decide +kernel) ⟨Nat.le_of_ble_eq_true rfl, Nat.le_of_ble_eq_true rfl⟩) rfl hl.1 rfl (Nat.le_of_ble_eq_true rfl) dX11_of_52 ⟨Nat.zero_le _, Nat.zero_le _⟩ hK hP hD hS hA (fun H locs hP hD hS => ?_)
          exact rtMi hx hb hr hlocks hK hP hD hS hf dX11_of_55
        · have hf := (if_pos c10).symm.trans hf
          refine lv_aload_n hx hb dX11_of_41 rfl (lv_at hl 0 rfl) ?_
          refine lv_iload_n hx hb dX11_of_42 rfl (lv_at hl 1 rfl) ?_
          refine lv_iload_n hx hb dX11_of_43 rfl (lv_at hl 2 rfl) ?_
          obtain ⟨r9, er9, hf⟩ := bd hf
          refine klMi (rest := []) (As := [.int p0, .int p1]) ⟨hx, hb, hml, hown, hts⟩ (c_X11_weightOf l dC dI tI tZ h H.size M p0 p1 r9 er9) (cwV 2 hts gX11_of_X11_weightOf rfl rfl rfl (by decide +kernel) ⟨Nat.le_of_ble_eq_true rfl, Nat.le_of_ble_eq_true rfl⟩) rfl hl.1 rfl (Nat.le_of_ble_eq_true rfl) dX11_of_44 ⟨Nat.zero_le _, Nat.zero_le _⟩ hK hP hD hS hA (fun H locs hP hD hS => ?_)
          refine lv_goto (tgt := 55) hx hb dX11_of_47 (by decide) ?_
          exact rtMi hx hb hr hlocks hK hP hD hS hf dX11_of_55
      · have hf := (if_pos c13).symm.trans hf
        refine lv_aload_n hx hb dX11_of_30 rfl (lv_at hl 0 rfl) ?_
        refine lv_bipush (v := (-2)) hx hb dX11_of_31 (by decide) ?_
        obtain ⟨r11, M12, er11, hf⟩ := b2 hf
        refine klMi (rest := []) (As := [.int (-2)]) ⟨hx, hb, hml, hown, hts⟩ (c_X11_bad l dC dI tI tZ h H.size M (-2) r11 M12 er11) (cwV 1 hts gX11_of_X11_bad rfl rfl rfl (by decide +kernel) ⟨Nat.le_of_ble_eq_true rfl, Nat.le_of_ble_eq_true rfl⟩) rfl hl.1 rfl (Nat.le_of_ble_eq_true rfl) dX11_of_33 ⟨Nat.zero_le _, Nat.zero_le _⟩ hK hP hD hS hA (fun H locs hP hD hS => ?_)
        exact rtMi hx hb hr hlocks hK hP hD hS hf dX11_of_36

def k_X11_manyIn_4 (y1 : Int32) : Option Int32 :=
  some y1
def b_X11_manyIn_4 (p0 : Int32) (y2 : Int32) (y3 : Int32) : Option ((Int32 × Int32) ⊕ Int32) :=
  (if 6 ≤ y3 then (some (Sum.inr y2)) else (Option.bind (some (y2 + ((p0 >>> (y3 &&& 31)) &&& 1))) (fun x4 => Option.bind (some (y3 + 1)) (fun x5 => some (Sum.inl (x4, x5))))))
def f_X11_manyIn (p0 : Int32) : Option Int32 :=
  Option.bind (lp (fun s => b_X11_manyIn_4 p0 s.1 s.2) FU (0, 0)) (fun s => k_X11_manyIn_4 s)
def rmX11_manyIn : Room := { frames := 0, cells := 0, slots := 0, locals := 0 }
abbrev RRX11_manyIn : Room := (headSpec wsX11_manyIn rmX11_manyIn).room
set_option maxHeartbeats 4000000 in
set_option maxRecDepth 100000 in
theorem c_X11_manyIn (l : Launch) (sz : Nat) (p0 : Int32) (r : Int32) (hf : f_X11_manyIn p0 = some r) : cEi l yX11_manyIn wsX11_manyIn rmX11_manyIn sz [.int p0] r := by
  refine Met.ofW (cc := cX11_manyIn) (maxL := 3) (ret := (some .int)) (by decide) rfl ?_
  intro p e s m args below meth c s₁ B hml hv
  obtain ⟨hargs, hsz⟩ := hv
  have hx := B.exec
  have hb := B.bytes
  have hr := B.returns
  have hts := atoms_spec (ws := wsX11_manyIn) B.pre
  have hown : s.vm.findClass RX11 = some m.cls := findClass_of_methodNamed B.named
  have hlocks := B.notSynchronized
  have hsz : s.heap.size = sz := hsz
  subst hsz
  obtain ⟨A, hAe⟩ : ∃ A : Nat → Prop, A = fun q => s.heap.size ≤ q := ⟨_, rfl⟩
  rw [← hAe]
  have hA : ∀ q : Nat, s.heap.size ≤ q → A q := fun q h => by rw [hAe]; exact h
  have hS : va_S A s.heap s.heap [] := va_S.rf
  have hl := lv_entry ([.int p0]) (n := 3) (Nat.le_of_ble_eq_true rfl)
  rw [show entryFrame m args 3 = entryFrame m ([.int p0] : List Value).toArray 3 from by rw [hargs], lg_entry_eq]
  generalize (lg_sl ([.int p0]) ++ List.replicate (3 - (lg_sl ([.int p0])).length) Slot.unset).toArray = ls at hl ⊢
  have hl : lv_has ls 3 [(0, .int p0)] := hl
  unfold f_X11_manyIn at hf
  refine lv_iconst (v := 0) hx hb dX11_manyIn_0 (by decide) ?_
  refine lv_istore_n (lv' := [(1, .int 0), (0, .int p0)]) hx hb dX11_manyIn_1 rfl hl (by decide) rfl (fun ls hl => ?_)
  refine lv_iconst (v := 0) hx hb dX11_manyIn_2 (by decide) ?_
  refine lv_istore_n (lv' := [(2, .int 0), (1, .int 0), (0, .int p0)]) hx hb dX11_manyIn_3 rfl hl (by decide) rfl (fun ls hl => ?_)
  have K4 : ∀ (y1 : Int32) (H : Heap) (locs : List Loc) (ls : Array Slot), k_X11_manyIn_4 y1 = some r → va_S A s.heap H locs → lv_has ls 3 [(1, .int y1)] → W p l e RRX11_manyIn s m args below meth c H locs 0 0 (MQ below (qcEi A r) args s 0 0 A) (F0 m 24 ls []) := by
    intro y1 H locs ls hf hS hl
    unfold k_X11_manyIn_4 at hf
    refine lv_iload_n hx hb dX11_manyIn_24 rfl (lv_at hl 0 rfl) ?_
    exact rtEi hx hb hr hlocks hS hf dX11_manyIn_25
  obtain ⟨z4, ez4, hz4⟩ := bd hf
  have L4 : ∀ (n : Nat) (y2 : Int32) (y3 : Int32) (H : Heap) (locs : List Loc) (ls : Array Slot), lp (fun s => b_X11_manyIn_4 p0 s.1 s.2) n (y2, y3) = some z4 → va_S A s.heap H locs → lv_has ls 3 [(0, .int p0), (1, .int y2), (2, .int y3)] → W p l e RRX11_manyIn s m args below meth c H locs 0 0 (MQ below (qcEi A r) args s 0 0 A) (F0 m 4 ls []) := by
    intro n
    induction n with
    | zero => intro y2 y3 H locs ls hf; exact lp_z hf
    | succ n ih4 =>
      intro y2 y3 H locs ls hf hS hl
      obtain ⟨q4, hf, hq4⟩ := lp_i hf
      have hf : b_X11_manyIn_4 p0 y2 y3 = some q4 := hf
      unfold b_X11_manyIn_4 at hf
      refine lv_iload_n hx hb dX11_manyIn_4 rfl (lv_at hl 2 rfl) ?_
      refine lv_bipush (v := 6) hx hb dX11_manyIn_5 (by decide) ?_
      refine lv_icmp_ge (tgt := 24) hx hb dX11_manyIn_7 (by decide) (fun c6 => ?_) (fun c6 => ?_)
      · have hf := (if_pos c6).symm.trans hf
        exact K4 y2 _ _ _ (lp_x (k := (fun s => k_X11_manyIn_4 s)) (lp_r hf hq4) hz4) hS (lv_sub hl [1] rfl)
      · have hf := (if_neg c6).symm.trans hf
        refine lv_iload_n hx hb dX11_manyIn_10 rfl (lv_at hl 1 rfl) ?_
        refine lv_iload_n hx hb dX11_manyIn_11 rfl (lv_at hl 0 rfl) ?_
        refine lv_iload_n hx hb dX11_manyIn_12 rfl (lv_at hl 2 rfl) ?_
        refine lv_ishr hx hb dX11_manyIn_13 ?_
        refine lv_iconst (v := 1) hx hb dX11_manyIn_14 (by decide) ?_
        refine lv_iand hx hb dX11_manyIn_15 ?_
        refine lv_iadd hx hb dX11_manyIn_16 ?_
        refine lv_topi (fun x4 ex4 => ?_)
        have hf := bs ex4 hf
        refine lv_istore_n (lv' := [(1, .int x4), (0, .int p0), (2, .int y3)]) hx hb dX11_manyIn_17 rfl hl (by decide) rfl (fun ls hl => ?_)
        obtain ⟨x5, ex5, hf⟩ := bn hf
        refine lv_iinc (v := x5) (lv' := [(2, .int x5), (1, .int x4), (0, .int p0)]) hx hb dX11_manyIn_18 hl (k := 2) rfl (by rw [ex5]; rfl) (by decide) rfl (fun ls hl => ?_)
        refine lv_goto (tgt := 4) hx hb dX11_manyIn_21 (by decide) ?_
        exact ih4 x4 x5 _ _ _ (lp_l hf hq4) hS (lv_sub hl [2, 1, 0] rfl)
  exact L4 FU 0 0 _ _ _ ez4 hS (lv_sub hl [2, 1, 0] rfl)

def k_X11_firstIn_2 (y1 : Int32) : Option Int32 :=
  some y1
def b_X11_firstIn_2 (p0 : Int32) (y2 : Int32) : Option (Int32 ⊕ Int32) :=
  (if ((p0 >>> (y2 &&& 31)) &&& 1) = 0 then (Option.bind (some (y2 + 1)) (fun x3 => some (Sum.inl x3))) else (some (Sum.inr y2)))
def f_X11_firstIn (p0 : Int32) : Option Int32 :=
  Option.bind (lp (fun s => b_X11_firstIn_2 p0 s) FU 0) (fun s => k_X11_firstIn_2 s)
def rmX11_firstIn : Room := { frames := 0, cells := 0, slots := 0, locals := 0 }
abbrev RRX11_firstIn : Room := (headSpec wsX11_firstIn rmX11_firstIn).room
set_option maxHeartbeats 4000000 in
set_option maxRecDepth 100000 in
theorem c_X11_firstIn (l : Launch) (sz : Nat) (p0 : Int32) (r : Int32) (hf : f_X11_firstIn p0 = some r) : cEi l yX11_firstIn wsX11_firstIn rmX11_firstIn sz [.int p0] r := by
  refine Met.ofW (cc := cX11_firstIn) (maxL := 2) (ret := (some .int)) (by decide) rfl ?_
  intro p e s m args below meth c s₁ B hml hv
  obtain ⟨hargs, hsz⟩ := hv
  have hx := B.exec
  have hb := B.bytes
  have hr := B.returns
  have hts := atoms_spec (ws := wsX11_firstIn) B.pre
  have hown : s.vm.findClass RX11 = some m.cls := findClass_of_methodNamed B.named
  have hlocks := B.notSynchronized
  have hsz : s.heap.size = sz := hsz
  subst hsz
  obtain ⟨A, hAe⟩ : ∃ A : Nat → Prop, A = fun q => s.heap.size ≤ q := ⟨_, rfl⟩
  rw [← hAe]
  have hA : ∀ q : Nat, s.heap.size ≤ q → A q := fun q h => by rw [hAe]; exact h
  have hS : va_S A s.heap s.heap [] := va_S.rf
  have hl := lv_entry ([.int p0]) (n := 2) (Nat.le_of_ble_eq_true rfl)
  rw [show entryFrame m args 2 = entryFrame m ([.int p0] : List Value).toArray 2 from by rw [hargs], lg_entry_eq]
  generalize (lg_sl ([.int p0]) ++ List.replicate (2 - (lg_sl ([.int p0])).length) Slot.unset).toArray = ls at hl ⊢
  have hl : lv_has ls 2 [(0, .int p0)] := hl
  unfold f_X11_firstIn at hf
  refine lv_iconst (v := 0) hx hb dX11_firstIn_0 (by decide) ?_
  refine lv_istore_n (lv' := [(1, .int 0), (0, .int p0)]) hx hb dX11_firstIn_1 rfl hl (by decide) rfl (fun ls hl => ?_)
  have K2 : ∀ (y1 : Int32) (H : Heap) (locs : List Loc) (ls : Array Slot), k_X11_firstIn_2 y1 = some r → va_S A s.heap H locs → lv_has ls 2 [(1, .int y1)] → W p l e RRX11_firstIn s m args below meth c H locs 0 0 (MQ below (qcEi A r) args s 0 0 A) (F0 m 16 ls []) := by
    intro y1 H locs ls hf hS hl
    unfold k_X11_firstIn_2 at hf
    refine lv_iload_n hx hb dX11_firstIn_16 rfl (lv_at hl 0 rfl) ?_
    exact rtEi hx hb hr hlocks hS hf dX11_firstIn_17
  obtain ⟨z2, ez2, hz2⟩ := bd hf
  have L2 : ∀ (n : Nat) (y2 : Int32) (H : Heap) (locs : List Loc) (ls : Array Slot), lp (fun s => b_X11_firstIn_2 p0 s) n y2 = some z2 → va_S A s.heap H locs → lv_has ls 2 [(0, .int p0), (1, .int y2)] → W p l e RRX11_firstIn s m args below meth c H locs 0 0 (MQ below (qcEi A r) args s 0 0 A) (F0 m 2 ls []) := by
    intro n
    induction n with
    | zero => intro y2 H locs ls hf; exact lp_z hf
    | succ n ih2 =>
      intro y2 H locs ls hf hS hl
      obtain ⟨q2, hf, hq2⟩ := lp_i hf
      have hf : b_X11_firstIn_2 p0 y2 = some q2 := hf
      unfold b_X11_firstIn_2 at hf
      refine lv_iload_n hx hb dX11_firstIn_2 rfl (lv_at hl 0 rfl) ?_
      refine lv_iload_n hx hb dX11_firstIn_3 rfl (lv_at hl 1 rfl) ?_
      refine lv_ishr hx hb dX11_firstIn_4 ?_
      refine lv_iconst (v := 1) hx hb dX11_firstIn_5 (by decide) ?_
      refine lv_iand hx hb dX11_firstIn_6 ?_
      refine lv_if_ne (tgt := 16) hx hb dX11_firstIn_7 (by decide) (fun c4 => ?_) (fun c4 => ?_)
      · have hf := (if_neg c4).symm.trans hf
        exact K2 y2 _ _ _ (lp_x (k := (fun s => k_X11_firstIn_2 s)) (lp_r hf hq2) hz2) hS (lv_sub hl [1] rfl)
      · have hf := (if_pos c4).symm.trans hf
        obtain ⟨x3, ex3, hf⟩ := bn hf
        refine lv_iinc (v := x3) (lv' := [(1, .int x3), (0, .int p0)]) hx hb dX11_firstIn_10 hl (k := 1) rfl (by rw [ex3]; rfl) (by decide) rfl (fun ls hl => ?_)
        refine lv_goto (tgt := 2) hx hb dX11_firstIn_13 (by decide) ?_
        exact ih2 x3 _ _ _ (lp_l hf hq2) hS (lv_sub hl [1, 0] rfl)
  exact L2 FU 0 _ _ _ ez2 hS (lv_sub hl [1, 0] rfl)

def j_X11_isNever_28 (p2 : Int32) (r1 : Int32) : Option Int32 :=
  (if r1 = 4 then ((if p2 = 0 then (some 0) else (some 1))) else (some 0))
def f_X11_isNever (M : MS) (p0 : Int32) (p1 : Int32) (p2 : Int32) : Option Int32 :=
  Option.bind (f_X11_told M p0 3) (fun r1 => (if r1 = 3 then ((if p0 = 0 then (some 1) else ((if ((p1 >>> ((p0 - 1) &&& 31)) &&& 1) = 0 then (some 1) else (j_X11_isNever_28 p2 r1))))) else (j_X11_isNever_28 p2 r1)))
def rmX11_isNever : Room := { frames := 1, cells := 0, slots := 0, locals := 22 }
abbrev RRX11_isNever : Room := (headSpec wsX11_isNever rmX11_isNever).room
theorem inX11_isNever : ∀ w ∈ wsX110, w ∈ wsX11_isNever := by decide +kernel
set_option maxHeartbeats 4000000 in
set_option maxRecDepth 100000 in
theorem c_X11_isNever (l : Launch) (dC : Nat → ClassId) (dI : Nat → Nat → Nat) (tI tZ : ClassId) (h : Nat → Nat) (sz : Nat) (M : MS) (p0 : Int32) (p1 : Int32) (p2 : Int32) (r : Int32) (hf : f_X11_isNever M p0 p1 p2 = some r) : cMi l yX11_isNever wsX11_isNever rmX11_isNever dC dI tI tZ h sz [.ref (h 0), .int p0, .int p1, .int p2] M r M := by
  refine Met.ofW (cc := cX11_isNever) (maxL := 5) (ret := (some .boolean)) (by decide) rfl ?_
  intro p e s m args below meth c s₁ B hml hv
  obtain ⟨hargs, hsz, hP, hK, hD0⟩ := hv
  have hx := B.exec
  have hb := B.bytes
  have hr := B.returns
  have hts := atoms_spec (ws := wsX11_isNever) B.pre
  have hown : s.vm.findClass RX11 = some m.cls := findClass_of_methodNamed B.named
  have hlocks := B.notSynchronized
  have hin := inX11_isNever
  have hsz : s.heap.size = sz := hsz
  subst hsz
  have hD := hD0.self (sz := s.heap.size)
  generalize hAe : va_A (wM tI tZ h M) s.heap.size = A at hD ⊢
  have hA : ∀ q : Nat, s.heap.size ≤ q → A q := fun q h => by rw [← hAe]; exact Or.inr h
  have hS : va_S A s.heap s.heap [] := va_S.rf
  have hl := lv_entry ([.ref (h 0), .int p0, .int p1, .int p2]) (n := 5) (Nat.le_of_ble_eq_true rfl)
  rw [show entryFrame m args 5 = entryFrame m ([.ref (h 0), .int p0, .int p1, .int p2] : List Value).toArray 5 from by rw [hargs], lg_entry_eq]
  generalize (lg_sl ([.ref (h 0), .int p0, .int p1, .int p2]) ++ List.replicate (5 - (lg_sl ([.ref (h 0), .int p0, .int p1, .int p2])).length) Slot.unset).toArray = ls at hl ⊢
  have hl : lv_has ls 5 [(0, .ref (h 0)), (1, .int p0), (2, .int p1), (3, .int p2)] := hl
  unfold f_X11_isNever at hf
  refine lv_aload_n hx hb dX11_isNever_0 rfl (lv_at hl 0 rfl) ?_
  refine lv_iload_n hx hb dX11_isNever_1 rfl (lv_at hl 1 rfl) ?_
  refine lv_iconst (v := 3) hx hb dX11_isNever_2 (by decide) ?_
  obtain ⟨r1, er1, hf⟩ := bd hf
  refine klMi (rest := []) (As := [.int p0, .int 3]) ⟨hx, hb, hml, hown, hts⟩ (c_X11_told l dC dI tI tZ h s.heap.size M p0 3 r1 er1) (cwV 2 hts gX11_isNever_X11_told rfl rfl rfl (by decide +kernel) ⟨Nat.le_of_ble_eq_true rfl, Nat.le_of_ble_eq_true rfl⟩) rfl hl.1 rfl (Nat.le_of_ble_eq_true rfl) dX11_isNever_3 ⟨Nat.zero_le _, Nat.zero_le _⟩ hK hP hD hS hA (fun H locs hP hD hS => ?_)
  refine lv_istore (lv' := [(4, .int r1), (0, .ref (h 0)), (1, .int p0), (2, .int p1), (3, .int p2)]) hx hb dX11_isNever_6 hl (by decide) rfl (fun ls hl => ?_)
  refine lv_iload hx hb dX11_isNever_8 (lv_at hl 0 rfl) ?_
  refine lv_iconst (v := 3) hx hb dX11_isNever_10 (by decide) ?_
  have J28 : ∀  (H : Heap) (locs : List Loc) (ls : Array Slot), j_X11_isNever_28 p2 r1 = some r → va_P (dC, dI) vwCl (wM tI tZ h M) H → va_D A (wM tI tZ h M) → va_S A s.heap H locs → lv_has ls 5 [(3, .int p2), (4, .int r1)] → W p l e RRX11_isNever s m args below meth c H locs 0 0 (MQ below (qcMi dC dI tI tZ A h r M) args s 0 0 A) (F0 m 28 ls []) := by
    intro  H locs ls hf hP hD hS hl
    unfold j_X11_isNever_28 at hf
    refine lv_iload hx hb dX11_isNever_28 (lv_at hl 1 rfl) ?_
    refine lv_iconst (v := 4) hx hb dX11_isNever_30 (by decide) ?_
    refine lv_icmp_ne (tgt := 42) hx hb dX11_isNever_31 (by decide) (fun c3 => ?_) (fun c3 => ?_)
    · have hf := (if_neg c3).symm.trans hf
      refine lv_iconst (v := 0) hx hb dX11_isNever_42 (by decide) ?_
      exact rtMz hx hb hr hlocks hK hP hD hS rfl (congrArg (fun z => some (z, M)) (Option.some.inj hf)) dX11_isNever_43
    · have hf := (if_pos c3).symm.trans hf
      refine lv_iload_n hx hb dX11_isNever_34 rfl (lv_at hl 0 rfl) ?_
      refine lv_if_eq (tgt := 42) hx hb dX11_isNever_35 (by decide) (fun c2 => ?_) (fun c2 => ?_)
      · have hf := (if_pos c2).symm.trans hf
        refine lv_iconst (v := 0) hx hb dX11_isNever_42 (by decide) ?_
        exact rtMz hx hb hr hlocks hK hP hD hS rfl (congrArg (fun z => some (z, M)) (Option.some.inj hf)) dX11_isNever_43
      · have hf := (if_neg c2).symm.trans hf
        refine lv_iconst (v := 1) hx hb dX11_isNever_38 (by decide) ?_
        refine lv_goto (tgt := 43) hx hb dX11_isNever_39 (by decide) ?_
        exact rtMz hx hb hr hlocks hK hP hD hS rfl (congrArg (fun z => some (z, M)) (Option.some.inj hf)) dX11_isNever_43
  refine lv_icmp_ne (tgt := 28) hx hb dX11_isNever_11 (by decide) (fun c6 => ?_) (fun c6 => ?_)
  · have hf := (if_neg c6).symm.trans hf
    exact J28  _ _ _ hf hP hD hS (lv_sub hl [4, 0] rfl)
  · have hf := (if_pos c6).symm.trans hf
    refine lv_iload_n hx hb dX11_isNever_14 rfl (lv_at hl 2 rfl) ?_
    refine lv_if_eq (tgt := 38) hx hb dX11_isNever_15 (by decide) (fun c5 => ?_) (fun c5 => ?_)
    · have hf := (if_pos c5).symm.trans hf
      refine lv_iconst (v := 1) hx hb dX11_isNever_38 (by decide) ?_
      refine lv_goto (tgt := 43) hx hb dX11_isNever_39 (by decide) ?_
      exact rtMz hx hb hr hlocks hK hP hD hS rfl (congrArg (fun z => some (z, M)) (Option.some.inj hf)) dX11_isNever_43
    · have hf := (if_neg c5).symm.trans hf
      refine lv_iload_n hx hb dX11_isNever_18 rfl (lv_at hl 3 rfl) ?_
      refine lv_iload_n hx hb dX11_isNever_19 rfl (lv_at hl 2 rfl) ?_
      refine lv_iconst (v := 1) hx hb dX11_isNever_20 (by decide) ?_
      refine lv_isub hx hb dX11_isNever_21 ?_
      refine lv_ishr hx hb dX11_isNever_22 ?_
      refine lv_iconst (v := 1) hx hb dX11_isNever_23 (by decide) ?_
      refine lv_iand hx hb dX11_isNever_24 ?_
      refine lv_if_eq (tgt := 38) hx hb dX11_isNever_25 (by decide) (fun c4 => ?_) (fun c4 => ?_)
      · have hf := (if_pos c4).symm.trans hf
        refine lv_iconst (v := 1) hx hb dX11_isNever_38 (by decide) ?_
        refine lv_goto (tgt := 43) hx hb dX11_isNever_39 (by decide) ?_
        exact rtMz hx hb hr hlocks hK hP hD hS rfl (congrArg (fun z => some (z, M)) (Option.some.inj hf)) dX11_isNever_43
      · have hf := (if_neg c4).symm.trans hf
        exact J28  _ _ _ hf hP hD hS (lv_sub hl [4, 0] rfl)

def k_X11_anyNever_5 (y1 : Int32) : Option Int32 :=
  Option.bind (zr y1) (fun z2 => some z2)
def b_X11_anyNever_5 (M : MS) (p0 : Int32) (p1 : Int32) (y3 : Int32) (y4 : Int32) : Option ((Int32 × Int32) ⊕ Int32) :=
  Option.bind (f_X11_porters M) (fun r5 => (if r5 ≤ y4 then (some (Sum.inr y3)) else ((if y3 = 0 then ((if ((p0 >>> (y4 &&& 31)) &&& 1) = 1 then (Option.bind (f_X11_isNever M y4 p0 p1) (fun r8 => (if r8 = 0 then (Option.bind (some (y4 + 1)) (fun x9 => some (Sum.inl (0, x9)))) else (Option.bind (some (y4 + 1)) (fun x10 => some (Sum.inl (1, x10))))))) else (Option.bind (some (y4 + 1)) (fun x7 => some (Sum.inl (0, x7)))))) else (Option.bind (some (y4 + 1)) (fun x6 => some (Sum.inl (1, x6))))))))
def f_X11_anyNever (M : MS) (p0 : Int32) (p1 : Int32) : Option Int32 :=
  Option.bind (lp (fun s => b_X11_anyNever_5 M p0 p1 s.1 s.2) FU (0, 0)) (fun s => k_X11_anyNever_5 s)
def rmX11_anyNever : Room := { frames := 2, cells := 0, slots := 0, locals := 46 }
abbrev RRX11_anyNever : Room := (headSpec wsX11_anyNever rmX11_anyNever).room
theorem inX11_anyNever : ∀ w ∈ wsX110, w ∈ wsX11_anyNever := by decide +kernel
set_option maxHeartbeats 4000000 in
set_option maxRecDepth 100000 in
theorem c_X11_anyNever (l : Launch) (dC : Nat → ClassId) (dI : Nat → Nat → Nat) (tI tZ : ClassId) (h : Nat → Nat) (sz : Nat) (M : MS) (p0 : Int32) (p1 : Int32) (r : Int32) (hf : f_X11_anyNever M p0 p1 = some r) : cMi l yX11_anyNever wsX11_anyNever rmX11_anyNever dC dI tI tZ h sz [.ref (h 0), .int p0, .int p1] M r M := by
  refine Met.ofW (cc := cX11_anyNever) (maxL := 5) (ret := (some .boolean)) (by decide) rfl ?_
  intro p e s m args below meth c s₁ B hml hv
  obtain ⟨hargs, hsz, hP, hK, hD0⟩ := hv
  have hx := B.exec
  have hb := B.bytes
  have hr := B.returns
  have hts := atoms_spec (ws := wsX11_anyNever) B.pre
  have hown : s.vm.findClass RX11 = some m.cls := findClass_of_methodNamed B.named
  have hlocks := B.notSynchronized
  have hin := inX11_anyNever
  have hsz : s.heap.size = sz := hsz
  subst hsz
  have hD := hD0.self (sz := s.heap.size)
  generalize hAe : va_A (wM tI tZ h M) s.heap.size = A at hD ⊢
  have hA : ∀ q : Nat, s.heap.size ≤ q → A q := fun q h => by rw [← hAe]; exact Or.inr h
  have hS : va_S A s.heap s.heap [] := va_S.rf
  have hl := lv_entry ([.ref (h 0), .int p0, .int p1]) (n := 5) (Nat.le_of_ble_eq_true rfl)
  rw [show entryFrame m args 5 = entryFrame m ([.ref (h 0), .int p0, .int p1] : List Value).toArray 5 from by rw [hargs], lg_entry_eq]
  generalize (lg_sl ([.ref (h 0), .int p0, .int p1]) ++ List.replicate (5 - (lg_sl ([.ref (h 0), .int p0, .int p1])).length) Slot.unset).toArray = ls at hl ⊢
  have hl : lv_has ls 5 [(0, .ref (h 0)), (1, .int p0), (2, .int p1)] := hl
  unfold f_X11_anyNever at hf
  refine lv_iconst (v := 0) hx hb dX11_anyNever_0 (by decide) ?_
  refine lv_istore_n (lv' := [(3, .int 0), (0, .ref (h 0)), (1, .int p0), (2, .int p1)]) hx hb dX11_anyNever_1 rfl hl (by decide) rfl (fun ls hl => ?_)
  refine lv_iconst (v := 0) hx hb dX11_anyNever_2 (by decide) ?_
  refine lv_istore (lv' := [(4, .int 0), (3, .int 0), (0, .ref (h 0)), (1, .int p0), (2, .int p1)]) hx hb dX11_anyNever_3 hl (by decide) rfl (fun ls hl => ?_)
  have K5 : ∀ (y1 : Int32) (H : Heap) (locs : List Loc) (ls : Array Slot), k_X11_anyNever_5 y1 = some r → va_P (dC, dI) vwCl (wM tI tZ h M) H → va_D A (wM tI tZ h M) → va_S A s.heap H locs → lv_has ls 5 [(3, .int y1)] → W p l e RRX11_anyNever s m args below meth c H locs 0 0 (MQ below (qcMi dC dI tI tZ A h r M) args s 0 0 A) (F0 m 51 ls []) := by
    intro y1 H locs ls hf hP hD hS hl
    unfold k_X11_anyNever_5 at hf
    refine lv_iload_n hx hb dX11_anyNever_51 rfl (lv_at hl 0 rfl) ?_
    obtain ⟨hnz2, hf⟩ := zr_b hf
    exact rtMz hx hb hr hlocks hK hP hD hS hnz2 (congrArg (fun z => some (z, M)) (Option.some.inj hf)) dX11_anyNever_52
  obtain ⟨z5, ez5, hz5⟩ := bd hf
  have L5 : ∀ (n : Nat) (y3 : Int32) (y4 : Int32) (H : Heap) (locs : List Loc) (ls : Array Slot), lp (fun s => b_X11_anyNever_5 M p0 p1 s.1 s.2) n (y3, y4) = some z5 → va_P (dC, dI) vwCl (wM tI tZ h M) H → va_D A (wM tI tZ h M) → va_S A s.heap H locs → lv_has ls 5 [(0, .ref (h 0)), (1, .int p0), (2, .int p1), (3, .int y3), (4, .int y4)] → W p l e RRX11_anyNever s m args below meth c H locs 0 0 (MQ below (qcMi dC dI tI tZ A h r M) args s 0 0 A) (F0 m 5 ls []) := by
    intro n
    induction n with
    | zero => intro y3 y4 H locs ls hf; exact lp_z hf
    | succ n ih5 =>
      intro y3 y4 H locs ls hf hP hD hS hl
      obtain ⟨q5, hf, hq5⟩ := lp_i hf
      have hf : b_X11_anyNever_5 M p0 p1 y3 y4 = some q5 := hf
      unfold b_X11_anyNever_5 at hf
      refine lv_iload hx hb dX11_anyNever_5 (lv_at hl 4 rfl) ?_
      refine lv_aload_n hx hb dX11_anyNever_7 rfl (lv_at hl 0 rfl) ?_
      obtain ⟨r5, er5, hf⟩ := bd hf
      refine klMi (rest := [.int y4]) (As := []) ⟨hx, hb, hml, hown, hts⟩ (c_X11_porters l dC dI tI tZ h H.size M r5 er5) (cwV 0 hts gX11_anyNever_X11_porters rfl rfl rfl (by decide +kernel) ⟨Nat.le_of_ble_eq_true rfl, Nat.le_of_ble_eq_true rfl⟩) rfl hl.1 rfl (Nat.le_of_ble_eq_true rfl) dX11_anyNever_8 ⟨Nat.zero_le _, Nat.zero_le _⟩ hK hP hD hS hA (fun H locs hP hD hS => ?_)
      refine lv_icmp_ge (tgt := 51) hx hb dX11_anyNever_11 (by decide) (fun c14 => ?_) (fun c14 => ?_)
      · have hf := (if_pos c14).symm.trans hf
        exact K5 y3 _ _ _ (lp_x (k := (fun s => k_X11_anyNever_5 s)) (lp_r hf hq5) hz5) hP hD hS (lv_sub hl [3] rfl)
      · have hf := (if_neg c14).symm.trans hf
        refine lv_iload_n hx hb dX11_anyNever_14 rfl (lv_at hl 3 rfl) ?_
        refine lv_if_ne (tgt := 39) hx hb dX11_anyNever_15 (by decide) (fun c13 => ?_) (fun c13 => ?_)
        · have hf := (if_neg c13).symm.trans hf
          refine lv_iconst (v := 1) hx hb dX11_anyNever_39 (by decide) ?_
          refine lv_goto (tgt := 44) hx hb dX11_anyNever_40 (by decide) ?_
          refine lv_istore_n (lv' := [(3, .int 1), (0, .ref (h 0)), (1, .int p0), (2, .int p1), (4, .int y4)]) hx hb dX11_anyNever_44 rfl hl (by decide) rfl (fun ls hl => ?_)
          obtain ⟨x6, ex6, hf⟩ := bn hf
          refine lv_iinc (v := x6) (lv' := [(4, .int x6), (3, .int 1), (0, .ref (h 0)), (1, .int p0), (2, .int p1)]) hx hb dX11_anyNever_45 hl (k := 4) rfl (by rw [ex6]; rfl) (by decide) rfl (fun ls hl => ?_)
          refine lv_goto (tgt := 5) hx hb dX11_anyNever_48 (by decide) ?_
          exact ih5 1 x6 _ _ _ (lp_l hf hq5) hP hD hS (lv_sub hl [2, 3, 4, 1, 0] rfl)
        · have hf := (if_pos c13).symm.trans hf
          refine lv_iload_n hx hb dX11_anyNever_18 rfl (lv_at hl 1 rfl) ?_
          refine lv_iload hx hb dX11_anyNever_19 (lv_at hl 4 rfl) ?_
          refine lv_ishr hx hb dX11_anyNever_21 ?_
          refine lv_iconst (v := 1) hx hb dX11_anyNever_22 (by decide) ?_
          refine lv_iand hx hb dX11_anyNever_23 ?_
          refine lv_iconst (v := 1) hx hb dX11_anyNever_24 (by decide) ?_
          refine lv_icmp_ne (tgt := 43) hx hb dX11_anyNever_25 (by decide) (fun c12 => ?_) (fun c12 => ?_)
          · have hf := (if_neg c12).symm.trans hf
            refine lv_iconst (v := 0) hx hb dX11_anyNever_43 (by decide) ?_
            refine lv_istore_n (lv' := [(3, .int 0), (0, .ref (h 0)), (1, .int p0), (2, .int p1), (4, .int y4)]) hx hb dX11_anyNever_44 rfl hl (by decide) rfl (fun ls hl => ?_)
            obtain ⟨x7, ex7, hf⟩ := bn hf
            refine lv_iinc (v := x7) (lv' := [(4, .int x7), (3, .int 0), (0, .ref (h 0)), (1, .int p0), (2, .int p1)]) hx hb dX11_anyNever_45 hl (k := 4) rfl (by rw [ex7]; rfl) (by decide) rfl (fun ls hl => ?_)
            refine lv_goto (tgt := 5) hx hb dX11_anyNever_48 (by decide) ?_
            exact ih5 0 x7 _ _ _ (lp_l hf hq5) hP hD hS (lv_sub hl [2, 3, 4, 1, 0] rfl)
          · have hf := (if_pos c12).symm.trans hf
            refine lv_aload_n hx hb dX11_anyNever_28 rfl (lv_at hl 0 rfl) ?_
            refine lv_iload hx hb dX11_anyNever_29 (lv_at hl 4 rfl) ?_
            refine lv_iload_n hx hb dX11_anyNever_31 rfl (lv_at hl 1 rfl) ?_
            refine lv_iload_n hx hb dX11_anyNever_32 rfl (lv_at hl 2 rfl) ?_
            obtain ⟨r8, er8, hf⟩ := bd hf
            refine klMi (rest := []) (As := [.int y4, .int p0, .int p1]) ⟨hx, hb, hml, hown, hts⟩ (c_X11_isNever l dC dI tI tZ h H.size M y4 p0 p1 r8 er8) (cwV 3 hts gX11_anyNever_X11_isNever rfl rfl rfl (by decide +kernel) ⟨Nat.le_of_ble_eq_true rfl, Nat.le_of_ble_eq_true rfl⟩) rfl hl.1 rfl (Nat.le_of_ble_eq_true rfl) dX11_anyNever_33 ⟨Nat.zero_le _, Nat.zero_le _⟩ hK hP hD hS hA (fun H locs hP hD hS => ?_)
            refine lv_if_eq (tgt := 43) hx hb dX11_anyNever_36 (by decide) (fun c11 => ?_) (fun c11 => ?_)
            · have hf := (if_pos c11).symm.trans hf
              refine lv_iconst (v := 0) hx hb dX11_anyNever_43 (by decide) ?_
              refine lv_istore_n (lv' := [(3, .int 0), (0, .ref (h 0)), (1, .int p0), (2, .int p1), (4, .int y4)]) hx hb dX11_anyNever_44 rfl hl (by decide) rfl (fun ls hl => ?_)
              obtain ⟨x9, ex9, hf⟩ := bn hf
              refine lv_iinc (v := x9) (lv' := [(4, .int x9), (3, .int 0), (0, .ref (h 0)), (1, .int p0), (2, .int p1)]) hx hb dX11_anyNever_45 hl (k := 4) rfl (by rw [ex9]; rfl) (by decide) rfl (fun ls hl => ?_)
              refine lv_goto (tgt := 5) hx hb dX11_anyNever_48 (by decide) ?_
              exact ih5 0 x9 _ _ _ (lp_l hf hq5) hP hD hS (lv_sub hl [2, 3, 4, 1, 0] rfl)
            · have hf := (if_neg c11).symm.trans hf
              refine lv_iconst (v := 1) hx hb dX11_anyNever_39 (by decide) ?_
              refine lv_goto (tgt := 44) hx hb dX11_anyNever_40 (by decide) ?_
              refine lv_istore_n (lv' := [(3, .int 1), (0, .ref (h 0)), (1, .int p0), (2, .int p1), (4, .int y4)]) hx hb dX11_anyNever_44 rfl hl (by decide) rfl (fun ls hl => ?_)
              obtain ⟨x10, ex10, hf⟩ := bn hf
              refine lv_iinc (v := x10) (lv' := [(4, .int x10), (3, .int 1), (0, .ref (h 0)), (1, .int p0), (2, .int p1)]) hx hb dX11_anyNever_45 hl (k := 4) rfl (by rw [ex10]; rfl) (by decide) rfl (fun ls hl => ?_)
              refine lv_goto (tgt := 5) hx hb dX11_anyNever_48 (by decide) ?_
              exact ih5 1 x10 _ _ _ (lp_l hf hq5) hP hD hS (lv_sub hl [2, 3, 4, 1, 0] rfl)
  exact L5 FU 0 0 _ _ _ ez5 hP hD hS (lv_sub hl [2, 3, 4, 1, 0] rfl)

def f_X11_areUnlike (M : MS) (p0 : Int32) (p1 : Int32) (p2 : Int32) : Option Int32 :=
  Option.bind (f_X11_weightOf M p0 p2) (fun r1 => Option.bind (rdI 6 (M 4) p0) (fun x2 => Option.bind (f_X11_weightOf M p1 p2) (fun r3 => Option.bind (rdI 6 (M 4) p1) (fun x4 => Option.bind (some (((r1 + x2) - r3) - x4)) (fun x5 => Option.bind (f_X11_told M p0 3) (fun r6 => (if r6 = 5 then (some 1) else (Option.bind (f_X11_told M p1 3) (fun r7 => (if r7 = 5 then (some 1) else ((if 0 ≤ x5 then (Option.bind (f_X11_number M 0) (fun r8 => (if x5 < r8 then (some 0) else (some 1)))) else (Option.bind (f_X11_number M 0) (fun r10 => (if (-x5) < r10 then (some 0) else (some 1))))))))))))))))
def rmX11_areUnlike : Room := { frames := 2, cells := 0, slots := 0, locals := 46 }
abbrev RRX11_areUnlike : Room := (headSpec wsX11_areUnlike rmX11_areUnlike).room
theorem inX11_areUnlike : ∀ w ∈ wsX110, w ∈ wsX11_areUnlike := by decide +kernel
set_option maxHeartbeats 4000000 in
set_option maxRecDepth 100000 in
theorem c_X11_areUnlike (l : Launch) (dC : Nat → ClassId) (dI : Nat → Nat → Nat) (tI tZ : ClassId) (h : Nat → Nat) (sz : Nat) (M : MS) (p0 : Int32) (p1 : Int32) (p2 : Int32) (r : Int32) (hf : f_X11_areUnlike M p0 p1 p2 = some r) : cMi l yX11_areUnlike wsX11_areUnlike rmX11_areUnlike dC dI tI tZ h sz [.ref (h 0), .int p0, .int p1, .int p2] M r M := by
  refine Met.ofW (cc := cX11_areUnlike) (maxL := 5) (ret := (some .boolean)) (by decide) rfl ?_
  intro p e s m args below meth c s₁ B hml hv
  obtain ⟨hargs, hsz, hP, hK, hD0⟩ := hv
  have hx := B.exec
  have hb := B.bytes
  have hr := B.returns
  have hts := atoms_spec (ws := wsX11_areUnlike) B.pre
  have hown : s.vm.findClass RX11 = some m.cls := findClass_of_methodNamed B.named
  have hlocks := B.notSynchronized
  have hin := inX11_areUnlike
  have hsz : s.heap.size = sz := hsz
  subst hsz
  have lk23 : Cond.fieldLink RX11 23 (TX11 4).1 (TX11 4).2.1 (TX11 4).2.2.1 ∈ wsX11_areUnlike := by decide +kernel
  have hD := hD0.self (sz := s.heap.size)
  generalize hAe : va_A (wM tI tZ h M) s.heap.size = A at hD ⊢
  have hA : ∀ q : Nat, s.heap.size ≤ q → A q := fun q h => by rw [← hAe]; exact Or.inr h
  have hS : va_S A s.heap s.heap [] := va_S.rf
  have hl := lv_entry ([.ref (h 0), .int p0, .int p1, .int p2]) (n := 5) (Nat.le_of_ble_eq_true rfl)
  rw [show entryFrame m args 5 = entryFrame m ([.ref (h 0), .int p0, .int p1, .int p2] : List Value).toArray 5 from by rw [hargs], lg_entry_eq]
  generalize (lg_sl ([.ref (h 0), .int p0, .int p1, .int p2]) ++ List.replicate (5 - (lg_sl ([.ref (h 0), .int p0, .int p1, .int p2])).length) Slot.unset).toArray = ls at hl ⊢
  have hl : lv_has ls 5 [(0, .ref (h 0)), (1, .int p0), (2, .int p1), (3, .int p2)] := hl
  unfold f_X11_areUnlike at hf
  refine lv_aload_n hx hb dX11_areUnlike_0 rfl (lv_at hl 0 rfl) ?_
  refine lv_iload_n hx hb dX11_areUnlike_1 rfl (lv_at hl 1 rfl) ?_
  refine lv_iload_n hx hb dX11_areUnlike_2 rfl (lv_at hl 3 rfl) ?_
  obtain ⟨r1, er1, hf⟩ := bd hf
  refine klMi (rest := []) (As := [.int p0, .int p2]) ⟨hx, hb, hml, hown, hts⟩ (c_X11_weightOf l dC dI tI tZ h s.heap.size M p0 p2 r1 er1) (cwV 2 hts gX11_areUnlike_X11_weightOf rfl rfl rfl (by decide +kernel) ⟨Nat.le_of_ble_eq_true rfl, Nat.le_of_ble_eq_true rfl⟩) rfl hl.1 rfl (Nat.le_of_ble_eq_true rfl) dX11_areUnlike_3 ⟨Nat.zero_le _, Nat.zero_le _⟩ hK hP hD hS hA (fun H locs hP hD hS => ?_)
  refine lv_aload_n hx hb dX11_areUnlike_6 rfl (lv_at hl 0 rfl) ?_
  refine geM hx hb hts hin hown hK hP 4 (by decide) lk23 rfl dX11_areUnlike_7 ?_
  refine lv_iload_n hx hb dX11_areUnlike_10 rfl (lv_at hl 1 rfl) ?_
  obtain ⟨x2, hix2, ex2, hf⟩ := rd_b hf
  refine va_iald hx hb hK hP 5 0 rfl rfl hix2 dX11_areUnlike_11 (kI ex2 ?_)
  refine lv_iadd hx hb dX11_areUnlike_12 ?_
  refine lv_aload_n hx hb dX11_areUnlike_13 rfl (lv_at hl 0 rfl) ?_
  refine lv_iload_n hx hb dX11_areUnlike_14 rfl (lv_at hl 2 rfl) ?_
  refine lv_iload_n hx hb dX11_areUnlike_15 rfl (lv_at hl 3 rfl) ?_
  obtain ⟨r3, er3, hf⟩ := bd hf
  refine klMi (rest := [.int (r1 + x2)]) (As := [.int p1, .int p2]) ⟨hx, hb, hml, hown, hts⟩ (c_X11_weightOf l dC dI tI tZ h H.size M p1 p2 r3 er3) (cwV 2 hts gX11_areUnlike_X11_weightOf rfl rfl rfl (by decide +kernel) ⟨Nat.le_of_ble_eq_true rfl, Nat.le_of_ble_eq_true rfl⟩) rfl hl.1 rfl (Nat.le_of_ble_eq_true rfl) dX11_areUnlike_16 ⟨Nat.zero_le _, Nat.zero_le _⟩ hK hP hD hS hA (fun H locs hP hD hS => ?_)
  refine lv_isub hx hb dX11_areUnlike_19 ?_
  refine lv_aload_n hx hb dX11_areUnlike_20 rfl (lv_at hl 0 rfl) ?_
  refine geM hx hb hts hin hown hK hP 4 (by decide) lk23 rfl dX11_areUnlike_21 ?_
  refine lv_iload_n hx hb dX11_areUnlike_24 rfl (lv_at hl 2 rfl) ?_
  obtain ⟨x4, hix4, ex4, hf⟩ := rd_b hf
  refine va_iald hx hb hK hP 5 0 rfl rfl hix4 dX11_areUnlike_25 (kI ex4 ?_)
  refine lv_isub hx hb dX11_areUnlike_26 ?_
  refine lv_topi (fun x5 ex5 => ?_)
  have hf := bs ex5 hf
  refine lv_istore (lv' := [(4, .int x5), (0, .ref (h 0)), (1, .int p0), (2, .int p1), (3, .int p2)]) hx hb dX11_areUnlike_27 hl (by decide) rfl (fun ls hl => ?_)
  refine lv_aload_n hx hb dX11_areUnlike_29 rfl (lv_at hl 1 rfl) ?_
  refine lv_iload_n hx hb dX11_areUnlike_30 rfl (lv_at hl 2 rfl) ?_
  refine lv_iconst (v := 3) hx hb dX11_areUnlike_31 (by decide) ?_
  obtain ⟨r6, er6, hf⟩ := bd hf
  refine klMi (rest := []) (As := [.int p0, .int 3]) ⟨hx, hb, hml, hown, hts⟩ (c_X11_told l dC dI tI tZ h H.size M p0 3 r6 er6) (cwV 2 hts gX11_areUnlike_X11_told rfl rfl rfl (by decide +kernel) ⟨Nat.le_of_ble_eq_true rfl, Nat.le_of_ble_eq_true rfl⟩) rfl hl.1 rfl (Nat.le_of_ble_eq_true rfl) dX11_areUnlike_32 ⟨Nat.zero_le _, Nat.zero_le _⟩ hK hP hD hS hA (fun H locs hP hD hS => ?_)
  refine lv_iconst (v := 5) hx hb dX11_areUnlike_35 (by decide) ?_
  refine lv_icmp_eq (tgt := 70) hx hb dX11_areUnlike_36 (by decide) (fun c14 => ?_) (fun c14 => ?_)
  · have hf := (if_pos c14).symm.trans hf
    refine lv_iconst (v := 1) hx hb dX11_areUnlike_70 (by decide) ?_
    refine lv_goto (tgt := 75) hx hb dX11_areUnlike_71 (by decide) ?_
    exact rtMz hx hb hr hlocks hK hP hD hS rfl (congrArg (fun z => some (z, M)) (Option.some.inj hf)) dX11_areUnlike_75
  · have hf := (if_neg c14).symm.trans hf
    refine lv_aload_n hx hb dX11_areUnlike_39 rfl (lv_at hl 1 rfl) ?_
    refine lv_iload_n hx hb dX11_areUnlike_40 rfl (lv_at hl 3 rfl) ?_
    refine lv_iconst (v := 3) hx hb dX11_areUnlike_41 (by decide) ?_
    obtain ⟨r7, er7, hf⟩ := bd hf
    refine klMi (rest := []) (As := [.int p1, .int 3]) ⟨hx, hb, hml, hown, hts⟩ (c_X11_told l dC dI tI tZ h H.size M p1 3 r7 er7) (cwV 2 hts gX11_areUnlike_X11_told rfl rfl rfl (by decide +kernel) ⟨Nat.le_of_ble_eq_true rfl, Nat.le_of_ble_eq_true rfl⟩) rfl hl.1 rfl (Nat.le_of_ble_eq_true rfl) dX11_areUnlike_42 ⟨Nat.zero_le _, Nat.zero_le _⟩ hK hP hD hS hA (fun H locs hP hD hS => ?_)
    refine lv_iconst (v := 5) hx hb dX11_areUnlike_45 (by decide) ?_
    refine lv_icmp_eq (tgt := 70) hx hb dX11_areUnlike_46 (by decide) (fun c13 => ?_) (fun c13 => ?_)
    · have hf := (if_pos c13).symm.trans hf
      refine lv_iconst (v := 1) hx hb dX11_areUnlike_70 (by decide) ?_
      refine lv_goto (tgt := 75) hx hb dX11_areUnlike_71 (by decide) ?_
      exact rtMz hx hb hr hlocks hK hP hD hS rfl (congrArg (fun z => some (z, M)) (Option.some.inj hf)) dX11_areUnlike_75
    · have hf := (if_neg c13).symm.trans hf
      refine lv_iload hx hb dX11_areUnlike_49 (lv_at hl 0 rfl) ?_
      refine lv_if_ge (tgt := 60) hx hb dX11_areUnlike_51 (by decide) (fun c12 => ?_) (fun c12 => ?_)
      · have hf := (if_pos c12).symm.trans hf
        refine lv_iload hx hb dX11_areUnlike_60 (lv_at hl 0 rfl) ?_
        refine lv_aload_n hx hb dX11_areUnlike_62 rfl (lv_at hl 1 rfl) ?_
        refine lv_iconst (v := 0) hx hb dX11_areUnlike_63 (by decide) ?_
        obtain ⟨r8, er8, hf⟩ := bd hf
        refine klMi (rest := [.int x5]) (As := [.int 0]) ⟨hx, hb, hml, hown, hts⟩ (c_X11_number l dC dI tI tZ h H.size M 0 r8 er8) (cwV 1 hts gX11_areUnlike_X11_number rfl rfl rfl (by decide +kernel) ⟨Nat.le_of_ble_eq_true rfl, Nat.le_of_ble_eq_true rfl⟩) rfl hl.1 rfl (Nat.le_of_ble_eq_true rfl) dX11_areUnlike_64 ⟨Nat.zero_le _, Nat.zero_le _⟩ hK hP hD hS hA (fun H locs hP hD hS => ?_)
        refine lv_icmp_lt (tgt := 74) hx hb dX11_areUnlike_67 (by decide) (fun c9 => ?_) (fun c9 => ?_)
        · have hf := (if_pos c9).symm.trans hf
          refine lv_iconst (v := 0) hx hb dX11_areUnlike_74 (by decide) ?_
          exact rtMz hx hb hr hlocks hK hP hD hS rfl (congrArg (fun z => some (z, M)) (Option.some.inj hf)) dX11_areUnlike_75
        · have hf := (if_neg c9).symm.trans hf
          refine lv_iconst (v := 1) hx hb dX11_areUnlike_70 (by decide) ?_
          refine lv_goto (tgt := 75) hx hb dX11_areUnlike_71 (by decide) ?_
          exact rtMz hx hb hr hlocks hK hP hD hS rfl (congrArg (fun z => some (z, M)) (Option.some.inj hf)) dX11_areUnlike_75
      · have hf := (if_neg c12).symm.trans hf
        refine lv_iload hx hb dX11_areUnlike_54 (lv_at hl 0 rfl) ?_
        refine lv_ineg hx hb dX11_areUnlike_56 ?_
        refine lv_goto (tgt := 62) hx hb dX11_areUnlike_57 (by decide) ?_
        refine lv_aload_n hx hb dX11_areUnlike_62 rfl (lv_at hl 1 rfl) ?_
        refine lv_iconst (v := 0) hx hb dX11_areUnlike_63 (by decide) ?_
        obtain ⟨r10, er10, hf⟩ := bd hf
        refine klMi (rest := [.int (-x5)]) (As := [.int 0]) ⟨hx, hb, hml, hown, hts⟩ (c_X11_number l dC dI tI tZ h H.size M 0 r10 er10) (cwV 1 hts gX11_areUnlike_X11_number rfl rfl rfl (by decide +kernel) ⟨Nat.le_of_ble_eq_true rfl, Nat.le_of_ble_eq_true rfl⟩) rfl hl.1 rfl (Nat.le_of_ble_eq_true rfl) dX11_areUnlike_64 ⟨Nat.zero_le _, Nat.zero_le _⟩ hK hP hD hS hA (fun H locs hP hD hS => ?_)
        refine lv_icmp_lt (tgt := 74) hx hb dX11_areUnlike_67 (by decide) (fun c11 => ?_) (fun c11 => ?_)
        · have hf := (if_pos c11).symm.trans hf
          refine lv_iconst (v := 0) hx hb dX11_areUnlike_74 (by decide) ?_
          exact rtMz hx hb hr hlocks hK hP hD hS rfl (congrArg (fun z => some (z, M)) (Option.some.inj hf)) dX11_areUnlike_75
        · have hf := (if_neg c11).symm.trans hf
          refine lv_iconst (v := 1) hx hb dX11_areUnlike_70 (by decide) ?_
          refine lv_goto (tgt := 75) hx hb dX11_areUnlike_71 (by decide) ?_
          exact rtMz hx hb hr hlocks hK hP hD hS rfl (congrArg (fun z => some (z, M)) (Option.some.inj hf)) dX11_areUnlike_75

def k_X11_timeOfSet_4 (y1 : Int32) : Option Int32 :=
  some y1
def j_X11_timeOfSet_30 (y2 : Int32) (y3 : Int32) (k5 : Int32) : Option ((Int32 × Int32) ⊕ Int32) :=
  (if k5 ≤ y2 then (Option.bind (some (y3 + 1)) (fun x6 => some (Sum.inl (y2, x6)))) else (Option.bind (some (y3 + 1)) (fun x7 => some (Sum.inl (k5, x7)))))
def b_X11_timeOfSet_4 (M : MS) (p0 : Int32) (y2 : Int32) (y3 : Int32) : Option ((Int32 × Int32) ⊕ Int32) :=
  Option.bind (f_X11_porters M) (fun r4 => (if r4 ≤ y3 then (some (Sum.inr y2)) else ((if ((p0 >>> (y3 &&& 31)) &&& 1) = 1 then (Option.bind (f_X11_timeOf M y3) (fun r9 => j_X11_timeOfSet_30 y2 y3 r9)) else (j_X11_timeOfSet_30 y2 y3 0)))))
def f_X11_timeOfSet (M : MS) (p0 : Int32) : Option Int32 :=
  Option.bind (lp (fun s => b_X11_timeOfSet_4 M p0 s.1 s.2) FU (0, 0)) (fun s => k_X11_timeOfSet_4 s)
def rmX11_timeOfSet : Room := { frames := 2, cells := 0, slots := 0, locals := 44 }
abbrev RRX11_timeOfSet : Room := (headSpec wsX11_timeOfSet rmX11_timeOfSet).room
theorem inX11_timeOfSet : ∀ w ∈ wsX110, w ∈ wsX11_timeOfSet := by decide +kernel
set_option maxHeartbeats 4000000 in
set_option maxRecDepth 100000 in
theorem c_X11_timeOfSet (l : Launch) (dC : Nat → ClassId) (dI : Nat → Nat → Nat) (tI tZ : ClassId) (h : Nat → Nat) (sz : Nat) (M : MS) (p0 : Int32) (r : Int32) (hf : f_X11_timeOfSet M p0 = some r) : cMi l yX11_timeOfSet wsX11_timeOfSet rmX11_timeOfSet dC dI tI tZ h sz [.ref (h 0), .int p0] M r M := by
  refine Met.ofW (cc := cX11_timeOfSet) (maxL := 5) (ret := (some .int)) (by decide) rfl ?_
  intro p e s m args below meth c s₁ B hml hv
  obtain ⟨hargs, hsz, hP, hK, hD0⟩ := hv
  have hx := B.exec
  have hb := B.bytes
  have hr := B.returns
  have hts := atoms_spec (ws := wsX11_timeOfSet) B.pre
  have hown : s.vm.findClass RX11 = some m.cls := findClass_of_methodNamed B.named
  have hlocks := B.notSynchronized
  have hin := inX11_timeOfSet
  have hsz : s.heap.size = sz := hsz
  subst hsz
  have hD := hD0.self (sz := s.heap.size)
  generalize hAe : va_A (wM tI tZ h M) s.heap.size = A at hD ⊢
  have hA : ∀ q : Nat, s.heap.size ≤ q → A q := fun q h => by rw [← hAe]; exact Or.inr h
  have hS : va_S A s.heap s.heap [] := va_S.rf
  have hl := lv_entry ([.ref (h 0), .int p0]) (n := 5) (Nat.le_of_ble_eq_true rfl)
  rw [show entryFrame m args 5 = entryFrame m ([.ref (h 0), .int p0] : List Value).toArray 5 from by rw [hargs], lg_entry_eq]
  generalize (lg_sl ([.ref (h 0), .int p0]) ++ List.replicate (5 - (lg_sl ([.ref (h 0), .int p0])).length) Slot.unset).toArray = ls at hl ⊢
  have hl : lv_has ls 5 [(0, .ref (h 0)), (1, .int p0)] := hl
  unfold f_X11_timeOfSet at hf
  refine lv_iconst (v := 0) hx hb dX11_timeOfSet_0 (by decide) ?_
  refine lv_istore_n (lv' := [(2, .int 0), (0, .ref (h 0)), (1, .int p0)]) hx hb dX11_timeOfSet_1 rfl hl (by decide) rfl (fun ls hl => ?_)
  refine lv_iconst (v := 0) hx hb dX11_timeOfSet_2 (by decide) ?_
  refine lv_istore_n (lv' := [(3, .int 0), (2, .int 0), (0, .ref (h 0)), (1, .int p0)]) hx hb dX11_timeOfSet_3 rfl hl (by decide) rfl (fun ls hl => ?_)
  have K4 : ∀ (y1 : Int32) (H : Heap) (locs : List Loc) (ls : Array Slot), k_X11_timeOfSet_4 y1 = some r → va_P (dC, dI) vwCl (wM tI tZ h M) H → va_D A (wM tI tZ h M) → va_S A s.heap H locs → lv_has ls 5 [(2, .int y1)] → W p l e RRX11_timeOfSet s m args below meth c H locs 0 0 (MQ below (qcMi dC dI tI tZ A h r M) args s 0 0 A) (F0 m 51 ls []) := by
    intro y1 H locs ls hf hP hD hS hl
    unfold k_X11_timeOfSet_4 at hf
    refine lv_iload_n hx hb dX11_timeOfSet_51 rfl (lv_at hl 0 rfl) ?_
    exact rtMi hx hb hr hlocks hK hP hD hS (congrArg (fun z => some (z, M)) (Option.some.inj hf)) dX11_timeOfSet_52
  obtain ⟨z4, ez4, hz4⟩ := bd hf
  have L4 : ∀ (n : Nat) (y2 : Int32) (y3 : Int32) (H : Heap) (locs : List Loc) (ls : Array Slot), lp (fun s => b_X11_timeOfSet_4 M p0 s.1 s.2) n (y2, y3) = some z4 → va_P (dC, dI) vwCl (wM tI tZ h M) H → va_D A (wM tI tZ h M) → va_S A s.heap H locs → lv_has ls 5 [(0, .ref (h 0)), (1, .int p0), (2, .int y2), (3, .int y3)] → W p l e RRX11_timeOfSet s m args below meth c H locs 0 0 (MQ below (qcMi dC dI tI tZ A h r M) args s 0 0 A) (F0 m 4 ls []) := by
    intro n
    induction n with
    | zero => intro y2 y3 H locs ls hf; exact lp_z hf
    | succ n ih4 =>
      intro y2 y3 H locs ls hf hP hD hS hl
      obtain ⟨q4, hf, hq4⟩ := lp_i hf
      have hf : b_X11_timeOfSet_4 M p0 y2 y3 = some q4 := hf
      unfold b_X11_timeOfSet_4 at hf
      refine lv_iload_n hx hb dX11_timeOfSet_4 rfl (lv_at hl 3 rfl) ?_
      refine lv_aload_n hx hb dX11_timeOfSet_5 rfl (lv_at hl 0 rfl) ?_
      obtain ⟨r4, er4, hf⟩ := bd hf
      refine klMi (rest := [.int y3]) (As := []) ⟨hx, hb, hml, hown, hts⟩ (c_X11_porters l dC dI tI tZ h H.size M r4 er4) (cwV 0 hts gX11_timeOfSet_X11_porters rfl rfl rfl (by decide +kernel) ⟨Nat.le_of_ble_eq_true rfl, Nat.le_of_ble_eq_true rfl⟩) rfl hl.1 rfl (Nat.le_of_ble_eq_true rfl) dX11_timeOfSet_6 ⟨Nat.zero_le _, Nat.zero_le _⟩ hK hP hD hS hA (fun H locs hP hD hS => ?_)
      refine lv_icmp_ge (tgt := 51) hx hb dX11_timeOfSet_9 (by decide) (fun c11 => ?_) (fun c11 => ?_)
      · have hf := (if_pos c11).symm.trans hf
        exact K4 y2 _ _ _ (lp_x (k := (fun s => k_X11_timeOfSet_4 s)) (lp_r hf hq4) hz4) hP hD hS (lv_sub hl [2] rfl)
      · have hf := (if_neg c11).symm.trans hf
        refine lv_iload_n hx hb dX11_timeOfSet_12 rfl (lv_at hl 1 rfl) ?_
        refine lv_iload_n hx hb dX11_timeOfSet_13 rfl (lv_at hl 3 rfl) ?_
        refine lv_ishr hx hb dX11_timeOfSet_14 ?_
        refine lv_iconst (v := 1) hx hb dX11_timeOfSet_15 (by decide) ?_
        refine lv_iand hx hb dX11_timeOfSet_16 ?_
        refine lv_iconst (v := 1) hx hb dX11_timeOfSet_17 (by decide) ?_
        have J30 : ∀ (k5 : Int32) (H : Heap) (locs : List Loc) (ls : Array Slot), j_X11_timeOfSet_30 y2 y3 k5 = some q4 → va_P (dC, dI) vwCl (wM tI tZ h M) H → va_D A (wM tI tZ h M) → va_S A s.heap H locs → lv_has ls 5 [(0, .ref (h 0)), (1, .int p0), (2, .int y2), (3, .int y3)] → W p l e RRX11_timeOfSet s m args below meth c H locs 0 0 (MQ below (qcMi dC dI tI tZ A h r M) args s 0 0 A) (F0 m 30 ls [.int k5]) := by
          intro k5 H locs ls hf hP hD hS hl
          unfold j_X11_timeOfSet_30 at hf
          refine lv_istore (lv' := [(4, .int k5), (0, .ref (h 0)), (1, .int p0), (2, .int y2), (3, .int y3)]) hx hb dX11_timeOfSet_30 hl (by decide) rfl (fun ls hl => ?_)
          refine lv_iload hx hb dX11_timeOfSet_32 (lv_at hl 0 rfl) ?_
          refine lv_iload_n hx hb dX11_timeOfSet_34 rfl (lv_at hl 3 rfl) ?_
          refine lv_icmp_le (tgt := 43) hx hb dX11_timeOfSet_35 (by decide) (fun c8 => ?_) (fun c8 => ?_)
          · have hf := (if_pos c8).symm.trans hf
            refine lv_iload_n hx hb dX11_timeOfSet_43 rfl (lv_at hl 3 rfl) ?_
            refine lv_istore_n (lv' := [(2, .int y2), (4, .int k5), (0, .ref (h 0)), (1, .int p0), (3, .int y3)]) hx hb dX11_timeOfSet_44 rfl hl (by decide) rfl (fun ls hl => ?_)
            obtain ⟨x6, ex6, hf⟩ := bn hf
            refine lv_iinc (v := x6) (lv' := [(3, .int x6), (2, .int y2), (4, .int k5), (0, .ref (h 0)), (1, .int p0)]) hx hb dX11_timeOfSet_45 hl (k := 4) rfl (by rw [ex6]; rfl) (by decide) rfl (fun ls hl => ?_)
            refine lv_goto (tgt := 4) hx hb dX11_timeOfSet_48 (by decide) ?_
            exact ih4 y2 x6 _ _ _ (lp_l hf hq4) hP hD hS (lv_sub hl [3, 4, 1, 0] rfl)
          · have hf := (if_neg c8).symm.trans hf
            refine lv_iload hx hb dX11_timeOfSet_38 (lv_at hl 0 rfl) ?_
            refine lv_goto (tgt := 44) hx hb dX11_timeOfSet_40 (by decide) ?_
            refine lv_istore_n (lv' := [(2, .int k5), (4, .int k5), (0, .ref (h 0)), (1, .int p0), (3, .int y3)]) hx hb dX11_timeOfSet_44 rfl hl (by decide) rfl (fun ls hl => ?_)
            obtain ⟨x7, ex7, hf⟩ := bn hf
            refine lv_iinc (v := x7) (lv' := [(3, .int x7), (2, .int k5), (4, .int k5), (0, .ref (h 0)), (1, .int p0)]) hx hb dX11_timeOfSet_45 hl (k := 4) rfl (by rw [ex7]; rfl) (by decide) rfl (fun ls hl => ?_)
            refine lv_goto (tgt := 4) hx hb dX11_timeOfSet_48 (by decide) ?_
            exact ih4 k5 x7 _ _ _ (lp_l hf hq4) hP hD hS (lv_sub hl [3, 4, 1, 0] rfl)
        refine lv_icmp_ne (tgt := 29) hx hb dX11_timeOfSet_18 (by decide) (fun c10 => ?_) (fun c10 => ?_)
        · have hf := (if_neg c10).symm.trans hf
          refine lv_iconst (v := 0) hx hb dX11_timeOfSet_29 (by decide) ?_
          exact J30 0 _ _ _ hf hP hD hS (lv_sub hl [0, 1, 2, 3] rfl)
        · have hf := (if_pos c10).symm.trans hf
          refine lv_aload_n hx hb dX11_timeOfSet_21 rfl (lv_at hl 0 rfl) ?_
          refine lv_iload_n hx hb dX11_timeOfSet_22 rfl (lv_at hl 3 rfl) ?_
          obtain ⟨r9, er9, hf⟩ := bd hf
          refine klMi (rest := []) (As := [.int y3]) ⟨hx, hb, hml, hown, hts⟩ (c_X11_timeOf l dC dI tI tZ h H.size M y3 r9 er9) (cwV 1 hts gX11_timeOfSet_X11_timeOf rfl rfl rfl (by decide +kernel) ⟨Nat.le_of_ble_eq_true rfl, Nat.le_of_ble_eq_true rfl⟩) rfl hl.1 rfl (Nat.le_of_ble_eq_true rfl) dX11_timeOfSet_23 ⟨Nat.zero_le _, Nat.zero_le _⟩ hK hP hD hS hA (fun H locs hP hD hS => ?_)
          refine lv_goto (tgt := 30) hx hb dX11_timeOfSet_26 (by decide) ?_
          exact J30 r9 _ _ _ hf hP hD hS (lv_sub hl [0, 1, 2, 3] rfl)
  exact L4 FU 0 0 _ _ _ ez4 hP hD hS (lv_sub hl [2, 3, 1, 0] rfl)

def j_X11_whyNot_83 (M : MS) (p0 : Int32) (p1 : Int32) : Option Int32 :=
  Option.bind (f_X11_timeOfSet M p0) (fun r7 => (if (p1 + r7) ≤ 240 then (some 0) else (some 6)))
def j_X11_whyNot_32 (M : MS) (p0 : Int32) (p1 : Int32) (k2 : Int32) (r3 : Int32) (k4 : Int32) : Option Int32 :=
  (if r3 = k4 then (Option.bind (f_X11_anyNever M p0 k2) (fun r5 => (if r5 = 0 then (Option.bind (f_X11_firstIn p0) (fun r6 => (if r3 = 2 then (Option.bind (f_X11_firstIn (p0 &&& ((1 <<< (r6 &&& 31)) ^^^ (-1)))) (fun r9 => Option.bind (f_X11_areUnlike M r6 r9 p1) (fun r10 => (if r10 = 0 then (some 5) else (j_X11_whyNot_83 M p0 p1))))) else (j_X11_whyNot_83 M p0 p1)))) else (some 4)))) else (some 3))
def j_X11_whyNot_14 (M : MS) (p0 : Int32) (p1 : Int32) (k2 : Int32) : Option Int32 :=
  Option.bind (f_X11_manyIn p0) (fun r3 => (if k2 = 0 then (j_X11_whyNot_32 M p0 p1 k2 r3 2) else (j_X11_whyNot_32 M p0 p1 k2 r3 1)))
def f_X11_whyNot (M : MS) (p0 : Int32) (p1 : Int32) : Option Int32 :=
  Option.bind (f_X11_number M 3) (fun r1 => (if p1 < r1 then (j_X11_whyNot_14 M p0 p1 0) else (j_X11_whyNot_14 M p0 p1 1)))
def rmX11_whyNot : Room := { frames := 3, cells := 0, slots := 0, locals := 70 }
abbrev RRX11_whyNot : Room := (headSpec wsX11_whyNot rmX11_whyNot).room
theorem inX11_whyNot : ∀ w ∈ wsX110, w ∈ wsX11_whyNot := by decide +kernel
set_option maxHeartbeats 4000000 in
set_option maxRecDepth 100000 in
theorem c_X11_whyNot (l : Launch) (dC : Nat → ClassId) (dI : Nat → Nat → Nat) (tI tZ : ClassId) (h : Nat → Nat) (sz : Nat) (M : MS) (p0 : Int32) (p1 : Int32) (r : Int32) (hf : f_X11_whyNot M p0 p1 = some r) : cMi l yX11_whyNot wsX11_whyNot rmX11_whyNot dC dI tI tZ h sz [.ref (h 0), .int p0, .int p1] M r M := by
  refine Met.ofW (cc := cX11_whyNot) (maxL := 6) (ret := (some .int)) (by decide) rfl ?_
  intro p e s m args below meth c s₁ B hml hv
  obtain ⟨hargs, hsz, hP, hK, hD0⟩ := hv
  have hx := B.exec
  have hb := B.bytes
  have hr := B.returns
  have hts := atoms_spec (ws := wsX11_whyNot) B.pre
  have hown : s.vm.findClass RX11 = some m.cls := findClass_of_methodNamed B.named
  have hlocks := B.notSynchronized
  have hin := inX11_whyNot
  have hsz : s.heap.size = sz := hsz
  subst hsz
  have hD := hD0.self (sz := s.heap.size)
  generalize hAe : va_A (wM tI tZ h M) s.heap.size = A at hD ⊢
  have hA : ∀ q : Nat, s.heap.size ≤ q → A q := fun q h => by rw [← hAe]; exact Or.inr h
  have hS : va_S A s.heap s.heap [] := va_S.rf
  have hl := lv_entry ([.ref (h 0), .int p0, .int p1]) (n := 6) (Nat.le_of_ble_eq_true rfl)
  rw [show entryFrame m args 6 = entryFrame m ([.ref (h 0), .int p0, .int p1] : List Value).toArray 6 from by rw [hargs], lg_entry_eq]
  generalize (lg_sl ([.ref (h 0), .int p0, .int p1]) ++ List.replicate (6 - (lg_sl ([.ref (h 0), .int p0, .int p1])).length) Slot.unset).toArray = ls at hl ⊢
  have hl : lv_has ls 6 [(0, .ref (h 0)), (1, .int p0), (2, .int p1)] := hl
  unfold f_X11_whyNot at hf
  refine lv_iload_n hx hb dX11_whyNot_0 rfl (lv_at hl 2 rfl) ?_
  refine lv_aload_n hx hb dX11_whyNot_1 rfl (lv_at hl 0 rfl) ?_
  refine lv_iconst (v := 3) hx hb dX11_whyNot_2 (by decide) ?_
  obtain ⟨r1, er1, hf⟩ := bd hf
  refine klMi (rest := [.int p1]) (As := [.int 3]) ⟨hx, hb, hml, hown, hts⟩ (c_X11_number l dC dI tI tZ h s.heap.size M 3 r1 er1) (cwV 1 hts gX11_whyNot_X11_number rfl rfl rfl (by decide +kernel) ⟨Nat.le_of_ble_eq_true rfl, Nat.le_of_ble_eq_true rfl⟩) rfl hl.1 rfl (Nat.le_of_ble_eq_true rfl) dX11_whyNot_3 ⟨Nat.zero_le _, Nat.zero_le _⟩ hK hP hD hS hA (fun H locs hP hD hS => ?_)
  have J14 : ∀ (k2 : Int32) (H : Heap) (locs : List Loc) (ls : Array Slot), j_X11_whyNot_14 M p0 p1 k2 = some r → va_P (dC, dI) vwCl (wM tI tZ h M) H → va_D A (wM tI tZ h M) → va_S A s.heap H locs → lv_has ls 6 [(0, .ref (h 0)), (1, .int p0), (2, .int p1)] → W p l e RRX11_whyNot s m args below meth c H locs 0 0 (MQ below (qcMi dC dI tI tZ A h r M) args s 0 0 A) (F0 m 14 ls [.int k2]) := by
    intro k2 H locs ls hf hP hD hS hl
    unfold j_X11_whyNot_14 at hf
    refine lv_istore_n (lv' := [(3, .int k2), (0, .ref (h 0)), (1, .int p0), (2, .int p1)]) hx hb dX11_whyNot_14 rfl hl (by decide) rfl (fun ls hl => ?_)
    refine lv_iload_n hx hb dX11_whyNot_15 rfl (lv_at hl 2 rfl) ?_
    obtain ⟨r3, er3, hf⟩ := bd hf
    refine klEi (rest := []) (As := [.int p0]) ⟨hx, hb, hml, hown, hts⟩ (c_X11_manyIn l H.size p0 r3 er3) (va_cwS 1 hts gX11_whyNot_X11_manyIn rfl rfl rfl (by decide +kernel) ⟨Nat.le_of_ble_eq_true rfl, Nat.le_of_ble_eq_true rfl⟩) rfl hl.1 rfl (Nat.le_of_ble_eq_true rfl) dX11_whyNot_16 ⟨Nat.zero_le _, Nat.zero_le _⟩ hS hA (fun H2 locs hk hS => ?_)
    have hP := kpP hP hk
    generalize H2 = H at hP hS ⊢
    refine lv_istore (lv' := [(4, .int r3), (3, .int k2), (0, .ref (h 0)), (1, .int p0), (2, .int p1)]) hx hb dX11_whyNot_19 hl (by decide) rfl (fun ls hl => ?_)
    refine lv_iload hx hb dX11_whyNot_21 (lv_at hl 0 rfl) ?_
    refine lv_iload_n hx hb dX11_whyNot_23 rfl (lv_at hl 1 rfl) ?_
    have J32 : ∀ (k4 : Int32) (H : Heap) (locs : List Loc) (ls : Array Slot), j_X11_whyNot_32 M p0 p1 k2 r3 k4 = some r → va_P (dC, dI) vwCl (wM tI tZ h M) H → va_D A (wM tI tZ h M) → va_S A s.heap H locs → lv_has ls 6 [(0, .ref (h 0)), (1, .int p0), (2, .int p1), (3, .int k2), (4, .int r3)] → W p l e RRX11_whyNot s m args below meth c H locs 0 0 (MQ below (qcMi dC dI tI tZ A h r M) args s 0 0 A) (F0 m 32 ls [.int k4, .int r3]) := by
      intro k4 H locs ls hf hP hD hS hl
      unfold j_X11_whyNot_32 at hf
      refine lv_icmp_eq (tgt := 37) hx hb dX11_whyNot_32 (by decide) (fun c14 => ?_) (fun c14 => ?_)
      · have hf := (if_pos c14).symm.trans hf
        refine lv_aload_n hx hb dX11_whyNot_37 rfl (lv_at hl 0 rfl) ?_
        refine lv_iload_n hx hb dX11_whyNot_38 rfl (lv_at hl 1 rfl) ?_
        refine lv_iload_n hx hb dX11_whyNot_39 rfl (lv_at hl 3 rfl) ?_
        obtain ⟨r5, er5, hf⟩ := bd hf
        refine klMi (rest := []) (As := [.int p0, .int k2]) ⟨hx, hb, hml, hown, hts⟩ (c_X11_anyNever l dC dI tI tZ h H.size M p0 k2 r5 er5) (cwV 2 hts gX11_whyNot_X11_anyNever rfl rfl rfl (by decide +kernel) ⟨Nat.le_of_ble_eq_true rfl, Nat.le_of_ble_eq_true rfl⟩) rfl hl.1 rfl (Nat.le_of_ble_eq_true rfl) dX11_whyNot_40 ⟨Nat.zero_le _, Nat.zero_le _⟩ hK hP hD hS hA (fun H locs hP hD hS => ?_)
        refine lv_if_eq (tgt := 48) hx hb dX11_whyNot_43 (by decide) (fun c13 => ?_) (fun c13 => ?_)
        · have hf := (if_pos c13).symm.trans hf
          refine lv_iload_n hx hb dX11_whyNot_48 rfl (lv_at hl 1 rfl) ?_
          obtain ⟨r6, er6, hf⟩ := bd hf
          refine klEi (rest := []) (As := [.int p0]) ⟨hx, hb, hml, hown, hts⟩ (c_X11_firstIn l H.size p0 r6 er6) (va_cwS 1 hts gX11_whyNot_X11_firstIn rfl rfl rfl (by decide +kernel) ⟨Nat.le_of_ble_eq_true rfl, Nat.le_of_ble_eq_true rfl⟩) rfl hl.1 rfl (Nat.le_of_ble_eq_true rfl) dX11_whyNot_49 ⟨Nat.zero_le _, Nat.zero_le _⟩ hS hA (fun H2 locs hk hS => ?_)
          have hP := kpP hP hk
          generalize H2 = H at hP hS ⊢
          refine lv_istore (lv' := [(5, .int r6), (0, .ref (h 0)), (1, .int p0), (2, .int p1), (3, .int k2), (4, .int r3)]) hx hb dX11_whyNot_52 hl (by decide) rfl (fun ls hl => ?_)
          refine lv_iload hx hb dX11_whyNot_54 (lv_at hl 5 rfl) ?_
          refine lv_iconst (v := 2) hx hb dX11_whyNot_56 (by decide) ?_
          have J83 : ∀  (H : Heap) (locs : List Loc) (ls : Array Slot), j_X11_whyNot_83 M p0 p1 = some r → va_P (dC, dI) vwCl (wM tI tZ h M) H → va_D A (wM tI tZ h M) → va_S A s.heap H locs → lv_has ls 6 [(0, .ref (h 0)), (1, .int p0), (2, .int p1)] → W p l e RRX11_whyNot s m args below meth c H locs 0 0 (MQ below (qcMi dC dI tI tZ A h r M) args s 0 0 A) (F0 m 83 ls []) := by
            intro  H locs ls hf hP hD hS hl
            unfold j_X11_whyNot_83 at hf
            refine lv_iload_n hx hb dX11_whyNot_83 rfl (lv_at hl 2 rfl) ?_
            refine lv_aload_n hx hb dX11_whyNot_84 rfl (lv_at hl 0 rfl) ?_
            refine lv_iload_n hx hb dX11_whyNot_85 rfl (lv_at hl 1 rfl) ?_
            obtain ⟨r7, er7, hf⟩ := bd hf
            refine klMi (rest := [.int p1]) (As := [.int p0]) ⟨hx, hb, hml, hown, hts⟩ (c_X11_timeOfSet l dC dI tI tZ h H.size M p0 r7 er7) (cwV 1 hts gX11_whyNot_X11_timeOfSet rfl rfl rfl (by decide +kernel) ⟨Nat.le_of_ble_eq_true rfl, Nat.le_of_ble_eq_true rfl⟩) rfl hl.1 rfl (Nat.le_of_ble_eq_true rfl) dX11_whyNot_86 ⟨Nat.zero_le _, Nat.zero_le _⟩ hK hP hD hS hA (fun H locs hP hD hS => ?_)
            refine lv_iadd hx hb dX11_whyNot_89 ?_
            refine lv_sipush (v := 240) hx hb dX11_whyNot_90 (by decide) ?_
            refine lv_icmp_le (tgt := 101) hx hb dX11_whyNot_93 (by decide) (fun c8 => ?_) (fun c8 => ?_)
            · have hf := (if_pos c8).symm.trans hf
              refine lv_iconst (v := 0) hx hb dX11_whyNot_101 (by decide) ?_
              exact rtMi hx hb hr hlocks hK hP hD hS (congrArg (fun z => some (z, M)) (Option.some.inj hf)) dX11_whyNot_102
            · have hf := (if_neg c8).symm.trans hf
              refine lv_bipush (v := 6) hx hb dX11_whyNot_96 (by decide) ?_
              refine lv_goto (tgt := 102) hx hb dX11_whyNot_98 (by decide) ?_
              exact rtMi hx hb hr hlocks hK hP hD hS (congrArg (fun z => some (z, M)) (Option.some.inj hf)) dX11_whyNot_102
          refine lv_icmp_ne (tgt := 83) hx hb dX11_whyNot_57 (by decide) (fun c12 => ?_) (fun c12 => ?_)
          · have hf := (if_neg c12).symm.trans hf
            exact J83  _ _ _ hf hP hD hS (lv_sub hl [1, 2, 3] rfl)
          · have hf := (if_pos c12).symm.trans hf
            refine lv_aload_n hx hb dX11_whyNot_60 rfl (lv_at hl 1 rfl) ?_
            refine lv_iload hx hb dX11_whyNot_61 (lv_at hl 0 rfl) ?_
            refine lv_iload_n hx hb dX11_whyNot_63 rfl (lv_at hl 2 rfl) ?_
            refine lv_iconst (v := 1) hx hb dX11_whyNot_64 (by decide) ?_
            refine lv_iload hx hb dX11_whyNot_65 (lv_at hl 0 rfl) ?_
            refine lv_ishl hx hb dX11_whyNot_67 ?_
            refine lv_iconst (v := (-1)) hx hb dX11_whyNot_68 (by decide) ?_
            refine lv_ixor hx hb dX11_whyNot_69 ?_
            refine lv_iand hx hb dX11_whyNot_70 ?_
            obtain ⟨r9, er9, hf⟩ := bd hf
            refine klEi (rest := [.int r6, .ref (h 0)]) (As := [.int (p0 &&& ((1 <<< (r6 &&& 31)) ^^^ (-1)))]) ⟨hx, hb, hml, hown, hts⟩ (c_X11_firstIn l H.size (p0 &&& ((1 <<< (r6 &&& 31)) ^^^ (-1))) r9 er9) (va_cwS 1 hts gX11_whyNot_X11_firstIn rfl rfl rfl (by decide +kernel) ⟨Nat.le_of_ble_eq_true rfl, Nat.le_of_ble_eq_true rfl⟩) rfl hl.1 rfl (Nat.le_of_ble_eq_true rfl) dX11_whyNot_71 ⟨Nat.zero_le _, Nat.zero_le _⟩ hS hA (fun H2 locs hk hS => ?_)
            have hP := kpP hP hk
            generalize H2 = H at hP hS ⊢
            refine lv_iload_n hx hb dX11_whyNot_74 rfl (lv_at hl 3 rfl) ?_
            obtain ⟨r10, er10, hf⟩ := bd hf
            refine klMi (rest := []) (As := [.int r6, .int r9, .int p1]) ⟨hx, hb, hml, hown, hts⟩ (c_X11_areUnlike l dC dI tI tZ h H.size M r6 r9 p1 r10 er10) (cwV 3 hts gX11_whyNot_X11_areUnlike rfl rfl rfl (by decide +kernel) ⟨Nat.le_of_ble_eq_true rfl, Nat.le_of_ble_eq_true rfl⟩) rfl hl.1 rfl (Nat.le_of_ble_eq_true rfl) dX11_whyNot_75 ⟨Nat.zero_le _, Nat.zero_le _⟩ hK hP hD hS hA (fun H locs hP hD hS => ?_)
            refine lv_if_ne (tgt := 83) hx hb dX11_whyNot_78 (by decide) (fun c11 => ?_) (fun c11 => ?_)
            · have hf := (if_neg c11).symm.trans hf
              exact J83  _ _ _ hf hP hD hS (lv_sub hl [1, 2, 3] rfl)
            · have hf := (if_pos c11).symm.trans hf
              refine lv_iconst (v := 5) hx hb dX11_whyNot_81 (by decide) ?_
              exact rtMi hx hb hr hlocks hK hP hD hS (congrArg (fun z => some (z, M)) (Option.some.inj hf)) dX11_whyNot_82
        · have hf := (if_neg c13).symm.trans hf
          refine lv_iconst (v := 4) hx hb dX11_whyNot_46 (by decide) ?_
          exact rtMi hx hb hr hlocks hK hP hD hS (congrArg (fun z => some (z, M)) (Option.some.inj hf)) dX11_whyNot_47
      · have hf := (if_neg c14).symm.trans hf
        refine lv_iconst (v := 3) hx hb dX11_whyNot_35 (by decide) ?_
        exact rtMi hx hb hr hlocks hK hP hD hS (congrArg (fun z => some (z, M)) (Option.some.inj hf)) dX11_whyNot_36
    refine lv_if_eq (tgt := 31) hx hb dX11_whyNot_24 (by decide) (fun c15 => ?_) (fun c15 => ?_)
    · have hf := (if_pos c15).symm.trans hf
      refine lv_iconst (v := 2) hx hb dX11_whyNot_31 (by decide) ?_
      exact J32 2 _ _ _ hf hP hD hS (lv_sub hl [2, 3, 4, 1, 0] rfl)
    · have hf := (if_neg c15).symm.trans hf
      refine lv_iconst (v := 1) hx hb dX11_whyNot_27 (by decide) ?_
      refine lv_goto (tgt := 32) hx hb dX11_whyNot_28 (by decide) ?_
      exact J32 1 _ _ _ hf hP hD hS (lv_sub hl [2, 3, 4, 1, 0] rfl)
  refine lv_icmp_lt (tgt := 13) hx hb dX11_whyNot_6 (by decide) (fun c16 => ?_) (fun c16 => ?_)
  · have hf := (if_pos c16).symm.trans hf
    refine lv_iconst (v := 0) hx hb dX11_whyNot_13 (by decide) ?_
    exact J14 0 _ _ _ hf hP hD hS (lv_sub hl [0, 1, 2] rfl)
  · have hf := (if_neg c16).symm.trans hf
    refine lv_iconst (v := 1) hx hb dX11_whyNot_9 (by decide) ?_
    refine lv_goto (tgt := 14) hx hb dX11_whyNot_10 (by decide) ?_
    exact J14 1 _ _ _ hf hP hD hS (lv_sub hl [0, 1, 2] rfl)

def k_X11_carryNothing_2 (M1 : MS) : Option MS :=
  some M1
def b_X11_carryNothing_2 (y2 : Int32) (M3 : MS) : Option ((Int32 × MS) ⊕ MS) :=
  (if 6 ≤ y2 then (some (Sum.inr M3)) else (Option.bind (wrM M3 4 6 y2 0) (fun M4 => Option.bind (some (y2 + 1)) (fun x5 => some (Sum.inl (x5, M4))))))
def f_X11_carryNothing (M : MS)  : Option MS :=
  Option.bind (lp (fun s => b_X11_carryNothing_2 s.1 s.2) FU (0, M)) (fun s => k_X11_carryNothing_2 s)
def rmX11_carryNothing : Room := { frames := 0, cells := 0, slots := 0, locals := 0 }
abbrev RRX11_carryNothing : Room := (headSpec wsX11_carryNothing rmX11_carryNothing).room
theorem inX11_carryNothing : ∀ w ∈ wsX110, w ∈ wsX11_carryNothing := by decide +kernel
set_option maxHeartbeats 4000000 in
set_option maxRecDepth 100000 in
theorem c_X11_carryNothing (l : Launch) (dC : Nat → ClassId) (dI : Nat → Nat → Nat) (tI tZ : ClassId) (h : Nat → Nat) (sz : Nat) (M : MS)  (M' : MS) (hf : f_X11_carryNothing M  = some M') : cMv l yX11_carryNothing wsX11_carryNothing rmX11_carryNothing dC dI tI tZ h sz [.ref (h 0)] M M' := by
  refine Met.ofW (cc := cX11_carryNothing) (maxL := 2) (ret := none) (by decide) rfl ?_
  intro p e s m args below meth c s₁ B hml hv
  obtain ⟨hargs, hsz, hP, hK, hD0⟩ := hv
  have hx := B.exec
  have hb := B.bytes
  have hr := B.returns
  have hts := atoms_spec (ws := wsX11_carryNothing) B.pre
  have hown : s.vm.findClass RX11 = some m.cls := findClass_of_methodNamed B.named
  have hlocks := B.notSynchronized
  have hin := inX11_carryNothing
  have hsz : s.heap.size = sz := hsz
  subst hsz
  have lk23 : Cond.fieldLink RX11 23 (TX11 4).1 (TX11 4).2.1 (TX11 4).2.2.1 ∈ wsX11_carryNothing := by decide +kernel
  have hD := hD0.self (sz := s.heap.size)
  generalize hAe : va_A (wM tI tZ h M) s.heap.size = A at hD ⊢
  have hA : ∀ q : Nat, s.heap.size ≤ q → A q := fun q h => by rw [← hAe]; exact Or.inr h
  have hS : va_S A s.heap s.heap [] := va_S.rf
  have hl := lv_entry ([.ref (h 0)]) (n := 2) (Nat.le_of_ble_eq_true rfl)
  rw [show entryFrame m args 2 = entryFrame m ([.ref (h 0)] : List Value).toArray 2 from by rw [hargs], lg_entry_eq]
  generalize (lg_sl ([.ref (h 0)]) ++ List.replicate (2 - (lg_sl ([.ref (h 0)])).length) Slot.unset).toArray = ls at hl ⊢
  have hl : lv_has ls 2 [(0, .ref (h 0))] := hl
  unfold f_X11_carryNothing at hf
  refine lv_iconst (v := 0) hx hb dX11_carryNothing_0 (by decide) ?_
  refine lv_istore_n (lv' := [(1, .int 0), (0, .ref (h 0))]) hx hb dX11_carryNothing_1 rfl hl (by decide) rfl (fun ls hl => ?_)
  have K2 : ∀ (M1 : MS) (H : Heap) (locs : List Loc) (ls : Array Slot), k_X11_carryNothing_2 M1 = some M' → va_P (dC, dI) vwCl (wM tI tZ h M1) H → va_D A (wM tI tZ h M1) → va_S A s.heap H locs → lv_has ls 2 [] → W p l e RRX11_carryNothing s m args below meth c H locs 0 0 (MQ below (qcMv dC dI tI tZ A h M') args s 0 0 A) (F0 m 21 ls []) := by
    intro M1 H locs ls hf hP hD hS hl
    unfold k_X11_carryNothing_2 at hf
    exact rtMv hx hb hr hlocks hK hP hD hS hf dX11_carryNothing_21
  obtain ⟨z2, ez2, hz2⟩ := bd hf
  have L2 : ∀ (n : Nat) (y2 : Int32) (M3 : MS) (H : Heap) (locs : List Loc) (ls : Array Slot), lp (fun s => b_X11_carryNothing_2 s.1 s.2) n (y2, M3) = some z2 → va_P (dC, dI) vwCl (wM tI tZ h M3) H → va_D A (wM tI tZ h M3) → va_S A s.heap H locs → lv_has ls 2 [(0, .ref (h 0)), (1, .int y2)] → W p l e RRX11_carryNothing s m args below meth c H locs 0 0 (MQ below (qcMv dC dI tI tZ A h M') args s 0 0 A) (F0 m 2 ls []) := by
    intro n
    induction n with
    | zero => intro y2 M3 H locs ls hf; exact lp_z hf
    | succ n ih2 =>
      intro y2 M3 H locs ls hf hP hD hS hl
      obtain ⟨q2, hf, hq2⟩ := lp_i hf
      have hf : b_X11_carryNothing_2 y2 M3 = some q2 := hf
      unfold b_X11_carryNothing_2 at hf
      refine lv_iload_n hx hb dX11_carryNothing_2 rfl (lv_at hl 1 rfl) ?_
      refine lv_bipush (v := 6) hx hb dX11_carryNothing_3 (by decide) ?_
      refine lv_icmp_ge (tgt := 21) hx hb dX11_carryNothing_5 (by decide) (fun c6 => ?_) (fun c6 => ?_)
      · have hf := (if_pos c6).symm.trans hf
        exact K2 M3 _ _ _ (lp_x (k := (fun s => k_X11_carryNothing_2 s)) (lp_r hf hq2) hz2) hP hD hS (lv_sub hl [] rfl)
      · have hf := (if_neg c6).symm.trans hf
        refine lv_aload_n hx hb dX11_carryNothing_8 rfl (lv_at hl 0 rfl) ?_
        refine geM hx hb hts hin hown hK hP 4 (by decide) lk23 rfl dX11_carryNothing_9 ?_
        refine lv_iload_n hx hb dX11_carryNothing_12 rfl (lv_at hl 1 rfl) ?_
        refine lv_iconst (v := 0) hx hb dX11_carryNothing_13 (by decide) ?_
        obtain ⟨M4, hiM4, eM4, hf⟩ := wr_b hf
        refine va_iast hx hb hK hP hD hS 5 0 rfl rfl hiM4 dX11_carryNothing_14 (fun H locs hP hD hS => ?_)
        have hP : va_P (dC, dI) vwCl (wM tI tZ h M4) H := by rw [eM4]; exact hP
        have hD : va_D A (wM tI tZ h M4) := by rw [eM4]; exact hD
        obtain ⟨x5, ex5, hf⟩ := bn hf
        refine lv_iinc (v := x5) (lv' := [(1, .int x5), (0, .ref (h 0))]) hx hb dX11_carryNothing_15 hl (k := 1) rfl (by rw [ex5]; rfl) (by decide) rfl (fun ls hl => ?_)
        refine lv_goto (tgt := 2) hx hb dX11_carryNothing_18 (by decide) ?_
        exact ih2 x5 M4 _ _ _ (lp_l hf hq2) hP hD hS (lv_sub hl [1, 0] rfl)
  exact L2 FU 0 M _ _ _ ez2 hP hD hS (lv_sub hl [1, 0] rfl)

def f_X11_why (M : MS) (p0 : Int32) (p1 : Int32) : Option (Int32 × MS) :=
  Option.bind (f_X11_all M) (fun r1 => Option.bind (f_X11_in (Int32.toInt64 p0) 1 (Int32.toInt64 r1)) (fun r2 => (if r2 = 0 then (bi2 (f_X11_bad M (-2)) (fun r3 M4 => some ((r3, M4)))) else (Option.bind (f_X11_in (Int32.toInt64 p1) 0 239) (fun r5 => (if r5 = 0 then (bi2 (f_X11_bad M (-2)) (fun r8 M9 => some ((r8, M9)))) else (Option.bind (f_X11_carryNothing M) (fun M6 => Option.bind (f_X11_whyNot M6 p0 p1) (fun r7 => some ((r7, M6)))))))))))
def rmX11_why : Room := { frames := 4, cells := 0, slots := 0, locals := 95 }
abbrev RRX11_why : Room := (headSpec wsX11_why rmX11_why).room
theorem inX11_why : ∀ w ∈ wsX110, w ∈ wsX11_why := by decide +kernel
set_option maxHeartbeats 4000000 in
set_option maxRecDepth 100000 in
theorem c_X11_why (l : Launch) (dC : Nat → ClassId) (dI : Nat → Nat → Nat) (tI tZ : ClassId) (h : Nat → Nat) (sz : Nat) (M : MS) (p0 : Int32) (p1 : Int32) (r : Int32) (M' : MS) (hf : f_X11_why M p0 p1 = some (r, M')) : cMi l yX11_why wsX11_why rmX11_why dC dI tI tZ h sz [.ref (h 0), .int p0, .int p1] M r M' := by
  refine Met.ofW (cc := cX11_why) (maxL := 3) (ret := (some .int)) (by decide) rfl ?_
  intro p e s m args below meth c s₁ B hml hv
  obtain ⟨hargs, hsz, hP, hK, hD0⟩ := hv
  have hx := B.exec
  have hb := B.bytes
  have hr := B.returns
  have hts := atoms_spec (ws := wsX11_why) B.pre
  have hown : s.vm.findClass RX11 = some m.cls := findClass_of_methodNamed B.named
  have hlocks := B.notSynchronized
  have hin := inX11_why
  have hsz : s.heap.size = sz := hsz
  subst hsz
  have hD := hD0.self (sz := s.heap.size)
  generalize hAe : va_A (wM tI tZ h M) s.heap.size = A at hD ⊢
  have hA : ∀ q : Nat, s.heap.size ≤ q → A q := fun q h => by rw [← hAe]; exact Or.inr h
  have hS : va_S A s.heap s.heap [] := va_S.rf
  have hl := lv_entry ([.ref (h 0), .int p0, .int p1]) (n := 3) (Nat.le_of_ble_eq_true rfl)
  rw [show entryFrame m args 3 = entryFrame m ([.ref (h 0), .int p0, .int p1] : List Value).toArray 3 from by rw [hargs], lg_entry_eq]
  generalize (lg_sl ([.ref (h 0), .int p0, .int p1]) ++ List.replicate (3 - (lg_sl ([.ref (h 0), .int p0, .int p1])).length) Slot.unset).toArray = ls at hl ⊢
  have hl : lv_has ls 3 [(0, .ref (h 0)), (1, .int p0), (2, .int p1)] := hl
  unfold f_X11_why at hf
  refine lv_iload_n hx hb dX11_why_0 rfl (lv_at hl 1 rfl) ?_
  refine lv_i2l hx hb dX11_why_1 rfl ?_
  refine lv_lconst (v := 1) hx hb dX11_why_2 (by decide) ?_
  refine lv_aload_n hx hb dX11_why_3 rfl (lv_at hl 0 rfl) ?_
  obtain ⟨r1, er1, hf⟩ := bd hf
  refine klMi (rest := [.long 1, .long (Int32.toInt64 p0)]) (As := []) ⟨hx, hb, hml, hown, hts⟩ (c_X11_all l dC dI tI tZ h s.heap.size M r1 er1) (cwV 0 hts gX11_why_X11_all rfl rfl rfl (by decide +kernel) ⟨Nat.le_of_ble_eq_true rfl, Nat.le_of_ble_eq_true rfl⟩) rfl hl.1 rfl (Nat.le_of_ble_eq_true rfl) dX11_why_4 ⟨Nat.zero_le _, Nat.zero_le _⟩ hK hP hD hS hA (fun H locs hP hD hS => ?_)
  refine lv_i2l hx hb dX11_why_7 rfl ?_
  obtain ⟨r2, er2, hf⟩ := bd hf
  refine klEi (rest := []) (As := [.long (Int32.toInt64 p0), .long 1, .long (Int32.toInt64 r1)]) ⟨hx, hb, hml, hown, hts⟩ (c_X11_in l H.size (Int32.toInt64 p0) 1 (Int32.toInt64 r1) r2 er2) (va_cwS 3 hts gX11_why_X11_in rfl rfl rfl (by decide +kernel) ⟨Nat.le_of_ble_eq_true rfl, Nat.le_of_ble_eq_true rfl⟩) rfl hl.1 rfl (Nat.le_of_ble_eq_true rfl) dX11_why_8 ⟨Nat.zero_le _, Nat.zero_le _⟩ hS hA (fun H2 locs hk hS => ?_)
  have hP := kpP hP hk
  generalize H2 = H at hP hS ⊢
  refine lv_if_eq (tgt := 26) hx hb dX11_why_11 (by decide) (fun c11 => ?_) (fun c11 => ?_)
  · have hf := (if_pos c11).symm.trans hf
    refine lv_aload_n hx hb dX11_why_26 rfl (lv_at hl 0 rfl) ?_
    refine lv_bipush (v := (-2)) hx hb dX11_why_27 (by decide) ?_
    obtain ⟨r3, M4, er3, hf⟩ := b2 hf
    refine klMi (rest := []) (As := [.int (-2)]) ⟨hx, hb, hml, hown, hts⟩ (c_X11_bad l dC dI tI tZ h H.size M (-2) r3 M4 er3) (cwV 1 hts gX11_why_X11_bad rfl rfl rfl (by decide +kernel) ⟨Nat.le_of_ble_eq_true rfl, Nat.le_of_ble_eq_true rfl⟩) rfl hl.1 rfl (Nat.le_of_ble_eq_true rfl) dX11_why_29 ⟨Nat.zero_le _, Nat.zero_le _⟩ hK hP hD hS hA (fun H locs hP hD hS => ?_)
    exact rtMi hx hb hr hlocks hK hP hD hS hf dX11_why_32
  · have hf := (if_neg c11).symm.trans hf
    refine lv_iload_n hx hb dX11_why_14 rfl (lv_at hl 2 rfl) ?_
    refine lv_i2l hx hb dX11_why_15 rfl ?_
    refine lv_lconst (v := 0) hx hb dX11_why_16 (by decide) ?_
    refine lv_ldc2 (v := 239) hx hb hown (hts (.constantLong RX11 96 (239)) (by decide +kernel)) dX11_why_17 ?_
    obtain ⟨r5, er5, hf⟩ := bd hf
    refine klEi (rest := []) (As := [.long (Int32.toInt64 p1), .long 0, .long 239]) ⟨hx, hb, hml, hown, hts⟩ (c_X11_in l H.size (Int32.toInt64 p1) 0 239 r5 er5) (va_cwS 3 hts gX11_why_X11_in rfl rfl rfl (by decide +kernel) ⟨Nat.le_of_ble_eq_true rfl, Nat.le_of_ble_eq_true rfl⟩) rfl hl.1 rfl (Nat.le_of_ble_eq_true rfl) dX11_why_20 ⟨Nat.zero_le _, Nat.zero_le _⟩ hS hA (fun H2 locs hk hS => ?_)
    have hP := kpP hP hk
    generalize H2 = H at hP hS ⊢
    refine lv_if_ne (tgt := 33) hx hb dX11_why_23 (by decide) (fun c10 => ?_) (fun c10 => ?_)
    · have hf := (if_neg c10).symm.trans hf
      refine lv_aload_n hx hb dX11_why_33 rfl (lv_at hl 0 rfl) ?_
      obtain ⟨M6, eM6, hf⟩ := bd hf
      refine klMv (rest := []) (As := []) ⟨hx, hb, hml, hown, hts⟩ (c_X11_carryNothing l dC dI tI tZ h H.size M M6 eM6) (cwV 0 hts gX11_why_X11_carryNothing rfl rfl rfl (by decide +kernel) ⟨Nat.le_of_ble_eq_true rfl, Nat.le_of_ble_eq_true rfl⟩) rfl hl.1 rfl (Nat.le_of_ble_eq_true rfl) dX11_why_34 ⟨Nat.zero_le _, Nat.zero_le _⟩ hK hP hD hS hA (fun H locs hP hD hS => ?_)
      refine lv_aload_n hx hb dX11_why_37 rfl (lv_at hl 0 rfl) ?_
      refine lv_iload_n hx hb dX11_why_38 rfl (lv_at hl 1 rfl) ?_
      refine lv_iload_n hx hb dX11_why_39 rfl (lv_at hl 2 rfl) ?_
      obtain ⟨r7, er7, hf⟩ := bd hf
      refine klMi (rest := []) (As := [.int p0, .int p1]) ⟨hx, hb, hml, hown, hts⟩ (c_X11_whyNot l dC dI tI tZ h H.size M6 p0 p1 r7 er7) (cwV 2 hts gX11_why_X11_whyNot rfl rfl rfl (by decide +kernel) ⟨Nat.le_of_ble_eq_true rfl, Nat.le_of_ble_eq_true rfl⟩) rfl hl.1 rfl (Nat.le_of_ble_eq_true rfl) dX11_why_40 ⟨Nat.zero_le _, Nat.zero_le _⟩ hK hP hD hS hA (fun H locs hP hD hS => ?_)
      exact rtMi hx hb hr hlocks hK hP hD hS hf dX11_why_43
    · have hf := (if_pos c10).symm.trans hf
      refine lv_aload_n hx hb dX11_why_26 rfl (lv_at hl 0 rfl) ?_
      refine lv_bipush (v := (-2)) hx hb dX11_why_27 (by decide) ?_
      obtain ⟨r8, M9, er8, hf⟩ := b2 hf
      refine klMi (rest := []) (As := [.int (-2)]) ⟨hx, hb, hml, hown, hts⟩ (c_X11_bad l dC dI tI tZ h H.size M (-2) r8 M9 er8) (cwV 1 hts gX11_why_X11_bad rfl rfl rfl (by decide +kernel) ⟨Nat.le_of_ble_eq_true rfl, Nat.le_of_ble_eq_true rfl⟩) rfl hl.1 rfl (Nat.le_of_ble_eq_true rfl) dX11_why_29 ⟨Nat.zero_le _, Nat.zero_le _⟩ hK hP hD hS hA (fun H locs hP hD hS => ?_)
      exact rtMi hx hb hr hlocks hK hP hD hS hf dX11_why_32

def f_X11_textLong (M : MS)  : Option Int32 :=
  Option.bind (rdI 277 (M 0) 73) (fun x1 => some x1)
def rmX11_textLong : Room := { frames := 0, cells := 0, slots := 0, locals := 0 }
abbrev RRX11_textLong : Room := (headSpec wsX11_textLong rmX11_textLong).room
theorem inX11_textLong : ∀ w ∈ wsX110, w ∈ wsX11_textLong := by decide +kernel
set_option maxHeartbeats 4000000 in
set_option maxRecDepth 100000 in
theorem c_X11_textLong (l : Launch) (dC : Nat → ClassId) (dI : Nat → Nat → Nat) (tI tZ : ClassId) (h : Nat → Nat) (sz : Nat) (M : MS)  (r : Int32) (hf : f_X11_textLong M  = some r) : cMi l yX11_textLong wsX11_textLong rmX11_textLong dC dI tI tZ h sz [.ref (h 0)] M r M := by
  refine Met.ofW (cc := cX11_textLong) (maxL := 1) (ret := (some .int)) (by decide) rfl ?_
  intro p e s m args below meth c s₁ B hml hv
  obtain ⟨hargs, hsz, hP, hK, hD0⟩ := hv
  have hx := B.exec
  have hb := B.bytes
  have hr := B.returns
  have hts := atoms_spec (ws := wsX11_textLong) B.pre
  have hown : s.vm.findClass RX11 = some m.cls := findClass_of_methodNamed B.named
  have hlocks := B.notSynchronized
  have hin := inX11_textLong
  have hsz : s.heap.size = sz := hsz
  subst hsz
  have lk7 : Cond.fieldLink RX11 7 (TX11 0).1 (TX11 0).2.1 (TX11 0).2.2.1 ∈ wsX11_textLong := by decide +kernel
  have hD := hD0.self (sz := s.heap.size)
  generalize hAe : va_A (wM tI tZ h M) s.heap.size = A at hD ⊢
  have hA : ∀ q : Nat, s.heap.size ≤ q → A q := fun q h => by rw [← hAe]; exact Or.inr h
  have hS : va_S A s.heap s.heap [] := va_S.rf
  have hl := lv_entry ([.ref (h 0)]) (n := 1) (Nat.le_of_ble_eq_true rfl)
  rw [show entryFrame m args 1 = entryFrame m ([.ref (h 0)] : List Value).toArray 1 from by rw [hargs], lg_entry_eq]
  generalize (lg_sl ([.ref (h 0)]) ++ List.replicate (1 - (lg_sl ([.ref (h 0)])).length) Slot.unset).toArray = ls at hl ⊢
  have hl : lv_has ls 1 [(0, .ref (h 0))] := hl
  unfold f_X11_textLong at hf
  refine lv_aload_n hx hb dX11_textLong_0 rfl (lv_at hl 0 rfl) ?_
  refine geM hx hb hts hin hown hK hP 0 (by decide) lk7 rfl dX11_textLong_1 ?_
  refine lv_bipush (v := 73) hx hb dX11_textLong_4 (by decide) ?_
  obtain ⟨x1, hix1, ex1, hf⟩ := rd_b hf
  refine va_iald hx hb hK hP 1 0 rfl rfl hix1 dX11_textLong_6 (kI ex1 ?_)
  exact rtMi hx hb hr hlocks hK hP hD hS (congrArg (fun z => some (z, M)) (Option.some.inj hf)) dX11_textLong_7

def f_X11_byteAt (M : MS) (p0 : Int32) : Option Int32 :=
  Option.bind (rdI 277 (M 0) (74 + p0)) (fun x1 => some x1)
def rmX11_byteAt : Room := { frames := 0, cells := 0, slots := 0, locals := 0 }
abbrev RRX11_byteAt : Room := (headSpec wsX11_byteAt rmX11_byteAt).room
theorem inX11_byteAt : ∀ w ∈ wsX110, w ∈ wsX11_byteAt := by decide +kernel
set_option maxHeartbeats 4000000 in
set_option maxRecDepth 100000 in
theorem c_X11_byteAt (l : Launch) (dC : Nat → ClassId) (dI : Nat → Nat → Nat) (tI tZ : ClassId) (h : Nat → Nat) (sz : Nat) (M : MS) (p0 : Int32) (r : Int32) (hf : f_X11_byteAt M p0 = some r) : cMi l yX11_byteAt wsX11_byteAt rmX11_byteAt dC dI tI tZ h sz [.ref (h 0), .int p0] M r M := by
  refine Met.ofW (cc := cX11_byteAt) (maxL := 2) (ret := (some .int)) (by decide) rfl ?_
  intro p e s m args below meth c s₁ B hml hv
  obtain ⟨hargs, hsz, hP, hK, hD0⟩ := hv
  have hx := B.exec
  have hb := B.bytes
  have hr := B.returns
  have hts := atoms_spec (ws := wsX11_byteAt) B.pre
  have hown : s.vm.findClass RX11 = some m.cls := findClass_of_methodNamed B.named
  have hlocks := B.notSynchronized
  have hin := inX11_byteAt
  have hsz : s.heap.size = sz := hsz
  subst hsz
  have lk7 : Cond.fieldLink RX11 7 (TX11 0).1 (TX11 0).2.1 (TX11 0).2.2.1 ∈ wsX11_byteAt := by decide +kernel
  have hD := hD0.self (sz := s.heap.size)
  generalize hAe : va_A (wM tI tZ h M) s.heap.size = A at hD ⊢
  have hA : ∀ q : Nat, s.heap.size ≤ q → A q := fun q h => by rw [← hAe]; exact Or.inr h
  have hS : va_S A s.heap s.heap [] := va_S.rf
  have hl := lv_entry ([.ref (h 0), .int p0]) (n := 2) (Nat.le_of_ble_eq_true rfl)
  rw [show entryFrame m args 2 = entryFrame m ([.ref (h 0), .int p0] : List Value).toArray 2 from by rw [hargs], lg_entry_eq]
  generalize (lg_sl ([.ref (h 0), .int p0]) ++ List.replicate (2 - (lg_sl ([.ref (h 0), .int p0])).length) Slot.unset).toArray = ls at hl ⊢
  have hl : lv_has ls 2 [(0, .ref (h 0)), (1, .int p0)] := hl
  unfold f_X11_byteAt at hf
  refine lv_aload_n hx hb dX11_byteAt_0 rfl (lv_at hl 0 rfl) ?_
  refine geM hx hb hts hin hown hK hP 0 (by decide) lk7 rfl dX11_byteAt_1 ?_
  refine lv_bipush (v := 74) hx hb dX11_byteAt_4 (by decide) ?_
  refine lv_iload_n hx hb dX11_byteAt_6 rfl (lv_at hl 1 rfl) ?_
  refine lv_iadd hx hb dX11_byteAt_7 ?_
  obtain ⟨x1, hix1, ex1, hf⟩ := rd_b hf
  refine va_iald hx hb hK hP 1 0 rfl rfl hix1 dX11_byteAt_8 (kI ex1 ?_)
  exact rtMi hx hb hr hlocks hK hP hD hS (congrArg (fun z => some (z, M)) (Option.some.inj hf)) dX11_byteAt_9

def k_X11_type_41 (M4 : MS) : Option (Int32 × MS) :=
  Option.bind (f_X11_textLong M4) (fun r5 => some ((r5, M4)))
def b_X11_type_41 (p0 : Int64) (y6 : Int32) (M7 : MS) : Option ((Int32 × MS) ⊕ MS) :=
  (if y6 < 0 then (some (Sum.inr M7)) else (Option.bind (f_X11_textLong M7) (fun r8 => Option.bind (wrM M7 0 277 (74 + r8) (Int64.toInt32 (((p0.toUInt64 >>> ((8 * y6).toInt64.toUInt64 &&& Int64.toUInt64 63)).toInt64) &&& 255))) (fun M9 => Option.bind (rdI 277 (M9 0) 73) (fun x10 => Option.bind (wrM M9 0 277 73 (x10 + 1)) (fun M11 => Option.bind (some (y6 + (-1))) (fun x12 => some (Sum.inl (x12, M11)))))))))
def f_X11_type (M : MS) (p0 : Int64) (p1 : Int32) : Option (Int32 × MS) :=
  Option.bind (f_X11_in (Int32.toInt64 p1) 1 8) (fun r1 => (if r1 = 0 then (bi2 (f_X11_bad M (-2)) (fun r17 M18 => some ((r17, M18)))) else (Option.bind (f_X11_textLong M) (fun r2 => (if (r2 + p1) ≤ 200 then (Option.bind (some (p1 - 1)) (fun x3 => Option.bind (lp (fun s => b_X11_type_41 p0 s.1 s.2) FU (x3, M)) (fun s => k_X11_type_41 s))) else (bi2 (f_X11_full M) (fun r14 M15 => some ((r14, M15)))))))))
def rmX11_type : Room := { frames := 1, cells := 0, slots := 0, locals := 25 }
abbrev RRX11_type : Room := (headSpec wsX11_type rmX11_type).room
theorem inX11_type : ∀ w ∈ wsX110, w ∈ wsX11_type := by decide +kernel
set_option maxHeartbeats 4000000 in
set_option maxRecDepth 100000 in
theorem c_X11_type (l : Launch) (dC : Nat → ClassId) (dI : Nat → Nat → Nat) (tI tZ : ClassId) (h : Nat → Nat) (sz : Nat) (M : MS) (p0 : Int64) (p1 : Int32) (r : Int32) (M' : MS) (hf : f_X11_type M p0 p1 = some (r, M')) : cMi l yX11_type wsX11_type rmX11_type dC dI tI tZ h sz [.ref (h 0), .long p0, .int p1] M r M' := by
  refine Met.ofW (cc := cX11_type) (maxL := 5) (ret := (some .int)) (by decide) rfl ?_
  intro p e s m args below meth c s₁ B hml hv
  obtain ⟨hargs, hsz, hP, hK, hD0⟩ := hv
  have hx := B.exec
  have hb := B.bytes
  have hr := B.returns
  have hts := atoms_spec (ws := wsX11_type) B.pre
  have hown : s.vm.findClass RX11 = some m.cls := findClass_of_methodNamed B.named
  have hlocks := B.notSynchronized
  have hin := inX11_type
  have hsz : s.heap.size = sz := hsz
  subst hsz
  have lk7 : Cond.fieldLink RX11 7 (TX11 0).1 (TX11 0).2.1 (TX11 0).2.2.1 ∈ wsX11_type := by decide +kernel
  have hD := hD0.self (sz := s.heap.size)
  generalize hAe : va_A (wM tI tZ h M) s.heap.size = A at hD ⊢
  have hA : ∀ q : Nat, s.heap.size ≤ q → A q := fun q h => by rw [← hAe]; exact Or.inr h
  have hS : va_S A s.heap s.heap [] := va_S.rf
  have hl := lv_entry ([.ref (h 0), .long p0, .int p1]) (n := 5) (Nat.le_of_ble_eq_true rfl)
  rw [show entryFrame m args 5 = entryFrame m ([.ref (h 0), .long p0, .int p1] : List Value).toArray 5 from by rw [hargs], lg_entry_eq]
  generalize (lg_sl ([.ref (h 0), .long p0, .int p1]) ++ List.replicate (5 - (lg_sl ([.ref (h 0), .long p0, .int p1])).length) Slot.unset).toArray = ls at hl ⊢
  have hl : lv_has ls 5 [(0, .ref (h 0)), (1, .long p0), (3, .int p1)] := hl
  unfold f_X11_type at hf
  refine lv_iload_n hx hb dX11_type_0 rfl (lv_at hl 2 rfl) ?_
  refine lv_i2l hx hb dX11_type_1 rfl ?_
  refine lv_lconst (v := 1) hx hb dX11_type_2 (by decide) ?_
  refine lv_ldc2 (v := 8) hx hb hown (hts (.constantLong RX11 134 (8)) (by decide +kernel)) dX11_type_3 ?_
  obtain ⟨r1, er1, hf⟩ := bd hf
  refine klEi (rest := []) (As := [.long (Int32.toInt64 p1), .long 1, .long 8]) ⟨hx, hb, hml, hown, hts⟩ (c_X11_in l s.heap.size (Int32.toInt64 p1) 1 8 r1 er1) (va_cwS 3 hts gX11_type_X11_in rfl rfl rfl (by decide +kernel) ⟨Nat.le_of_ble_eq_true rfl, Nat.le_of_ble_eq_true rfl⟩) rfl hl.1 rfl (Nat.le_of_ble_eq_true rfl) dX11_type_6 ⟨Nat.zero_le _, Nat.zero_le _⟩ hS hA (fun H2 locs hk hS => ?_)
  have hP := kpP hP hk
  generalize H2 = H at hP hS ⊢
  refine lv_if_ne (tgt := 19) hx hb dX11_type_9 (by decide) (fun c19 => ?_) (fun c19 => ?_)
  · have hf := (if_neg c19).symm.trans hf
    refine lv_aload_n hx hb dX11_type_19 rfl (lv_at hl 0 rfl) ?_
    obtain ⟨r2, er2, hf⟩ := bd hf
    refine klMi (rest := []) (As := []) ⟨hx, hb, hml, hown, hts⟩ (c_X11_textLong l dC dI tI tZ h H.size M r2 er2) (cwV 0 hts gX11_type_X11_textLong rfl rfl rfl (by decide +kernel) ⟨Nat.le_of_ble_eq_true rfl, Nat.le_of_ble_eq_true rfl⟩) rfl hl.1 rfl (Nat.le_of_ble_eq_true rfl) dX11_type_20 ⟨Nat.zero_le _, Nat.zero_le _⟩ hK hP hD hS hA (fun H locs hP hD hS => ?_)
    refine lv_iload_n hx hb dX11_type_23 rfl (lv_at hl 2 rfl) ?_
    refine lv_iadd hx hb dX11_type_24 ?_
    refine lv_sipush (v := 200) hx hb dX11_type_25 (by decide) ?_
    refine lv_icmp_le (tgt := 36) hx hb dX11_type_28 (by decide) (fun c16 => ?_) (fun c16 => ?_)
    · have hf := (if_pos c16).symm.trans hf
      refine lv_iload_n hx hb dX11_type_36 rfl (lv_at hl 2 rfl) ?_
      refine lv_iconst (v := 1) hx hb dX11_type_37 (by decide) ?_
      refine lv_isub hx hb dX11_type_38 ?_
      refine lv_topi (fun x3 ex3 => ?_)
      have hf := bs ex3 hf
      refine lv_istore (lv' := [(4, .int x3), (0, .ref (h 0)), (1, .long p0), (3, .int p1)]) hx hb dX11_type_39 hl (by decide) rfl (fun ls hl => ?_)
      have K41 : ∀ (M4 : MS) (H : Heap) (locs : List Loc) (ls : Array Slot), k_X11_type_41 M4 = some (r, M') → va_P (dC, dI) vwCl (wM tI tZ h M4) H → va_D A (wM tI tZ h M4) → va_S A s.heap H locs → lv_has ls 5 [(0, .ref (h 0))] → W p l e RRX11_type s m args below meth c H locs 0 0 (MQ below (qcMi dC dI tI tZ A h r M') args s 0 0 A) (F0 m 87 ls []) := by
        intro M4 H locs ls hf hP hD hS hl
        unfold k_X11_type_41 at hf
        refine lv_aload_n hx hb dX11_type_87 rfl (lv_at hl 0 rfl) ?_
        obtain ⟨r5, er5, hf⟩ := bd hf
        refine klMi (rest := []) (As := []) ⟨hx, hb, hml, hown, hts⟩ (c_X11_textLong l dC dI tI tZ h H.size M4 r5 er5) (cwV 0 hts gX11_type_X11_textLong rfl rfl rfl (by decide +kernel) ⟨Nat.le_of_ble_eq_true rfl, Nat.le_of_ble_eq_true rfl⟩) rfl hl.1 rfl (Nat.le_of_ble_eq_true rfl) dX11_type_88 ⟨Nat.zero_le _, Nat.zero_le _⟩ hK hP hD hS hA (fun H locs hP hD hS => ?_)
        exact rtMi hx hb hr hlocks hK hP hD hS hf dX11_type_91
      obtain ⟨z41, ez41, hz41⟩ := bd hf
      have L41 : ∀ (n : Nat) (y6 : Int32) (M7 : MS) (H : Heap) (locs : List Loc) (ls : Array Slot), lp (fun s => b_X11_type_41 p0 s.1 s.2) n (y6, M7) = some z41 → va_P (dC, dI) vwCl (wM tI tZ h M7) H → va_D A (wM tI tZ h M7) → va_S A s.heap H locs → lv_has ls 5 [(0, .ref (h 0)), (1, .long p0), (4, .int y6)] → W p l e RRX11_type s m args below meth c H locs 0 0 (MQ below (qcMi dC dI tI tZ A h r M') args s 0 0 A) (F0 m 41 ls []) := by
        intro n
        induction n with
        | zero => intro y6 M7 H locs ls hf; exact lp_z hf
        | succ n ih41 =>
          intro y6 M7 H locs ls hf hP hD hS hl
          obtain ⟨q41, hf, hq41⟩ := lp_i hf
          have hf : b_X11_type_41 p0 y6 M7 = some q41 := hf
          unfold b_X11_type_41 at hf
          refine lv_iload hx hb dX11_type_41 (lv_at hl 2 rfl) ?_
          refine lv_if_lt (tgt := 87) hx hb dX11_type_43 (by decide) (fun c13 => ?_) (fun c13 => ?_)
          · have hf := (if_pos c13).symm.trans hf
            exact K41 M7 _ _ _ (lp_x (k := (fun s => k_X11_type_41 s)) (lp_r hf hq41) hz41) hP hD hS (lv_sub hl [0] rfl)
          · have hf := (if_neg c13).symm.trans hf
            refine lv_aload_n hx hb dX11_type_46 rfl (lv_at hl 0 rfl) ?_
            refine geM hx hb hts hin hown hK hP 0 (by decide) lk7 rfl dX11_type_47 ?_
            refine lv_bipush (v := 74) hx hb dX11_type_50 (by decide) ?_
            refine lv_aload_n hx hb dX11_type_52 rfl (lv_at hl 0 rfl) ?_
            obtain ⟨r8, er8, hf⟩ := bd hf
            refine klMi (rest := [.int 74, .ref (h 1)]) (As := []) ⟨hx, hb, hml, hown, hts⟩ (c_X11_textLong l dC dI tI tZ h H.size M7 r8 er8) (cwV 0 hts gX11_type_X11_textLong rfl rfl rfl (by decide +kernel) ⟨Nat.le_of_ble_eq_true rfl, Nat.le_of_ble_eq_true rfl⟩) rfl hl.1 rfl (Nat.le_of_ble_eq_true rfl) dX11_type_53 ⟨Nat.zero_le _, Nat.zero_le _⟩ hK hP hD hS hA (fun H locs hP hD hS => ?_)
            refine lv_iadd hx hb dX11_type_56 ?_
            refine lv_lload_n hx hb dX11_type_57 rfl (lv_at hl 1 rfl) ?_
            refine lv_bipush (v := 8) hx hb dX11_type_58 (by decide) ?_
            refine lv_iload hx hb dX11_type_60 (lv_at hl 2 rfl) ?_
            refine lv_imul hx hb dX11_type_62 ?_
            refine lv_lushr hx hb dX11_type_63 rfl ?_
            refine lv_ldc2 (v := 255) hx hb hown (hts (.constantLong RX11 139 (255)) (by decide +kernel)) dX11_type_64 ?_
            refine lv_land hx hb dX11_type_67 ?_
            refine lv_l2i hx hb dX11_type_68 rfl ?_
            obtain ⟨M9, hiM9, eM9, hf⟩ := wr_b hf
            refine va_iast hx hb hK hP hD hS 1 0 rfl rfl hiM9 dX11_type_69 (fun H locs hP hD hS => ?_)
            have hP : va_P (dC, dI) vwCl (wM tI tZ h M9) H := by rw [eM9]; exact hP
            have hD : va_D A (wM tI tZ h M9) := by rw [eM9]; exact hD
            refine lv_aload_n hx hb dX11_type_70 rfl (lv_at hl 0 rfl) ?_
            refine geM hx hb hts hin hown hK hP 0 (by decide) lk7 rfl dX11_type_71 ?_
            refine lv_bipush (v := 73) hx hb dX11_type_74 (by decide) ?_
            refine lv_dup2_11 hx hb dX11_type_76 rfl rfl ?_
            obtain ⟨x10, hix10, ex10, hf⟩ := rd_b hf
            refine va_iald hx hb hK hP 1 0 rfl rfl hix10 dX11_type_77 (kI ex10 ?_)
            refine lv_iconst (v := 1) hx hb dX11_type_78 (by decide) ?_
            refine lv_iadd hx hb dX11_type_79 ?_
            obtain ⟨M11, hiM11, eM11, hf⟩ := wr_b hf
            refine va_iast hx hb hK hP hD hS 1 0 rfl rfl hiM11 dX11_type_80 (fun H locs hP hD hS => ?_)
            have hP : va_P (dC, dI) vwCl (wM tI tZ h M11) H := by rw [eM11]; exact hP
            have hD : va_D A (wM tI tZ h M11) := by rw [eM11]; exact hD
            obtain ⟨x12, ex12, hf⟩ := bn hf
            refine lv_iinc (v := x12) (lv' := [(4, .int x12), (0, .ref (h 0)), (1, .long p0)]) hx hb dX11_type_81 hl (k := 2) rfl (by rw [ex12]; rfl) (by decide) rfl (fun ls hl => ?_)
            refine lv_goto (tgt := 41) hx hb dX11_type_84 (by decide) ?_
            exact ih41 x12 M11 _ _ _ (lp_l hf hq41) hP hD hS (lv_sub hl [1, 2, 0] rfl)
      exact L41 FU x3 M _ _ _ ez41 hP hD hS (lv_sub hl [1, 2, 0] rfl)
    · have hf := (if_neg c16).symm.trans hf
      refine lv_aload_n hx hb dX11_type_31 rfl (lv_at hl 0 rfl) ?_
      obtain ⟨r14, M15, er14, hf⟩ := b2 hf
      refine klMi (rest := []) (As := []) ⟨hx, hb, hml, hown, hts⟩ (c_X11_full l dC dI tI tZ h H.size M r14 M15 er14) (cwV 0 hts gX11_type_X11_full rfl rfl rfl (by decide +kernel) ⟨Nat.le_of_ble_eq_true rfl, Nat.le_of_ble_eq_true rfl⟩) rfl hl.1 rfl (Nat.le_of_ble_eq_true rfl) dX11_type_32 ⟨Nat.zero_le _, Nat.zero_le _⟩ hK hP hD hS hA (fun H locs hP hD hS => ?_)
      exact rtMi hx hb hr hlocks hK hP hD hS hf dX11_type_35
  · have hf := (if_pos c19).symm.trans hf
    refine lv_aload_n hx hb dX11_type_12 rfl (lv_at hl 0 rfl) ?_
    refine lv_bipush (v := (-2)) hx hb dX11_type_13 (by decide) ?_
    obtain ⟨r17, M18, er17, hf⟩ := b2 hf
    refine klMi (rest := []) (As := [.int (-2)]) ⟨hx, hb, hml, hown, hts⟩ (c_X11_bad l dC dI tI tZ h H.size M (-2) r17 M18 er17) (cwV 1 hts gX11_type_X11_bad rfl rfl rfl (by decide +kernel) ⟨Nat.le_of_ble_eq_true rfl, Nat.le_of_ble_eq_true rfl⟩) rfl hl.1 rfl (Nat.le_of_ble_eq_true rfl) dX11_type_15 ⟨Nat.zero_le _, Nat.zero_le _⟩ hK hP hD hS hA (fun H locs hP hD hS => ?_)
    exact rtMi hx hb hr hlocks hK hP hD hS hf dX11_type_18

def f_X11_clear (M : MS)  : Option (Int32 × MS) :=
  Option.bind (f_X11_textLong M) (fun r1 => Option.bind (wrM M 0 277 73 0) (fun M2 => some ((r1, M2))))
def rmX11_clear : Room := { frames := 1, cells := 0, slots := 0, locals := 20 }
abbrev RRX11_clear : Room := (headSpec wsX11_clear rmX11_clear).room
theorem inX11_clear : ∀ w ∈ wsX110, w ∈ wsX11_clear := by decide +kernel
set_option maxHeartbeats 4000000 in
set_option maxRecDepth 100000 in
theorem c_X11_clear (l : Launch) (dC : Nat → ClassId) (dI : Nat → Nat → Nat) (tI tZ : ClassId) (h : Nat → Nat) (sz : Nat) (M : MS)  (r : Int32) (M' : MS) (hf : f_X11_clear M  = some (r, M')) : cMi l yX11_clear wsX11_clear rmX11_clear dC dI tI tZ h sz [.ref (h 0)] M r M' := by
  refine Met.ofW (cc := cX11_clear) (maxL := 2) (ret := (some .int)) (by decide) rfl ?_
  intro p e s m args below meth c s₁ B hml hv
  obtain ⟨hargs, hsz, hP, hK, hD0⟩ := hv
  have hx := B.exec
  have hb := B.bytes
  have hr := B.returns
  have hts := atoms_spec (ws := wsX11_clear) B.pre
  have hown : s.vm.findClass RX11 = some m.cls := findClass_of_methodNamed B.named
  have hlocks := B.notSynchronized
  have hin := inX11_clear
  have hsz : s.heap.size = sz := hsz
  subst hsz
  have lk7 : Cond.fieldLink RX11 7 (TX11 0).1 (TX11 0).2.1 (TX11 0).2.2.1 ∈ wsX11_clear := by decide +kernel
  have hD := hD0.self (sz := s.heap.size)
  generalize hAe : va_A (wM tI tZ h M) s.heap.size = A at hD ⊢
  have hA : ∀ q : Nat, s.heap.size ≤ q → A q := fun q h => by rw [← hAe]; exact Or.inr h
  have hS : va_S A s.heap s.heap [] := va_S.rf
  have hl := lv_entry ([.ref (h 0)]) (n := 2) (Nat.le_of_ble_eq_true rfl)
  rw [show entryFrame m args 2 = entryFrame m ([.ref (h 0)] : List Value).toArray 2 from by rw [hargs], lg_entry_eq]
  generalize (lg_sl ([.ref (h 0)]) ++ List.replicate (2 - (lg_sl ([.ref (h 0)])).length) Slot.unset).toArray = ls at hl ⊢
  have hl : lv_has ls 2 [(0, .ref (h 0))] := hl
  unfold f_X11_clear at hf
  refine lv_aload_n hx hb dX11_clear_0 rfl (lv_at hl 0 rfl) ?_
  obtain ⟨r1, er1, hf⟩ := bd hf
  refine klMi (rest := []) (As := []) ⟨hx, hb, hml, hown, hts⟩ (c_X11_textLong l dC dI tI tZ h s.heap.size M r1 er1) (cwV 0 hts gX11_clear_X11_textLong rfl rfl rfl (by decide +kernel) ⟨Nat.le_of_ble_eq_true rfl, Nat.le_of_ble_eq_true rfl⟩) rfl hl.1 rfl (Nat.le_of_ble_eq_true rfl) dX11_clear_1 ⟨Nat.zero_le _, Nat.zero_le _⟩ hK hP hD hS hA (fun H locs hP hD hS => ?_)
  refine lv_istore_n (lv' := [(1, .int r1), (0, .ref (h 0))]) hx hb dX11_clear_4 rfl hl (by decide) rfl (fun ls hl => ?_)
  refine lv_aload_n hx hb dX11_clear_5 rfl (lv_at hl 1 rfl) ?_
  refine geM hx hb hts hin hown hK hP 0 (by decide) lk7 rfl dX11_clear_6 ?_
  refine lv_bipush (v := 73) hx hb dX11_clear_9 (by decide) ?_
  refine lv_iconst (v := 0) hx hb dX11_clear_11 (by decide) ?_
  obtain ⟨M2, hiM2, eM2, hf⟩ := wr_b hf
  refine va_iast hx hb hK hP hD hS 1 0 rfl rfl hiM2 dX11_clear_12 (fun H locs hP hD hS => ?_)
  have hP : va_P (dC, dI) vwCl (wM tI tZ h M2) H := by rw [eM2]; exact hP
  have hD : va_D A (wM tI tZ h M2) := by rw [eM2]; exact hD
  refine lv_iload_n hx hb dX11_clear_13 rfl (lv_at hl 0 rfl) ?_
  exact rtMi hx hb hr hlocks hK hP hD hS hf dX11_clear_14

def f_X11_isSmall (p0 : Int32) : Option Int32 :=
  Option.bind (f_X11_in (Int32.toInt64 p0) 97 122) (fun r1 => Option.bind (zr r1) (fun z2 => some z2))
def rmX11_isSmall : Room := { frames := 1, cells := 0, slots := 0, locals := 25 }
abbrev RRX11_isSmall : Room := (headSpec wsX11_isSmall rmX11_isSmall).room
set_option maxHeartbeats 4000000 in
set_option maxRecDepth 100000 in
theorem c_X11_isSmall (l : Launch) (sz : Nat) (p0 : Int32) (r : Int32) (hf : f_X11_isSmall p0 = some r) : cEi l yX11_isSmall wsX11_isSmall rmX11_isSmall sz [.int p0] r := by
  refine Met.ofW (cc := cX11_isSmall) (maxL := 1) (ret := (some .boolean)) (by decide) rfl ?_
  intro p e s m args below meth c s₁ B hml hv
  obtain ⟨hargs, hsz⟩ := hv
  have hx := B.exec
  have hb := B.bytes
  have hr := B.returns
  have hts := atoms_spec (ws := wsX11_isSmall) B.pre
  have hown : s.vm.findClass RX11 = some m.cls := findClass_of_methodNamed B.named
  have hlocks := B.notSynchronized
  have hsz : s.heap.size = sz := hsz
  subst hsz
  obtain ⟨A, hAe⟩ : ∃ A : Nat → Prop, A = fun q => s.heap.size ≤ q := ⟨_, rfl⟩
  rw [← hAe]
  have hA : ∀ q : Nat, s.heap.size ≤ q → A q := fun q h => by rw [hAe]; exact h
  have hS : va_S A s.heap s.heap [] := va_S.rf
  have hl := lv_entry ([.int p0]) (n := 1) (Nat.le_of_ble_eq_true rfl)
  rw [show entryFrame m args 1 = entryFrame m ([.int p0] : List Value).toArray 1 from by rw [hargs], lg_entry_eq]
  generalize (lg_sl ([.int p0]) ++ List.replicate (1 - (lg_sl ([.int p0])).length) Slot.unset).toArray = ls at hl ⊢
  have hl : lv_has ls 1 [(0, .int p0)] := hl
  unfold f_X11_isSmall at hf
  refine lv_iload_n hx hb dX11_isSmall_0 rfl (lv_at hl 0 rfl) ?_
  refine lv_i2l hx hb dX11_isSmall_1 rfl ?_
  refine lv_ldc2 (v := 97) hx hb hown (hts (.constantLong RX11 141 (97)) (by decide +kernel)) dX11_isSmall_2 ?_
  refine lv_ldc2 (v := 122) hx hb hown (hts (.constantLong RX11 143 (122)) (by decide +kernel)) dX11_isSmall_5 ?_
  obtain ⟨r1, er1, hf⟩ := bd hf
  refine klEi (rest := []) (As := [.long (Int32.toInt64 p0), .long 97, .long 122]) ⟨hx, hb, hml, hown, hts⟩ (c_X11_in l s.heap.size (Int32.toInt64 p0) 97 122 r1 er1) (va_cwS 3 hts gX11_isSmall_X11_in rfl rfl rfl (by decide +kernel) ⟨Nat.le_of_ble_eq_true rfl, Nat.le_of_ble_eq_true rfl⟩) rfl hl.1 rfl (Nat.le_of_ble_eq_true rfl) dX11_isSmall_8 ⟨Nat.zero_le _, Nat.zero_le _⟩ hS hA (fun H2 locs hk hS => ?_)
  generalize H2 = H at hS ⊢
  obtain ⟨hnz2, hf⟩ := zr_b hf
  exact rtEz hx hb hr hlocks hS hnz2 hf dX11_isSmall_11

def f_X11_isFigure (p0 : Int32) : Option Int32 :=
  Option.bind (f_X11_in (Int32.toInt64 p0) 48 57) (fun r1 => Option.bind (zr r1) (fun z2 => some z2))
def rmX11_isFigure : Room := { frames := 1, cells := 0, slots := 0, locals := 25 }
abbrev RRX11_isFigure : Room := (headSpec wsX11_isFigure rmX11_isFigure).room
set_option maxHeartbeats 4000000 in
set_option maxRecDepth 100000 in
theorem c_X11_isFigure (l : Launch) (sz : Nat) (p0 : Int32) (r : Int32) (hf : f_X11_isFigure p0 = some r) : cEi l yX11_isFigure wsX11_isFigure rmX11_isFigure sz [.int p0] r := by
  refine Met.ofW (cc := cX11_isFigure) (maxL := 1) (ret := (some .boolean)) (by decide) rfl ?_
  intro p e s m args below meth c s₁ B hml hv
  obtain ⟨hargs, hsz⟩ := hv
  have hx := B.exec
  have hb := B.bytes
  have hr := B.returns
  have hts := atoms_spec (ws := wsX11_isFigure) B.pre
  have hown : s.vm.findClass RX11 = some m.cls := findClass_of_methodNamed B.named
  have hlocks := B.notSynchronized
  have hsz : s.heap.size = sz := hsz
  subst hsz
  obtain ⟨A, hAe⟩ : ∃ A : Nat → Prop, A = fun q => s.heap.size ≤ q := ⟨_, rfl⟩
  rw [← hAe]
  have hA : ∀ q : Nat, s.heap.size ≤ q → A q := fun q h => by rw [hAe]; exact h
  have hS : va_S A s.heap s.heap [] := va_S.rf
  have hl := lv_entry ([.int p0]) (n := 1) (Nat.le_of_ble_eq_true rfl)
  rw [show entryFrame m args 1 = entryFrame m ([.int p0] : List Value).toArray 1 from by rw [hargs], lg_entry_eq]
  generalize (lg_sl ([.int p0]) ++ List.replicate (1 - (lg_sl ([.int p0])).length) Slot.unset).toArray = ls at hl ⊢
  have hl : lv_has ls 1 [(0, .int p0)] := hl
  unfold f_X11_isFigure at hf
  refine lv_iload_n hx hb dX11_isFigure_0 rfl (lv_at hl 0 rfl) ?_
  refine lv_i2l hx hb dX11_isFigure_1 rfl ?_
  refine lv_ldc2 (v := 48) hx hb hown (hts (.constantLong RX11 145 (48)) (by decide +kernel)) dX11_isFigure_2 ?_
  refine lv_ldc2 (v := 57) hx hb hown (hts (.constantLong RX11 147 (57)) (by decide +kernel)) dX11_isFigure_5 ?_
  obtain ⟨r1, er1, hf⟩ := bd hf
  refine klEi (rest := []) (As := [.long (Int32.toInt64 p0), .long 48, .long 57]) ⟨hx, hb, hml, hown, hts⟩ (c_X11_in l s.heap.size (Int32.toInt64 p0) 48 57 r1 er1) (va_cwS 3 hts gX11_isFigure_X11_in rfl rfl rfl (by decide +kernel) ⟨Nat.le_of_ble_eq_true rfl, Nat.le_of_ble_eq_true rfl⟩) rfl hl.1 rfl (Nat.le_of_ble_eq_true rfl) dX11_isFigure_8 ⟨Nat.zero_le _, Nat.zero_le _⟩ hS hA (fun H2 locs hk hS => ?_)
  generalize H2 = H at hS ⊢
  obtain ⟨hnz2, hf⟩ := zr_b hf
  exact rtEz hx hb hr hlocks hS hnz2 hf dX11_isFigure_11

def k_X11_look_215 (M14 : MS) : Option MS :=
  (if (M14 7 0) = 2 then ((if (M14 6 0) ≤ 3 then (Option.bind (some (va_up M14 7 (fun _ => M14 7 0))) (fun M16 => some M16)) else (Option.bind (some (va_up M14 7 (fun _ => 4))) (fun M17 => some M17)))) else (Option.bind (some (va_up M14 7 (fun _ => M14 7 0))) (fun M15 => some M15)))
def b_X11_look_215 (y20 : Int32) (M21 : MS) : Option ((Int32 × MS) ⊕ MS) :=
  (if (M21 6 0) ≤ y20 then (some (Sum.inr M21)) else ((if 3 ≤ y20 then (some (Sum.inr M21)) else ((if (M21 7 0) = 2 then (Option.bind (f_X11_byteAt M21 ((M21 5 0) + y20)) (fun r22 => Option.bind (some (va_up M21 8 (fun _ => ((10 * (M21 8 0)) + r22) - 48))) (fun M23 => Option.bind (some (y20 + 1)) (fun x24 => some (Sum.inl (x24, M23)))))) else (some (Sum.inr M21)))))))
def k_X11_look_134 (M13 : MS) : Option MS :=
  Option.bind (lp (fun s => b_X11_look_215 s.1 s.2) FU (0, M13)) (fun s => k_X11_look_215 s)
def j_X11_look_190 (M29 : MS) (k32 : Int32) : Option ((Int32 × MS) ⊕ MS) :=
  (if k32 = 0 then (Option.bind (some (va_up M29 6 (fun _ => (M29 6 0) + 0))) (fun M33 => some (Sum.inl (k32, M33)))) else (Option.bind (some (va_up M29 6 (fun _ => (M29 6 0) + 1))) (fun M34 => some (Sum.inl (k32, M34)))))
def b_X11_look_134 (y28 : Int32) (M29 : MS) : Option ((Int32 × MS) ⊕ MS) :=
  (if y28 = 0 then (some (Sum.inr M29)) else (Option.bind (f_X11_textLong M29) (fun r30 => (if r30 ≤ ((M29 5 0) + (M29 6 0)) then (some (Sum.inr M29)) else (Option.bind (f_X11_byteAt M29 ((M29 5 0) + (M29 6 0))) (fun r31 => (if (M29 7 0) = 1 then (Option.bind (f_X11_isSmall r31) (fun r37 => j_X11_look_190 M29 r37)) else (Option.bind (f_X11_isFigure r31) (fun r36 => j_X11_look_190 M29 r36)))))))))
def j_X11_look_133 (M11 : MS) (k12 : Int32) : Option MS :=
  Option.bind (lp (fun s => b_X11_look_134 s.1 s.2) FU (k12, M11)) (fun s => k_X11_look_134 s)
def j_X11_look_112 (M5 : MS) (k9 : Int32) : Option MS :=
  Option.bind (some (va_up M5 7 (fun _ => k9))) (fun M10 => Option.bind (some (va_up M10 6 (fun _ => 1))) (fun M11 => (if 3 ≤ (M11 7 0) then (j_X11_look_133 M11 0) else (j_X11_look_133 M11 1))))
def k_X11_look_5 (M2 : MS) : Option MS :=
  Option.bind (some (va_up M2 6 (fun _ => 0))) (fun M3 => Option.bind (some (va_up M3 7 (fun _ => 0))) (fun M4 => Option.bind (some (va_up M4 8 (fun _ => 0))) (fun M5 => Option.bind (f_X11_textLong M5) (fun r6 => (if (M5 5 0) = r6 then (some M5) else (Option.bind (f_X11_byteAt M5 (M5 5 0)) (fun r7 => Option.bind (f_X11_isSmall r7) (fun r8 => (if r8 = 0 then (Option.bind (f_X11_isFigure r7) (fun r42 => (if r42 = 0 then ((if r7 = 59 then (j_X11_look_112 M5 3) else (j_X11_look_112 M5 4))) else (j_X11_look_112 M5 2)))) else (j_X11_look_112 M5 1))))))))))
def b_X11_look_5 (M47 : MS) : Option (MS ⊕ MS) :=
  Option.bind (f_X11_textLong M47) (fun r48 => (if r48 ≤ (M47 5 0) then (some (Sum.inr M47)) else (Option.bind (f_X11_byteAt M47 (M47 5 0)) (fun r49 => (if r49 = 32 then (Option.bind (some (va_up M47 5 (fun _ => (M47 5 0) + 1))) (fun M50 => some (Sum.inl M50))) else (some (Sum.inr M47)))))))
def f_X11_look (M : MS) (p0 : Int32) : Option MS :=
  Option.bind (some (va_up M 5 (fun _ => p0))) (fun M1 => Option.bind (lp (fun s => b_X11_look_5 s) FU M1) (fun s => k_X11_look_5 s))
def rmX11_look : Room := { frames := 2, cells := 0, slots := 0, locals := 45 }
abbrev RRX11_look : Room := (headSpec wsX11_look rmX11_look).room
theorem inX11_look : ∀ w ∈ wsX110, w ∈ wsX11_look := by decide +kernel
set_option maxHeartbeats 4000000 in
set_option maxRecDepth 100000 in
theorem c_X11_look (l : Launch) (dC : Nat → ClassId) (dI : Nat → Nat → Nat) (tI tZ : ClassId) (h : Nat → Nat) (sz : Nat) (M : MS) (p0 : Int32) (M' : MS) (hf : f_X11_look M p0 = some M') : cMv l yX11_look wsX11_look rmX11_look dC dI tI tZ h sz [.ref (h 0), .int p0] M M' := by
  refine Met.ofW (cc := cX11_look) (maxL := 5) (ret := none) (by decide) rfl ?_
  intro p e s m args below meth c s₁ B hml hv
  obtain ⟨hargs, hsz, hP, hK, hD0⟩ := hv
  have hx := B.exec
  have hb := B.bytes
  have hr := B.returns
  have hts := atoms_spec (ws := wsX11_look) B.pre
  have hown : s.vm.findClass RX11 = some m.cls := findClass_of_methodNamed B.named
  have hlocks := B.notSynchronized
  have hin := inX11_look
  have hsz : s.heap.size = sz := hsz
  subst hsz
  have lk149 : Cond.fieldLink RX11 149 (TX11 5).1 (TX11 5).2.1 (TX11 5).2.2.1 ∈ wsX11_look := by decide +kernel
  have lk156 : Cond.fieldLink RX11 156 (TX11 6).1 (TX11 6).2.1 (TX11 6).2.2.1 ∈ wsX11_look := by decide +kernel
  have lk159 : Cond.fieldLink RX11 159 (TX11 7).1 (TX11 7).2.1 (TX11 7).2.2.1 ∈ wsX11_look := by decide +kernel
  have lk162 : Cond.fieldLink RX11 162 (TX11 8).1 (TX11 8).2.1 (TX11 8).2.2.1 ∈ wsX11_look := by decide +kernel
  have hD := hD0.self (sz := s.heap.size)
  generalize hAe : va_A (wM tI tZ h M) s.heap.size = A at hD ⊢
  have hA : ∀ q : Nat, s.heap.size ≤ q → A q := fun q h => by rw [← hAe]; exact Or.inr h
  have hS : va_S A s.heap s.heap [] := va_S.rf
  have hl := lv_entry ([.ref (h 0), .int p0]) (n := 5) (Nat.le_of_ble_eq_true rfl)
  rw [show entryFrame m args 5 = entryFrame m ([.ref (h 0), .int p0] : List Value).toArray 5 from by rw [hargs], lg_entry_eq]
  generalize (lg_sl ([.ref (h 0), .int p0]) ++ List.replicate (5 - (lg_sl ([.ref (h 0), .int p0])).length) Slot.unset).toArray = ls at hl ⊢
  have hl : lv_has ls 5 [(0, .ref (h 0)), (1, .int p0)] := hl
  unfold f_X11_look at hf
  refine lv_aload_n hx hb dX11_look_0 rfl (lv_at hl 0 rfl) ?_
  refine lv_iload_n hx hb dX11_look_1 rfl (lv_at hl 1 rfl) ?_
  obtain ⟨M1, eM1, hf⟩ := bn hf
  refine puM (M1 := M1) hx hb hts hin hown hK hP hD hS 5 (by decide) lk149 rfl (by decide +kernel) (by rw [eM1]; rfl) dX11_look_2 (fun H locs hP hD hS => ?_)
  have K5 : ∀ (M2 : MS) (H : Heap) (locs : List Loc) (ls : Array Slot), k_X11_look_5 M2 = some M' → va_P (dC, dI) vwCl (wM tI tZ h M2) H → va_D A (wM tI tZ h M2) → va_S A s.heap H locs → lv_has ls 5 [(0, .ref (h 0))] → W p l e RRX11_look s m args below meth c H locs 0 0 (MQ below (qcMv dC dI tI tZ A h M') args s 0 0 A) (F0 m 42 ls []) := by
    intro M2 H locs ls hf hP hD hS hl
    unfold k_X11_look_5 at hf
    refine lv_aload_n hx hb dX11_look_42 rfl (lv_at hl 0 rfl) ?_
    refine lv_iconst (v := 0) hx hb dX11_look_43 (by decide) ?_
    obtain ⟨M3, eM3, hf⟩ := bn hf
    refine puM (M1 := M3) hx hb hts hin hown hK hP hD hS 6 (by decide) lk156 rfl (by decide +kernel) (by rw [eM3]; rfl) dX11_look_44 (fun H locs hP hD hS => ?_)
    refine lv_aload_n hx hb dX11_look_47 rfl (lv_at hl 0 rfl) ?_
    refine lv_iconst (v := 0) hx hb dX11_look_48 (by decide) ?_
    obtain ⟨M4, eM4, hf⟩ := bn hf
    refine puM (M1 := M4) hx hb hts hin hown hK hP hD hS 7 (by decide) lk159 rfl (by decide +kernel) (by rw [eM4]; rfl) dX11_look_49 (fun H locs hP hD hS => ?_)
    refine lv_aload_n hx hb dX11_look_52 rfl (lv_at hl 0 rfl) ?_
    refine lv_iconst (v := 0) hx hb dX11_look_53 (by decide) ?_
    obtain ⟨M5, eM5, hf⟩ := bn hf
    refine puM (M1 := M5) hx hb hts hin hown hK hP hD hS 8 (by decide) lk162 rfl (by decide +kernel) (by rw [eM5]; rfl) dX11_look_54 (fun H locs hP hD hS => ?_)
    refine lv_aload_n hx hb dX11_look_57 rfl (lv_at hl 0 rfl) ?_
    refine geM hx hb hts hin hown hK hP 5 (by decide) lk149 rfl dX11_look_58 ?_
    refine lv_aload_n hx hb dX11_look_61 rfl (lv_at hl 0 rfl) ?_
    obtain ⟨r6, er6, hf⟩ := bd hf
    refine klMi (rest := [.int (M5 5 0)]) (As := []) ⟨hx, hb, hml, hown, hts⟩ (c_X11_textLong l dC dI tI tZ h H.size M5 r6 er6) (cwV 0 hts gX11_look_X11_textLong rfl rfl rfl (by decide +kernel) ⟨Nat.le_of_ble_eq_true rfl, Nat.le_of_ble_eq_true rfl⟩) rfl hl.1 rfl (Nat.le_of_ble_eq_true rfl) dX11_look_62 ⟨Nat.zero_le _, Nat.zero_le _⟩ hK hP hD hS hA (fun H locs hP hD hS => ?_)
    refine lv_icmp_ne (tgt := 69) hx hb dX11_look_65 (by decide) (fun c46 => ?_) (fun c46 => ?_)
    · have hf := (if_neg c46).symm.trans hf
      refine lv_aload_n hx hb dX11_look_69 rfl (lv_at hl 0 rfl) ?_
      refine lv_aload_n hx hb dX11_look_70 rfl (lv_at hl 0 rfl) ?_
      refine geM hx hb hts hin hown hK hP 5 (by decide) lk149 rfl dX11_look_71 ?_
      obtain ⟨r7, er7, hf⟩ := bd hf
      refine klMi (rest := []) (As := [.int (M5 5 0)]) ⟨hx, hb, hml, hown, hts⟩ (c_X11_byteAt l dC dI tI tZ h H.size M5 (M5 5 0) r7 er7) (cwV 1 hts gX11_look_X11_byteAt rfl rfl rfl (by decide +kernel) ⟨Nat.le_of_ble_eq_true rfl, Nat.le_of_ble_eq_true rfl⟩) rfl hl.1 rfl (Nat.le_of_ble_eq_true rfl) dX11_look_74 ⟨Nat.zero_le _, Nat.zero_le _⟩ hK hP hD hS hA (fun H locs hP hD hS => ?_)
      refine lv_istore_n (lv' := [(2, .int r7), (0, .ref (h 0))]) hx hb dX11_look_77 rfl hl (by decide) rfl (fun ls hl => ?_)
      refine lv_aload_n hx hb dX11_look_78 rfl (lv_at hl 1 rfl) ?_
      refine lv_iload_n hx hb dX11_look_79 rfl (lv_at hl 0 rfl) ?_
      obtain ⟨r8, er8, hf⟩ := bd hf
      refine klEi (rest := [.ref (h 0)]) (As := [.int r7]) ⟨hx, hb, hml, hown, hts⟩ (c_X11_isSmall l H.size r7 r8 er8) (va_cwS 1 hts gX11_look_X11_isSmall rfl rfl rfl (by decide +kernel) ⟨Nat.le_of_ble_eq_true rfl, Nat.le_of_ble_eq_true rfl⟩) rfl hl.1 rfl (Nat.le_of_ble_eq_true rfl) dX11_look_80 ⟨Nat.zero_le _, Nat.zero_le _⟩ hS hA (fun H2 locs hk hS => ?_)
      have hP := kpP hP hk
      generalize H2 = H at hP hS ⊢
      have J112 : ∀ (k9 : Int32) (H : Heap) (locs : List Loc) (ls : Array Slot), j_X11_look_112 M5 k9 = some M' → va_P (dC, dI) vwCl (wM tI tZ h M5) H → va_D A (wM tI tZ h M5) → va_S A s.heap H locs → lv_has ls 5 [(0, .ref (h 0))] → W p l e RRX11_look s m args below meth c H locs 0 0 (MQ below (qcMv dC dI tI tZ A h M') args s 0 0 A) (F0 m 112 ls [.int k9, .ref (h 0)]) := by
        intro k9 H locs ls hf hP hD hS hl
        unfold j_X11_look_112 at hf
        obtain ⟨M10, eM10, hf⟩ := bn hf
        refine puM (M1 := M10) hx hb hts hin hown hK hP hD hS 7 (by decide) lk159 rfl (by decide +kernel) (by rw [eM10]; rfl) dX11_look_112 (fun H locs hP hD hS => ?_)
        refine lv_aload_n hx hb dX11_look_115 rfl (lv_at hl 0 rfl) ?_
        refine lv_iconst (v := 1) hx hb dX11_look_116 (by decide) ?_
        obtain ⟨M11, eM11, hf⟩ := bn hf
        refine puM (M1 := M11) hx hb hts hin hown hK hP hD hS 6 (by decide) lk156 rfl (by decide +kernel) (by rw [eM11]; rfl) dX11_look_117 (fun H locs hP hD hS => ?_)
        refine lv_aload_n hx hb dX11_look_120 rfl (lv_at hl 0 rfl) ?_
        refine geM hx hb hts hin hown hK hP 7 (by decide) lk159 rfl dX11_look_121 ?_
        refine lv_iconst (v := 3) hx hb dX11_look_124 (by decide) ?_
        have J133 : ∀ (k12 : Int32) (H : Heap) (locs : List Loc) (ls : Array Slot), j_X11_look_133 M11 k12 = some M' → va_P (dC, dI) vwCl (wM tI tZ h M11) H → va_D A (wM tI tZ h M11) → va_S A s.heap H locs → lv_has ls 5 [(0, .ref (h 0))] → W p l e RRX11_look s m args below meth c H locs 0 0 (MQ below (qcMv dC dI tI tZ A h M') args s 0 0 A) (F0 m 133 ls [.int k12]) := by
          intro k12 H locs ls hf hP hD hS hl
          unfold j_X11_look_133 at hf
          refine lv_istore_n (lv' := [(3, .int k12), (0, .ref (h 0))]) hx hb dX11_look_133 rfl hl (by decide) rfl (fun ls hl => ?_)
          have K134 : ∀ (M13 : MS) (H : Heap) (locs : List Loc) (ls : Array Slot), k_X11_look_134 M13 = some M' → va_P (dC, dI) vwCl (wM tI tZ h M13) H → va_D A (wM tI tZ h M13) → va_S A s.heap H locs → lv_has ls 5 [(0, .ref (h 0))] → W p l e RRX11_look s m args below meth c H locs 0 0 (MQ below (qcMv dC dI tI tZ A h M') args s 0 0 A) (F0 m 212 ls []) := by
            intro M13 H locs ls hf hP hD hS hl
            unfold k_X11_look_134 at hf
            refine lv_iconst (v := 0) hx hb dX11_look_212 (by decide) ?_
            refine lv_istore (lv' := [(4, .int 0), (0, .ref (h 0))]) hx hb dX11_look_213 hl (by decide) rfl (fun ls hl => ?_)
            have K215 : ∀ (M14 : MS) (H : Heap) (locs : List Loc) (ls : Array Slot), k_X11_look_215 M14 = some M' → va_P (dC, dI) vwCl (wM tI tZ h M14) H → va_D A (wM tI tZ h M14) → va_S A s.heap H locs → lv_has ls 5 [(0, .ref (h 0))] → W p l e RRX11_look s m args below meth c H locs 0 0 (MQ below (qcMv dC dI tI tZ A h M') args s 0 0 A) (F0 m 270 ls []) := by
              intro M14 H locs ls hf hP hD hS hl
              unfold k_X11_look_215 at hf
              refine lv_aload_n hx hb dX11_look_270 rfl (lv_at hl 0 rfl) ?_
              refine lv_aload_n hx hb dX11_look_271 rfl (lv_at hl 0 rfl) ?_
              refine geM hx hb hts hin hown hK hP 7 (by decide) lk159 rfl dX11_look_272 ?_
              refine lv_iconst (v := 2) hx hb dX11_look_275 (by decide) ?_
              refine lv_icmp_ne (tgt := 291) hx hb dX11_look_276 (by decide) (fun c19 => ?_) (fun c19 => ?_)
              · have hf := (if_neg c19).symm.trans hf
                refine lv_aload_n hx hb dX11_look_291 rfl (lv_at hl 0 rfl) ?_
                refine geM hx hb hts hin hown hK hP 7 (by decide) lk159 rfl dX11_look_292 ?_
                obtain ⟨M15, eM15, hf⟩ := bn hf
                refine puM (M1 := M15) hx hb hts hin hown hK hP hD hS 7 (by decide) lk159 rfl (by decide +kernel) (by rw [eM15]; rfl) dX11_look_295 (fun H locs hP hD hS => ?_)
                exact rtMv hx hb hr hlocks hK hP hD hS hf dX11_look_298
              · have hf := (if_pos c19).symm.trans hf
                refine lv_aload_n hx hb dX11_look_279 rfl (lv_at hl 0 rfl) ?_
                refine geM hx hb hts hin hown hK hP 6 (by decide) lk156 rfl dX11_look_280 ?_
                refine lv_iconst (v := 3) hx hb dX11_look_283 (by decide) ?_
                refine lv_icmp_le (tgt := 291) hx hb dX11_look_284 (by decide) (fun c18 => ?_) (fun c18 => ?_)
                · have hf := (if_pos c18).symm.trans hf
                  refine lv_aload_n hx hb dX11_look_291 rfl (lv_at hl 0 rfl) ?_
                  refine geM hx hb hts hin hown hK hP 7 (by decide) lk159 rfl dX11_look_292 ?_
                  obtain ⟨M16, eM16, hf⟩ := bn hf
                  refine puM (M1 := M16) hx hb hts hin hown hK hP hD hS 7 (by decide) lk159 rfl (by decide +kernel) (by rw [eM16]; rfl) dX11_look_295 (fun H locs hP hD hS => ?_)
                  exact rtMv hx hb hr hlocks hK hP hD hS hf dX11_look_298
                · have hf := (if_neg c18).symm.trans hf
                  refine lv_iconst (v := 4) hx hb dX11_look_287 (by decide) ?_
                  refine lv_goto (tgt := 295) hx hb dX11_look_288 (by decide) ?_
                  obtain ⟨M17, eM17, hf⟩ := bn hf
                  refine puM (M1 := M17) hx hb hts hin hown hK hP hD hS 7 (by decide) lk159 rfl (by decide +kernel) (by rw [eM17]; rfl) dX11_look_295 (fun H locs hP hD hS => ?_)
                  exact rtMv hx hb hr hlocks hK hP hD hS hf dX11_look_298
            obtain ⟨z215, ez215, hz215⟩ := bd hf
            have L215 : ∀ (n : Nat) (y20 : Int32) (M21 : MS) (H : Heap) (locs : List Loc) (ls : Array Slot), lp (fun s => b_X11_look_215 s.1 s.2) n (y20, M21) = some z215 → va_P (dC, dI) vwCl (wM tI tZ h M21) H → va_D A (wM tI tZ h M21) → va_S A s.heap H locs → lv_has ls 5 [(0, .ref (h 0)), (4, .int y20)] → W p l e RRX11_look s m args below meth c H locs 0 0 (MQ below (qcMv dC dI tI tZ A h M') args s 0 0 A) (F0 m 215 ls []) := by
              intro n
              induction n with
              | zero => intro y20 M21 H locs ls hf; exact lp_z hf
              | succ n ih215 =>
                intro y20 M21 H locs ls hf hP hD hS hl
                obtain ⟨q215, hf, hq215⟩ := lp_i hf
                have hf : b_X11_look_215 y20 M21 = some q215 := hf
                unfold b_X11_look_215 at hf
                refine lv_iload hx hb dX11_look_215 (lv_at hl 1 rfl) ?_
                refine lv_aload_n hx hb dX11_look_217 rfl (lv_at hl 0 rfl) ?_
                refine geM hx hb hts hin hown hK hP 6 (by decide) lk156 rfl dX11_look_218 ?_
                refine lv_icmp_ge (tgt := 270) hx hb dX11_look_221 (by decide) (fun c27 => ?_) (fun c27 => ?_)
                · have hf := (if_pos c27).symm.trans hf
                  exact K215 M21 _ _ _ (lp_x (k := (fun s => k_X11_look_215 s)) (lp_r hf hq215) hz215) hP hD hS (lv_sub hl [0] rfl)
                · have hf := (if_neg c27).symm.trans hf
                  refine lv_iload hx hb dX11_look_224 (lv_at hl 1 rfl) ?_
                  refine lv_iconst (v := 3) hx hb dX11_look_226 (by decide) ?_
                  refine lv_icmp_ge (tgt := 270) hx hb dX11_look_227 (by decide) (fun c26 => ?_) (fun c26 => ?_)
                  · have hf := (if_pos c26).symm.trans hf
                    exact K215 M21 _ _ _ (lp_x (k := (fun s => k_X11_look_215 s)) (lp_r hf hq215) hz215) hP hD hS (lv_sub hl [0] rfl)
                  · have hf := (if_neg c26).symm.trans hf
                    refine lv_aload_n hx hb dX11_look_230 rfl (lv_at hl 0 rfl) ?_
                    refine geM hx hb hts hin hown hK hP 7 (by decide) lk159 rfl dX11_look_231 ?_
                    refine lv_iconst (v := 2) hx hb dX11_look_234 (by decide) ?_
                    refine lv_icmp_ne (tgt := 270) hx hb dX11_look_235 (by decide) (fun c25 => ?_) (fun c25 => ?_)
                    · have hf := (if_neg c25).symm.trans hf
                      exact K215 M21 _ _ _ (lp_x (k := (fun s => k_X11_look_215 s)) (lp_r hf hq215) hz215) hP hD hS (lv_sub hl [0] rfl)
                    · have hf := (if_pos c25).symm.trans hf
                      refine lv_aload_n hx hb dX11_look_238 rfl (lv_at hl 0 rfl) ?_
                      refine lv_bipush (v := 10) hx hb dX11_look_239 (by decide) ?_
                      refine lv_aload_n hx hb dX11_look_241 rfl (lv_at hl 0 rfl) ?_
                      refine geM hx hb hts hin hown hK hP 8 (by decide) lk162 rfl dX11_look_242 ?_
                      refine lv_imul hx hb dX11_look_245 ?_
                      refine lv_aload_n hx hb dX11_look_246 rfl (lv_at hl 0 rfl) ?_
                      refine lv_aload_n hx hb dX11_look_247 rfl (lv_at hl 0 rfl) ?_
                      refine geM hx hb hts hin hown hK hP 5 (by decide) lk149 rfl dX11_look_248 ?_
                      refine lv_iload hx hb dX11_look_251 (lv_at hl 1 rfl) ?_
                      refine lv_iadd hx hb dX11_look_253 ?_
                      obtain ⟨r22, er22, hf⟩ := bd hf
                      refine klMi (rest := [.int (10 * (M21 8 0)), .ref (h 0)]) (As := [.int ((M21 5 0) + y20)]) ⟨hx, hb, hml, hown, hts⟩ (c_X11_byteAt l dC dI tI tZ h H.size M21 ((M21 5 0) + y20) r22 er22) (cwV 1 hts gX11_look_X11_byteAt rfl rfl rfl (by decide +kernel) ⟨Nat.le_of_ble_eq_true rfl, Nat.le_of_ble_eq_true rfl⟩) rfl hl.1 rfl (Nat.le_of_ble_eq_true rfl) dX11_look_254 ⟨Nat.zero_le _, Nat.zero_le _⟩ hK hP hD hS hA (fun H locs hP hD hS => ?_)
                      refine lv_iadd hx hb dX11_look_257 ?_
                      refine lv_bipush (v := 48) hx hb dX11_look_258 (by decide) ?_
                      refine lv_isub hx hb dX11_look_260 ?_
                      obtain ⟨M23, eM23, hf⟩ := bn hf
                      refine puM (M1 := M23) hx hb hts hin hown hK hP hD hS 8 (by decide) lk162 rfl (by decide +kernel) (by rw [eM23]; rfl) dX11_look_261 (fun H locs hP hD hS => ?_)
                      obtain ⟨x24, ex24, hf⟩ := bn hf
                      refine lv_iinc (v := x24) (lv' := [(4, .int x24), (0, .ref (h 0))]) hx hb dX11_look_264 hl (k := 1) rfl (by rw [ex24]; rfl) (by decide) rfl (fun ls hl => ?_)
                      refine lv_goto (tgt := 215) hx hb dX11_look_267 (by decide) ?_
                      exact ih215 x24 M23 _ _ _ (lp_l hf hq215) hP hD hS (lv_sub hl [1, 0] rfl)
            exact L215 FU 0 M13 _ _ _ ez215 hP hD hS (lv_sub hl [1, 0] rfl)
          obtain ⟨z134, ez134, hz134⟩ := bd hf
          have L134 : ∀ (n : Nat) (y28 : Int32) (M29 : MS) (H : Heap) (locs : List Loc) (ls : Array Slot), lp (fun s => b_X11_look_134 s.1 s.2) n (y28, M29) = some z134 → va_P (dC, dI) vwCl (wM tI tZ h M29) H → va_D A (wM tI tZ h M29) → va_S A s.heap H locs → lv_has ls 5 [(0, .ref (h 0)), (3, .int y28)] → W p l e RRX11_look s m args below meth c H locs 0 0 (MQ below (qcMv dC dI tI tZ A h M') args s 0 0 A) (F0 m 134 ls []) := by
            intro n
            induction n with
            | zero => intro y28 M29 H locs ls hf; exact lp_z hf
            | succ n ih134 =>
              intro y28 M29 H locs ls hf hP hD hS hl
              obtain ⟨q134, hf, hq134⟩ := lp_i hf
              have hf : b_X11_look_134 y28 M29 = some q134 := hf
              unfold b_X11_look_134 at hf
              refine lv_iload_n hx hb dX11_look_134 rfl (lv_at hl 1 rfl) ?_
              refine lv_if_eq (tgt := 212) hx hb dX11_look_135 (by decide) (fun c40 => ?_) (fun c40 => ?_)
              · have hf := (if_pos c40).symm.trans hf
                exact K134 M29 _ _ _ (lp_x (k := (fun s => k_X11_look_134 s)) (lp_r hf hq134) hz134) hP hD hS (lv_sub hl [0] rfl)
              · have hf := (if_neg c40).symm.trans hf
                refine lv_aload_n hx hb dX11_look_138 rfl (lv_at hl 0 rfl) ?_
                refine geM hx hb hts hin hown hK hP 5 (by decide) lk149 rfl dX11_look_139 ?_
                refine lv_aload_n hx hb dX11_look_142 rfl (lv_at hl 0 rfl) ?_
                refine geM hx hb hts hin hown hK hP 6 (by decide) lk156 rfl dX11_look_143 ?_
                refine lv_iadd hx hb dX11_look_146 ?_
                refine lv_aload_n hx hb dX11_look_147 rfl (lv_at hl 0 rfl) ?_
                obtain ⟨r30, er30, hf⟩ := bd hf
                refine klMi (rest := [.int ((M29 5 0) + (M29 6 0))]) (As := []) ⟨hx, hb, hml, hown, hts⟩ (c_X11_textLong l dC dI tI tZ h H.size M29 r30 er30) (cwV 0 hts gX11_look_X11_textLong rfl rfl rfl (by decide +kernel) ⟨Nat.le_of_ble_eq_true rfl, Nat.le_of_ble_eq_true rfl⟩) rfl hl.1 rfl (Nat.le_of_ble_eq_true rfl) dX11_look_148 ⟨Nat.zero_le _, Nat.zero_le _⟩ hK hP hD hS hA (fun H locs hP hD hS => ?_)
                refine lv_icmp_ge (tgt := 212) hx hb dX11_look_151 (by decide) (fun c39 => ?_) (fun c39 => ?_)
                · have hf := (if_pos c39).symm.trans hf
                  exact K134 M29 _ _ _ (lp_x (k := (fun s => k_X11_look_134 s)) (lp_r hf hq134) hz134) hP hD hS (lv_sub hl [0] rfl)
                · have hf := (if_neg c39).symm.trans hf
                  refine lv_aload_n hx hb dX11_look_154 rfl (lv_at hl 0 rfl) ?_
                  refine lv_aload_n hx hb dX11_look_155 rfl (lv_at hl 0 rfl) ?_
                  refine geM hx hb hts hin hown hK hP 5 (by decide) lk149 rfl dX11_look_156 ?_
                  refine lv_aload_n hx hb dX11_look_159 rfl (lv_at hl 0 rfl) ?_
                  refine geM hx hb hts hin hown hK hP 6 (by decide) lk156 rfl dX11_look_160 ?_
                  refine lv_iadd hx hb dX11_look_163 ?_
                  obtain ⟨r31, er31, hf⟩ := bd hf
                  refine klMi (rest := []) (As := [.int ((M29 5 0) + (M29 6 0))]) ⟨hx, hb, hml, hown, hts⟩ (c_X11_byteAt l dC dI tI tZ h H.size M29 ((M29 5 0) + (M29 6 0)) r31 er31) (cwV 1 hts gX11_look_X11_byteAt rfl rfl rfl (by decide +kernel) ⟨Nat.le_of_ble_eq_true rfl, Nat.le_of_ble_eq_true rfl⟩) rfl hl.1 rfl (Nat.le_of_ble_eq_true rfl) dX11_look_164 ⟨Nat.zero_le _, Nat.zero_le _⟩ hK hP hD hS hA (fun H locs hP hD hS => ?_)
                  refine lv_istore (lv' := [(4, .int r31), (0, .ref (h 0)), (3, .int y28)]) hx hb dX11_look_167 hl (by decide) rfl (fun ls hl => ?_)
                  refine lv_aload_n hx hb dX11_look_169 rfl (lv_at hl 1 rfl) ?_
                  refine geM hx hb hts hin hown hK hP 7 (by decide) lk159 rfl dX11_look_170 ?_
                  refine lv_iconst (v := 1) hx hb dX11_look_173 (by decide) ?_
                  have J190 : ∀ (k32 : Int32) (H : Heap) (locs : List Loc) (ls : Array Slot), j_X11_look_190 M29 k32 = some q134 → va_P (dC, dI) vwCl (wM tI tZ h M29) H → va_D A (wM tI tZ h M29) → va_S A s.heap H locs → lv_has ls 5 [(0, .ref (h 0))] → W p l e RRX11_look s m args below meth c H locs 0 0 (MQ below (qcMv dC dI tI tZ A h M') args s 0 0 A) (F0 m 190 ls [.int k32]) := by
                    intro k32 H locs ls hf hP hD hS hl
                    unfold j_X11_look_190 at hf
                    refine lv_istore_n (lv' := [(3, .int k32), (0, .ref (h 0))]) hx hb dX11_look_190 rfl hl (by decide) rfl (fun ls hl => ?_)
                    refine lv_aload_n hx hb dX11_look_191 rfl (lv_at hl 1 rfl) ?_
                    refine lv_dup hx hb dX11_look_192 rfl ?_
                    refine geM hx hb hts hin hown hK hP 6 (by decide) lk156 rfl dX11_look_193 ?_
                    refine lv_iload_n hx hb dX11_look_196 rfl (lv_at hl 0 rfl) ?_
                    refine lv_if_eq (tgt := 204) hx hb dX11_look_197 (by decide) (fun c35 => ?_) (fun c35 => ?_)
                    · have hf := (if_pos c35).symm.trans hf
                      refine lv_iconst (v := 0) hx hb dX11_look_204 (by decide) ?_
                      refine lv_iadd hx hb dX11_look_205 ?_
                      obtain ⟨M33, eM33, hf⟩ := bn hf
                      refine puM (M1 := M33) hx hb hts hin hown hK hP hD hS 6 (by decide) lk156 rfl (by decide +kernel) (by rw [eM33]; rfl) dX11_look_206 (fun H locs hP hD hS => ?_)
                      refine lv_goto (tgt := 134) hx hb dX11_look_209 (by decide) ?_
                      exact ih134 k32 M33 _ _ _ (lp_l hf hq134) hP hD hS (lv_sub hl [1, 0] rfl)
                    · have hf := (if_neg c35).symm.trans hf
                      refine lv_iconst (v := 1) hx hb dX11_look_200 (by decide) ?_
                      refine lv_goto (tgt := 205) hx hb dX11_look_201 (by decide) ?_
                      refine lv_iadd hx hb dX11_look_205 ?_
                      obtain ⟨M34, eM34, hf⟩ := bn hf
                      refine puM (M1 := M34) hx hb hts hin hown hK hP hD hS 6 (by decide) lk156 rfl (by decide +kernel) (by rw [eM34]; rfl) dX11_look_206 (fun H locs hP hD hS => ?_)
                      refine lv_goto (tgt := 134) hx hb dX11_look_209 (by decide) ?_
                      exact ih134 k32 M34 _ _ _ (lp_l hf hq134) hP hD hS (lv_sub hl [1, 0] rfl)
                  refine lv_icmp_ne (tgt := 185) hx hb dX11_look_174 (by decide) (fun c38 => ?_) (fun c38 => ?_)
                  · have hf := (if_neg c38).symm.trans hf
                    refine lv_iload hx hb dX11_look_185 (lv_at hl 0 rfl) ?_
                    obtain ⟨r36, er36, hf⟩ := bd hf
                    refine klEi (rest := []) (As := [.int r31]) ⟨hx, hb, hml, hown, hts⟩ (c_X11_isFigure l H.size r31 r36 er36) (va_cwS 1 hts gX11_look_X11_isFigure rfl rfl rfl (by decide +kernel) ⟨Nat.le_of_ble_eq_true rfl, Nat.le_of_ble_eq_true rfl⟩) rfl hl.1 rfl (Nat.le_of_ble_eq_true rfl) dX11_look_187 ⟨Nat.zero_le _, Nat.zero_le _⟩ hS hA (fun H2 locs hk hS => ?_)
                    have hP := kpP hP hk
                    generalize H2 = H at hP hS ⊢
                    exact J190 r36 _ _ _ hf hP hD hS (lv_sub hl [1] rfl)
                  · have hf := (if_pos c38).symm.trans hf
                    refine lv_iload hx hb dX11_look_177 (lv_at hl 0 rfl) ?_
                    obtain ⟨r37, er37, hf⟩ := bd hf
                    refine klEi (rest := []) (As := [.int r31]) ⟨hx, hb, hml, hown, hts⟩ (c_X11_isSmall l H.size r31 r37 er37) (va_cwS 1 hts gX11_look_X11_isSmall rfl rfl rfl (by decide +kernel) ⟨Nat.le_of_ble_eq_true rfl, Nat.le_of_ble_eq_true rfl⟩) rfl hl.1 rfl (Nat.le_of_ble_eq_true rfl) dX11_look_179 ⟨Nat.zero_le _, Nat.zero_le _⟩ hS hA (fun H2 locs hk hS => ?_)
                    have hP := kpP hP hk
                    generalize H2 = H at hP hS ⊢
                    refine lv_goto (tgt := 190) hx hb dX11_look_182 (by decide) ?_
                    exact J190 r37 _ _ _ hf hP hD hS (lv_sub hl [1] rfl)
          exact L134 FU k12 M11 _ _ _ ez134 hP hD hS (lv_sub hl [1, 0] rfl)
        refine lv_icmp_ge (tgt := 132) hx hb dX11_look_125 (by decide) (fun c41 => ?_) (fun c41 => ?_)
        · have hf := (if_pos c41).symm.trans hf
          refine lv_iconst (v := 0) hx hb dX11_look_132 (by decide) ?_
          exact J133 0 _ _ _ hf hP hD hS (lv_sub hl [0] rfl)
        · have hf := (if_neg c41).symm.trans hf
          refine lv_iconst (v := 1) hx hb dX11_look_128 (by decide) ?_
          refine lv_goto (tgt := 133) hx hb dX11_look_129 (by decide) ?_
          exact J133 1 _ _ _ hf hP hD hS (lv_sub hl [0] rfl)
      refine lv_if_eq (tgt := 90) hx hb dX11_look_83 (by decide) (fun c45 => ?_) (fun c45 => ?_)
      · have hf := (if_pos c45).symm.trans hf
        refine lv_iload_n hx hb dX11_look_90 rfl (lv_at hl 0 rfl) ?_
        obtain ⟨r42, er42, hf⟩ := bd hf
        refine klEi (rest := [.ref (h 0)]) (As := [.int r7]) ⟨hx, hb, hml, hown, hts⟩ (c_X11_isFigure l H.size r7 r42 er42) (va_cwS 1 hts gX11_look_X11_isFigure rfl rfl rfl (by decide +kernel) ⟨Nat.le_of_ble_eq_true rfl, Nat.le_of_ble_eq_true rfl⟩) rfl hl.1 rfl (Nat.le_of_ble_eq_true rfl) dX11_look_91 ⟨Nat.zero_le _, Nat.zero_le _⟩ hS hA (fun H2 locs hk hS => ?_)
        have hP := kpP hP hk
        generalize H2 = H at hP hS ⊢
        refine lv_if_eq (tgt := 101) hx hb dX11_look_94 (by decide) (fun c44 => ?_) (fun c44 => ?_)
        · have hf := (if_pos c44).symm.trans hf
          refine lv_iload_n hx hb dX11_look_101 rfl (lv_at hl 0 rfl) ?_
          refine lv_bipush (v := 59) hx hb dX11_look_102 (by decide) ?_
          refine lv_icmp_ne (tgt := 111) hx hb dX11_look_104 (by decide) (fun c43 => ?_) (fun c43 => ?_)
          · have hf := (if_neg c43).symm.trans hf
            refine lv_iconst (v := 4) hx hb dX11_look_111 (by decide) ?_
            exact J112 4 _ _ _ hf hP hD hS (lv_sub hl [1] rfl)
          · have hf := (if_pos c43).symm.trans hf
            refine lv_iconst (v := 3) hx hb dX11_look_107 (by decide) ?_
            refine lv_goto (tgt := 112) hx hb dX11_look_108 (by decide) ?_
            exact J112 3 _ _ _ hf hP hD hS (lv_sub hl [1] rfl)
        · have hf := (if_neg c44).symm.trans hf
          refine lv_iconst (v := 2) hx hb dX11_look_97 (by decide) ?_
          refine lv_goto (tgt := 112) hx hb dX11_look_98 (by decide) ?_
          exact J112 2 _ _ _ hf hP hD hS (lv_sub hl [1] rfl)
      · have hf := (if_neg c45).symm.trans hf
        refine lv_iconst (v := 1) hx hb dX11_look_86 (by decide) ?_
        refine lv_goto (tgt := 112) hx hb dX11_look_87 (by decide) ?_
        exact J112 1 _ _ _ hf hP hD hS (lv_sub hl [1] rfl)
    · have hf := (if_pos c46).symm.trans hf
      exact rtMv hx hb hr hlocks hK hP hD hS hf dX11_look_68
  obtain ⟨z5, ez5, hz5⟩ := bd hf
  have L5 : ∀ (n : Nat) (M47 : MS) (H : Heap) (locs : List Loc) (ls : Array Slot), lp (fun s => b_X11_look_5 s) n M47 = some z5 → va_P (dC, dI) vwCl (wM tI tZ h M47) H → va_D A (wM tI tZ h M47) → va_S A s.heap H locs → lv_has ls 5 [(0, .ref (h 0))] → W p l e RRX11_look s m args below meth c H locs 0 0 (MQ below (qcMv dC dI tI tZ A h M') args s 0 0 A) (F0 m 5 ls []) := by
    intro n
    induction n with
    | zero => intro M47 H locs ls hf; exact lp_z hf
    | succ n ih5 =>
      intro M47 H locs ls hf hP hD hS hl
      obtain ⟨q5, hf, hq5⟩ := lp_i hf
      have hf : b_X11_look_5 M47 = some q5 := hf
      unfold b_X11_look_5 at hf
      refine lv_aload_n hx hb dX11_look_5 rfl (lv_at hl 0 rfl) ?_
      refine geM hx hb hts hin hown hK hP 5 (by decide) lk149 rfl dX11_look_6 ?_
      refine lv_aload_n hx hb dX11_look_9 rfl (lv_at hl 0 rfl) ?_
      obtain ⟨r48, er48, hf⟩ := bd hf
      refine klMi (rest := [.int (M47 5 0)]) (As := []) ⟨hx, hb, hml, hown, hts⟩ (c_X11_textLong l dC dI tI tZ h H.size M47 r48 er48) (cwV 0 hts gX11_look_X11_textLong rfl rfl rfl (by decide +kernel) ⟨Nat.le_of_ble_eq_true rfl, Nat.le_of_ble_eq_true rfl⟩) rfl hl.1 rfl (Nat.le_of_ble_eq_true rfl) dX11_look_10 ⟨Nat.zero_le _, Nat.zero_le _⟩ hK hP hD hS hA (fun H locs hP hD hS => ?_)
      refine lv_icmp_ge (tgt := 42) hx hb dX11_look_13 (by decide) (fun c52 => ?_) (fun c52 => ?_)
      · have hf := (if_pos c52).symm.trans hf
        exact K5 M47 _ _ _ (lp_x (k := (fun s => k_X11_look_5 s)) (lp_r hf hq5) hz5) hP hD hS (lv_sub hl [0] rfl)
      · have hf := (if_neg c52).symm.trans hf
        refine lv_aload_n hx hb dX11_look_16 rfl (lv_at hl 0 rfl) ?_
        refine lv_aload_n hx hb dX11_look_17 rfl (lv_at hl 0 rfl) ?_
        refine geM hx hb hts hin hown hK hP 5 (by decide) lk149 rfl dX11_look_18 ?_
        obtain ⟨r49, er49, hf⟩ := bd hf
        refine klMi (rest := []) (As := [.int (M47 5 0)]) ⟨hx, hb, hml, hown, hts⟩ (c_X11_byteAt l dC dI tI tZ h H.size M47 (M47 5 0) r49 er49) (cwV 1 hts gX11_look_X11_byteAt rfl rfl rfl (by decide +kernel) ⟨Nat.le_of_ble_eq_true rfl, Nat.le_of_ble_eq_true rfl⟩) rfl hl.1 rfl (Nat.le_of_ble_eq_true rfl) dX11_look_21 ⟨Nat.zero_le _, Nat.zero_le _⟩ hK hP hD hS hA (fun H locs hP hD hS => ?_)
        refine lv_bipush (v := 32) hx hb dX11_look_24 (by decide) ?_
        refine lv_icmp_ne (tgt := 42) hx hb dX11_look_26 (by decide) (fun c51 => ?_) (fun c51 => ?_)
        · have hf := (if_neg c51).symm.trans hf
          exact K5 M47 _ _ _ (lp_x (k := (fun s => k_X11_look_5 s)) (lp_r hf hq5) hz5) hP hD hS (lv_sub hl [0] rfl)
        · have hf := (if_pos c51).symm.trans hf
          refine lv_aload_n hx hb dX11_look_29 rfl (lv_at hl 0 rfl) ?_
          refine lv_dup hx hb dX11_look_30 rfl ?_
          refine geM hx hb hts hin hown hK hP 5 (by decide) lk149 rfl dX11_look_31 ?_
          refine lv_iconst (v := 1) hx hb dX11_look_34 (by decide) ?_
          refine lv_iadd hx hb dX11_look_35 ?_
          obtain ⟨M50, eM50, hf⟩ := bn hf
          refine puM (M1 := M50) hx hb hts hin hown hK hP hD hS 5 (by decide) lk149 rfl (by decide +kernel) (by rw [eM50]; rfl) dX11_look_36 (fun H locs hP hD hS => ?_)
          refine lv_goto (tgt := 5) hx hb dX11_look_39 (by decide) ?_
          exact ih5 M50 _ _ _ (lp_l hf hq5) hP hD hS (lv_sub hl [0] rfl)
  exact L5 FU M1 _ _ _ ez5 hP hD hS (lv_sub hl [0] rfl)
