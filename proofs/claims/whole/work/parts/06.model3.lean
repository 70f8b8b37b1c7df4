def f_X11_row (M : MS) (p0 : Int32) (p1 : Int32) : Option (Int32 × MS) :=
  Option.bind (f_X11_isBand M p0) (fun r1 => (if r1 = 0 then (bi2 (f_X11_bad M (-10)) (fun r2 M3 => some ((r2, M3)))) else ((if 0 ≤ p1 then (bi2 (f_X11_findLeast M p0 (-1)) (fun r4 M5 => (if (M5 16 0) = (-1) then (some (((-5), M5))) else (Option.bind (f_X11_layRow M5) (fun M6 => (if (M6 17 0) ≤ p1 then (some (((-5), M6))) else (Option.bind (rdI 240 (M6 18) p1) (fun x7 => Option.bind (rdI 240 (M6 19) p1) (fun x8 => some (((64 * x7) + x8, M6))))))))))) else (bi2 (f_X11_bad M (-10)) (fun r11 M12 => some ((r11, M12))))))))
def rmX11_row : Room := { frames := 8, cells := 0, slots := 0, locals := 191 }
abbrev RRX11_row : Room := (headSpec wsX11_row rmX11_row).room
theorem inX11_row : ∀ w ∈ wsX110, w ∈ wsX11_row := by decide +kernel
set_option maxHeartbeats 4000000 in
set_option maxRecDepth 100000 in
theorem c_X11_row (l : Launch) (dC : Nat → ClassId) (dI : Nat → Nat → Nat) (tI tZ : ClassId) (h : Nat → Nat) (sz : Nat) (M : MS) (p0 : Int32) (p1 : Int32) (r : Int32) (M' : MS) (hf : f_X11_row M p0 p1 = some (r, M')) : cMi l yX11_row wsX11_row rmX11_row dC dI tI tZ h sz [.ref (h 0), .int p0, .int p1] M r M' := by
  refine Met.ofW (cc := cX11_row) (maxL := 4) (ret := (some .int)) (by decide) rfl ?_
  intro p e s m args below meth c s₁ B hml hv
  obtain ⟨hargs, hsz, hP, hK, hD0⟩ := hv
  have hx := B.exec
  have hb := B.bytes
  have hr := B.returns
  have hts := atoms_spec (ws := wsX11_row) B.pre
  have hown : s.vm.findClass RX11 = some m.cls := findClass_of_methodNamed B.named
  have hlocks := B.notSynchronized
  have hin := inX11_row
  have hsz : s.heap.size = sz := hsz
  subst hsz
  have lk32 : Cond.fieldLink RX11 32 (TX11 18).1 (TX11 18).2.1 (TX11 18).2.2.1 ∈ wsX11_row := by decide +kernel
  have lk35 : Cond.fieldLink RX11 35 (TX11 19).1 (TX11 19).2.1 (TX11 19).2.2.1 ∈ wsX11_row := by decide +kernel
  have lk238 : Cond.fieldLink RX11 238 (TX11 16).1 (TX11 16).2.1 (TX11 16).2.2.1 ∈ wsX11_row := by decide +kernel
  have lk244 : Cond.fieldLink RX11 244 (TX11 17).1 (TX11 17).2.1 (TX11 17).2.2.1 ∈ wsX11_row := by decide +kernel
  have hD := hD0.self (sz := s.heap.size)
  generalize hAe : va_A (wM tI tZ h M) s.heap.size = A at hD ⊢
  have hA : ∀ q : Nat, s.heap.size ≤ q → A q := fun q h => by rw [← hAe]; exact Or.inr h
  have hS : va_S A s.heap s.heap [] := va_S.rf
  have hl := lv_entry ([.ref (h 0), .int p0, .int p1]) (n := 4) (Nat.le_of_ble_eq_true rfl)
  rw [show entryFrame m args 4 = entryFrame m ([.ref (h 0), .int p0, .int p1] : List Value).toArray 4 from by rw [hargs], lg_entry_eq]
  generalize (lg_sl ([.ref (h 0), .int p0, .int p1]) ++ List.replicate (4 - (lg_sl ([.ref (h 0), .int p0, .int p1])).length) Slot.unset).toArray = ls at hl ⊢
  have hl : lv_has ls 4 [(0, .ref (h 0)), (1, .int p0), (2, .int p1)] := hl
  unfold f_X11_row at hf
  refine lv_aload_n hx hb dX11_row_0 rfl (lv_at hl 0 rfl) ?_
  refine lv_iload_n hx hb dX11_row_1 rfl (lv_at hl 1 rfl) ?_
  obtain ⟨r1, er1, hf⟩ := bd hf
  refine klMi (rest := []) (As := [.int p0]) ⟨hx, hb, hml, hown, hts⟩ (c_X11_isBand l dC dI tI tZ h s.heap.size M p0 r1 er1) (cwV 1 hts gX11_row_X11_isBand rfl rfl rfl (by decide +kernel) ⟨Nat.le_of_ble_eq_true rfl, Nat.le_of_ble_eq_true rfl⟩) rfl hl.1 rfl (Nat.le_of_ble_eq_true rfl) dX11_row_2 ⟨Nat.zero_le _, Nat.zero_le _⟩ hK hP hD hS hA (fun H locs hP hD hS => ?_)
  refine lv_if_eq (tgt := 12) hx hb dX11_row_5 (by decide) (fun c14 => ?_) (fun c14 => ?_)
  · have hf := (if_pos c14).symm.trans hf
    refine lv_aload_n hx hb dX11_row_12 rfl (lv_at hl 0 rfl) ?_
    refine lv_bipush (v := (-10)) hx hb dX11_row_13 (by decide) ?_
    obtain ⟨r2, M3, er2, hf⟩ := b2 hf
    refine klMi (rest := []) (As := [.int (-10)]) ⟨hx, hb, hml, hown, hts⟩ (c_X11_bad l dC dI tI tZ h H.size M (-10) r2 M3 er2) (cwV 1 hts gX11_row_X11_bad rfl rfl rfl (by decide +kernel) ⟨Nat.le_of_ble_eq_true rfl, Nat.le_of_ble_eq_true rfl⟩) rfl hl.1 rfl (Nat.le_of_ble_eq_true rfl) dX11_row_15 ⟨Nat.zero_le _, Nat.zero_le _⟩ hK hP hD hS hA (fun H locs hP hD hS => ?_)
    exact rtMi hx hb hr hlocks hK hP hD hS hf dX11_row_18
  · have hf := (if_neg c14).symm.trans hf
    refine lv_iload_n hx hb dX11_row_8 rfl (lv_at hl 2 rfl) ?_
    refine lv_if_ge (tgt := 19) hx hb dX11_row_9 (by decide) (fun c13 => ?_) (fun c13 => ?_)
    · have hf := (if_pos c13).symm.trans hf
      refine lv_aload_n hx hb dX11_row_19 rfl (lv_at hl 0 rfl) ?_
      refine lv_iload_n hx hb dX11_row_20 rfl (lv_at hl 1 rfl) ?_
      refine lv_iconst (v := (-1)) hx hb dX11_row_21 (by decide) ?_
      obtain ⟨r4, M5, er4, hf⟩ := b2 hf
      refine klMi (rest := []) (As := [.int p0, .int (-1)]) ⟨hx, hb, hml, hown, hts⟩ (c_X11_findLeast l dC dI tI tZ h H.size M p0 (-1) r4 M5 er4) (cwV 2 hts gX11_row_X11_findLeast rfl rfl rfl (by decide +kernel) ⟨Nat.le_of_ble_eq_true rfl, Nat.le_of_ble_eq_true rfl⟩) rfl hl.1 rfl (Nat.le_of_ble_eq_true rfl) dX11_row_22 ⟨Nat.zero_le _, Nat.zero_le _⟩ hK hP hD hS hA (fun H locs hP hD hS => ?_)
      refine lv_istore_n (lv' := [(3, .int r4), (0, .ref (h 0)), (1, .int p0), (2, .int p1)]) hx hb dX11_row_25 rfl hl (by decide) rfl (fun ls hl => ?_)
      refine lv_aload_n hx hb dX11_row_26 rfl (lv_at hl 1 rfl) ?_
      refine geM hx hb hts hin hown hK hP 16 (by decide) lk238 rfl dX11_row_27 ?_
      refine lv_iconst (v := (-1)) hx hb dX11_row_30 (by decide) ?_
      refine lv_icmp_ne (tgt := 37) hx hb dX11_row_31 (by decide) (fun c10 => ?_) (fun c10 => ?_)
      · have hf := (if_neg c10).symm.trans hf
        refine lv_aload_n hx hb dX11_row_37 rfl (lv_at hl 1 rfl) ?_
        obtain ⟨M6, eM6, hf⟩ := bd hf
        refine klMv (rest := []) (As := []) ⟨hx, hb, hml, hown, hts⟩ (c_X11_layRow l dC dI tI tZ h H.size M5 M6 eM6) (cwV 0 hts gX11_row_X11_layRow rfl rfl rfl (by decide +kernel) ⟨Nat.le_of_ble_eq_true rfl, Nat.le_of_ble_eq_true rfl⟩) rfl hl.1 rfl (Nat.le_of_ble_eq_true rfl) dX11_row_38 ⟨Nat.zero_le _, Nat.zero_le _⟩ hK hP hD hS hA (fun H locs hP hD hS => ?_)
        refine lv_iload_n hx hb dX11_row_41 rfl (lv_at hl 3 rfl) ?_
        refine lv_aload_n hx hb dX11_row_42 rfl (lv_at hl 1 rfl) ?_
        refine geM hx hb hts hin hown hK hP 17 (by decide) lk244 rfl dX11_row_43 ?_
        refine lv_icmp_ge (tgt := 68) hx hb dX11_row_46 (by decide) (fun c9 => ?_) (fun c9 => ?_)
        · have hf := (if_pos c9).symm.trans hf
          refine lv_bipush (v := (-5)) hx hb dX11_row_68 (by decide) ?_
          exact rtMi hx hb hr hlocks hK hP hD hS hf dX11_row_70
        · have hf := (if_neg c9).symm.trans hf
          refine lv_bipush (v := 64) hx hb dX11_row_49 (by decide) ?_
          refine lv_aload_n hx hb dX11_row_51 rfl (lv_at hl 1 rfl) ?_
          refine geM hx hb hts hin hown hK hP 18 (by decide) lk32 rfl dX11_row_52 ?_
          refine lv_iload_n hx hb dX11_row_55 rfl (lv_at hl 3 rfl) ?_
          obtain ⟨x7, hix7, ex7, hf⟩ := rd_b hf
          refine va_iald hx hb hK hP 8 0 rfl rfl hix7 dX11_row_56 (kI ex7 ?_)
          refine lv_imul hx hb dX11_row_57 ?_
          refine lv_aload_n hx hb dX11_row_58 rfl (lv_at hl 1 rfl) ?_
          refine geM hx hb hts hin hown hK hP 19 (by decide) lk35 rfl dX11_row_59 ?_
          refine lv_iload_n hx hb dX11_row_62 rfl (lv_at hl 3 rfl) ?_
          obtain ⟨x8, hix8, ex8, hf⟩ := rd_b hf
          refine va_iald hx hb hK hP 9 0 rfl rfl hix8 dX11_row_63 (kI ex8 ?_)
          refine lv_iadd hx hb dX11_row_64 ?_
          refine lv_goto (tgt := 70) hx hb dX11_row_65 (by decide) ?_
          exact rtMi hx hb hr hlocks hK hP hD hS hf dX11_row_70
      · have hf := (if_pos c10).symm.trans hf
        refine lv_bipush (v := (-5)) hx hb dX11_row_34 (by decide) ?_
        exact rtMi hx hb hr hlocks hK hP hD hS hf dX11_row_36
    · have hf := (if_neg c13).symm.trans hf
      refine lv_aload_n hx hb dX11_row_12 rfl (lv_at hl 0 rfl) ?_
      refine lv_bipush (v := (-10)) hx hb dX11_row_13 (by decide) ?_
      obtain ⟨r11, M12, er11, hf⟩ := b2 hf
      refine klMi (rest := []) (As := [.int (-10)]) ⟨hx, hb, hml, hown, hts⟩ (c_X11_bad l dC dI tI tZ h H.size M (-10) r11 M12 er11) (cwV 1 hts gX11_row_X11_bad rfl rfl rfl (by decide +kernel) ⟨Nat.le_of_ble_eq_true rfl, Nat.le_of_ble_eq_true rfl⟩) rfl hl.1 rfl (Nat.le_of_ble_eq_true rfl) dX11_row_15 ⟨Nat.zero_le _, Nat.zero_le _⟩ hK hP hD hS hA (fun H locs hP hD hS => ?_)
      exact rtMi hx hb hr hlocks hK hP hD hS hf dX11_row_18

def f_X11_worth (M : MS) (p0 : Int32) (p1 : Int32) : Option (Int32 × MS) :=
  Option.bind (f_X11_isBand M p0) (fun r1 => (if r1 = 0 then (bi2 (f_X11_bad M (-1000)) (fun r2 M3 => some ((r2, M3)))) else (Option.bind (f_X11_isPorter M p1) (fun r4 => (if r4 = 0 then (bi2 (f_X11_bad M (-1000)) (fun r5 M6 => some ((r5, M6)))) else ((if ((p0 >>> (p1 &&& 31)) &&& 1) = 1 then (bi2 (f_X11_bad M (-1000)) (fun r17 M18 => some ((r17, M18)))) else (bi2 (f_X11_findLeast M p0 (-1)) (fun r7 M8 => bi2 (f_X11_findLeast M8 p0 p1) (fun r9 M10 => (if r7 = 1000000 then (bi2 (f_X11_no M10 (-2000)) (fun r11 M12 => some ((r11, M12)))) else ((if r9 = 1000000 then (bi2 (f_X11_no M10 (-2000)) (fun r13 M14 => some ((r13, M14)))) else (some ((r9 - r7, M10))))))))))))))))
def rmX11_worth : Room := { frames := 8, cells := 0, slots := 0, locals := 191 }
abbrev RRX11_worth : Room := (headSpec wsX11_worth rmX11_worth).room
theorem inX11_worth : ∀ w ∈ wsX110, w ∈ wsX11_worth := by decide +kernel
set_option maxHeartbeats 4000000 in
set_option maxRecDepth 100000 in
theorem c_X11_worth (l : Launch) (dC : Nat → ClassId) (dI : Nat → Nat → Nat) (tI tZ : ClassId) (h : Nat → Nat) (sz : Nat) (M : MS) (p0 : Int32) (p1 : Int32) (r : Int32) (M' : MS) (hf : f_X11_worth M p0 p1 = some (r, M')) : cMi l yX11_worth wsX11_worth rmX11_worth dC dI tI tZ h sz [.ref (h 0), .int p0, .int p1] M r M' := by
  refine Met.ofW (cc := cX11_worth) (maxL := 5) (ret := (some .int)) (by decide) rfl ?_
  intro p e s m args below meth c s₁ B hml hv
  obtain ⟨hargs, hsz, hP, hK, hD0⟩ := hv
  have hx := B.exec
  have hb := B.bytes
  have hr := B.returns
  have hts := atoms_spec (ws := wsX11_worth) B.pre
  have hown : s.vm.findClass RX11 = some m.cls := findClass_of_methodNamed B.named
  have hlocks := B.notSynchronized
  have hin := inX11_worth
  have hsz : s.heap.size = sz := hsz
  subst hsz
  have hD := hD0.self (sz := s.heap.size)
  generalize hAe : va_A (wM tI tZ h M) s.heap.size = A at hD ⊢
  have hA : ∀ q : Nat, s.heap.size ≤ q → A q := fun q h => by rw [← hAe]; exact Or.inr h
  have hS : va_S A s.heap s.heap [] := va_S.rf
  have hl := lv_entry ([.ref (h 0), .int p0, .int p1]) (n := 5) (Nat.le_of_ble_eq_true rfl)
  rw [show entryFrame m args 5 = entryFrame m ([.ref (h 0), .int p0, .int p1] : List Value).toArray 5 from by rw [hargs], lg_entry_eq]
  generalize (lg_sl ([.ref (h 0), .int p0, .int p1]) ++ List.replicate (5 - (lg_sl ([.ref (h 0), .int p0, .int p1])).length) Slot.unset).toArray = ls at hl ⊢
  have hl : lv_has ls 5 [(0, .ref (h 0)), (1, .int p0), (2, .int p1)] := hl
  unfold f_X11_worth at hf
  refine lv_aload_n hx hb dX11_worth_0 rfl (lv_at hl 0 rfl) ?_
  refine lv_iload_n hx hb dX11_worth_1 rfl (lv_at hl 1 rfl) ?_
  obtain ⟨r1, er1, hf⟩ := bd hf
  refine klMi (rest := []) (As := [.int p0]) ⟨hx, hb, hml, hown, hts⟩ (c_X11_isBand l dC dI tI tZ h s.heap.size M p0 r1 er1) (cwV 1 hts gX11_worth_X11_isBand rfl rfl rfl (by decide +kernel) ⟨Nat.le_of_ble_eq_true rfl, Nat.le_of_ble_eq_true rfl⟩) rfl hl.1 rfl (Nat.le_of_ble_eq_true rfl) dX11_worth_2 ⟨Nat.zero_le _, Nat.zero_le _⟩ hK hP hD hS hA (fun H locs hP hD hS => ?_)
  refine lv_if_eq (tgt := 25) hx hb dX11_worth_5 (by decide) (fun c21 => ?_) (fun c21 => ?_)
  · have hf := (if_pos c21).symm.trans hf
    refine lv_aload_n hx hb dX11_worth_25 rfl (lv_at hl 0 rfl) ?_
    refine lv_sipush (v := (-1000)) hx hb dX11_worth_26 (by decide) ?_
    obtain ⟨r2, M3, er2, hf⟩ := b2 hf
    refine klMi (rest := []) (As := [.int (-1000)]) ⟨hx, hb, hml, hown, hts⟩ (c_X11_bad l dC dI tI tZ h H.size M (-1000) r2 M3 er2) (cwV 1 hts gX11_worth_X11_bad rfl rfl rfl (by decide +kernel) ⟨Nat.le_of_ble_eq_true rfl, Nat.le_of_ble_eq_true rfl⟩) rfl hl.1 rfl (Nat.le_of_ble_eq_true rfl) dX11_worth_29 ⟨Nat.zero_le _, Nat.zero_le _⟩ hK hP hD hS hA (fun H locs hP hD hS => ?_)
    exact rtMi hx hb hr hlocks hK hP hD hS hf dX11_worth_32
  · have hf := (if_neg c21).symm.trans hf
    refine lv_aload_n hx hb dX11_worth_8 rfl (lv_at hl 0 rfl) ?_
    refine lv_iload_n hx hb dX11_worth_9 rfl (lv_at hl 2 rfl) ?_
    obtain ⟨r4, er4, hf⟩ := bd hf
    refine klMi (rest := []) (As := [.int p1]) ⟨hx, hb, hml, hown, hts⟩ (c_X11_isPorter l dC dI tI tZ h H.size M p1 r4 er4) (cwV 1 hts gX11_worth_X11_isPorter rfl rfl rfl (by decide +kernel) ⟨Nat.le_of_ble_eq_true rfl, Nat.le_of_ble_eq_true rfl⟩) rfl hl.1 rfl (Nat.le_of_ble_eq_true rfl) dX11_worth_10 ⟨Nat.zero_le _, Nat.zero_le _⟩ hK hP hD hS hA (fun H locs hP hD hS => ?_)
    refine lv_if_eq (tgt := 25) hx hb dX11_worth_13 (by decide) (fun c20 => ?_) (fun c20 => ?_)
    · have hf := (if_pos c20).symm.trans hf
      refine lv_aload_n hx hb dX11_worth_25 rfl (lv_at hl 0 rfl) ?_
      refine lv_sipush (v := (-1000)) hx hb dX11_worth_26 (by decide) ?_
      obtain ⟨r5, M6, er5, hf⟩ := b2 hf
      refine klMi (rest := []) (As := [.int (-1000)]) ⟨hx, hb, hml, hown, hts⟩ (c_X11_bad l dC dI tI tZ h H.size M (-1000) r5 M6 er5) (cwV 1 hts gX11_worth_X11_bad rfl rfl rfl (by decide +kernel) ⟨Nat.le_of_ble_eq_true rfl, Nat.le_of_ble_eq_true rfl⟩) rfl hl.1 rfl (Nat.le_of_ble_eq_true rfl) dX11_worth_29 ⟨Nat.zero_le _, Nat.zero_le _⟩ hK hP hD hS hA (fun H locs hP hD hS => ?_)
      exact rtMi hx hb hr hlocks hK hP hD hS hf dX11_worth_32
    · have hf := (if_neg c20).symm.trans hf
      refine lv_iload_n hx hb dX11_worth_16 rfl (lv_at hl 1 rfl) ?_
      refine lv_iload_n hx hb dX11_worth_17 rfl (lv_at hl 2 rfl) ?_
      refine lv_ishr hx hb dX11_worth_18 ?_
      refine lv_iconst (v := 1) hx hb dX11_worth_19 (by decide) ?_
      refine lv_iand hx hb dX11_worth_20 ?_
      refine lv_iconst (v := 1) hx hb dX11_worth_21 (by decide) ?_
      refine lv_icmp_ne (tgt := 33) hx hb dX11_worth_22 (by decide) (fun c19 => ?_) (fun c19 => ?_)
      · have hf := (if_neg c19).symm.trans hf
        refine lv_aload_n hx hb dX11_worth_33 rfl (lv_at hl 0 rfl) ?_
        refine lv_iload_n hx hb dX11_worth_34 rfl (lv_at hl 1 rfl) ?_
        refine lv_iconst (v := (-1)) hx hb dX11_worth_35 (by decide) ?_
        obtain ⟨r7, M8, er7, hf⟩ := b2 hf
        refine klMi (rest := []) (As := [.int p0, .int (-1)]) ⟨hx, hb, hml, hown, hts⟩ (c_X11_findLeast l dC dI tI tZ h H.size M p0 (-1) r7 M8 er7) (cwV 2 hts gX11_worth_X11_findLeast rfl rfl rfl (by decide +kernel) ⟨Nat.le_of_ble_eq_true rfl, Nat.le_of_ble_eq_true rfl⟩) rfl hl.1 rfl (Nat.le_of_ble_eq_true rfl) dX11_worth_36 ⟨Nat.zero_le _, Nat.zero_le _⟩ hK hP hD hS hA (fun H locs hP hD hS => ?_)
        refine lv_istore_n (lv' := [(3, .int r7), (0, .ref (h 0)), (1, .int p0), (2, .int p1)]) hx hb dX11_worth_39 rfl hl (by decide) rfl (fun ls hl => ?_)
        refine lv_aload_n hx hb dX11_worth_40 rfl (lv_at hl 1 rfl) ?_
        refine lv_iload_n hx hb dX11_worth_41 rfl (lv_at hl 2 rfl) ?_
        refine lv_iload_n hx hb dX11_worth_42 rfl (lv_at hl 3 rfl) ?_
        obtain ⟨r9, M10, er9, hf⟩ := b2 hf
        refine klMi (rest := []) (As := [.int p0, .int p1]) ⟨hx, hb, hml, hown, hts⟩ (c_X11_findLeast l dC dI tI tZ h H.size M8 p0 p1 r9 M10 er9) (cwV 2 hts gX11_worth_X11_findLeast rfl rfl rfl (by decide +kernel) ⟨Nat.le_of_ble_eq_true rfl, Nat.le_of_ble_eq_true rfl⟩) rfl hl.1 rfl (Nat.le_of_ble_eq_true rfl) dX11_worth_43 ⟨Nat.zero_le _, Nat.zero_le _⟩ hK hP hD hS hA (fun H locs hP hD hS => ?_)
        refine lv_istore (lv' := [(4, .int r9), (3, .int r7), (0, .ref (h 0)), (1, .int p0), (2, .int p1)]) hx hb dX11_worth_46 hl (by decide) rfl (fun ls hl => ?_)
        refine lv_iload_n hx hb dX11_worth_48 rfl (lv_at hl 1 rfl) ?_
        refine lv_ldc (v := 1000000) hx hb hown (hts (.constant RX11 220 (1000000)) (by decide +kernel)) dX11_worth_49 ?_
        refine lv_icmp_eq (tgt := 61) hx hb dX11_worth_51 (by decide) (fun c16 => ?_) (fun c16 => ?_)
        · have hf := (if_pos c16).symm.trans hf
          refine lv_aload_n hx hb dX11_worth_61 rfl (lv_at hl 2 rfl) ?_
          refine lv_sipush (v := (-2000)) hx hb dX11_worth_62 (by decide) ?_
          obtain ⟨r11, M12, er11, hf⟩ := b2 hf
          refine klMi (rest := []) (As := [.int (-2000)]) ⟨hx, hb, hml, hown, hts⟩ (c_X11_no l dC dI tI tZ h H.size M10 (-2000) r11 M12 er11) (cwV 1 hts gX11_worth_X11_no rfl rfl rfl (by decide +kernel) ⟨Nat.le_of_ble_eq_true rfl, Nat.le_of_ble_eq_true rfl⟩) rfl hl.1 rfl (Nat.le_of_ble_eq_true rfl) dX11_worth_65 ⟨Nat.zero_le _, Nat.zero_le _⟩ hK hP hD hS hA (fun H locs hP hD hS => ?_)
          refine lv_goto (tgt := 75) hx hb dX11_worth_68 (by decide) ?_
          exact rtMi hx hb hr hlocks hK hP hD hS hf dX11_worth_75
        · have hf := (if_neg c16).symm.trans hf
          refine lv_iload hx hb dX11_worth_54 (lv_at hl 0 rfl) ?_
          refine lv_ldc (v := 1000000) hx hb hown (hts (.constant RX11 220 (1000000)) (by decide +kernel)) dX11_worth_56 ?_
          refine lv_icmp_ne (tgt := 71) hx hb dX11_worth_58 (by decide) (fun c15 => ?_) (fun c15 => ?_)
          · have hf := (if_neg c15).symm.trans hf
            refine lv_iload hx hb dX11_worth_71 (lv_at hl 0 rfl) ?_
            refine lv_iload_n hx hb dX11_worth_73 rfl (lv_at hl 1 rfl) ?_
            refine lv_isub hx hb dX11_worth_74 ?_
            exact rtMi hx hb hr hlocks hK hP hD hS hf dX11_worth_75
          · have hf := (if_pos c15).symm.trans hf
            refine lv_aload_n hx hb dX11_worth_61 rfl (lv_at hl 2 rfl) ?_
            refine lv_sipush (v := (-2000)) hx hb dX11_worth_62 (by decide) ?_
            obtain ⟨r13, M14, er13, hf⟩ := b2 hf
            refine klMi (rest := []) (As := [.int (-2000)]) ⟨hx, hb, hml, hown, hts⟩ (c_X11_no l dC dI tI tZ h H.size M10 (-2000) r13 M14 er13) (cwV 1 hts gX11_worth_X11_no rfl rfl rfl (by decide +kernel) ⟨Nat.le_of_ble_eq_true rfl, Nat.le_of_ble_eq_true rfl⟩) rfl hl.1 rfl (Nat.le_of_ble_eq_true rfl) dX11_worth_65 ⟨Nat.zero_le _, Nat.zero_le _⟩ hK hP hD hS hA (fun H locs hP hD hS => ?_)
            refine lv_goto (tgt := 75) hx hb dX11_worth_68 (by decide) ?_
            exact rtMi hx hb hr hlocks hK hP hD hS hf dX11_worth_75
      · have hf := (if_pos c19).symm.trans hf
        refine lv_aload_n hx hb dX11_worth_25 rfl (lv_at hl 0 rfl) ?_
        refine lv_sipush (v := (-1000)) hx hb dX11_worth_26 (by decide) ?_
        obtain ⟨r17, M18, er17, hf⟩ := b2 hf
        refine klMi (rest := []) (As := [.int (-1000)]) ⟨hx, hb, hml, hown, hts⟩ (c_X11_bad l dC dI tI tZ h H.size M (-1000) r17 M18 er17) (cwV 1 hts gX11_worth_X11_bad rfl rfl rfl (by decide +kernel) ⟨Nat.le_of_ble_eq_true rfl, Nat.le_of_ble_eq_true rfl⟩) rfl hl.1 rfl (Nat.le_of_ble_eq_true rfl) dX11_worth_29 ⟨Nat.zero_le _, Nat.zero_le _⟩ hK hP hD hS hA (fun H locs hP hD hS => ?_)
        exact rtMi hx hb hr hlocks hK hP hD hS hf dX11_worth_32

def k_X11_turnsOf_40 (p0 : Int32) (M4 : MS) : Option (Int32 × MS) :=
  Option.bind (rdI 64 (M4 21) p0) (fun x5 => some ((x5, M4)))
def k_X11_turnsOf_56 (y7 : Int32) (y10 : Int32) (M11 : MS) : Option ((Int32 × Int32 × MS) ⊕ MS) :=
  Option.bind (some (y7 + 1)) (fun x12 => some (Sum.inl (y10, x12, M11)))
def j_X11_turnsOf_128 (x9 : Int32) (y13 : Int32) (y14 : Int32) (M15 : MS) (k18 : Int32) : Option ((Int32 × Int32 × MS) ⊕ (Int32 × MS)) :=
  (if k18 = 0 then (Option.bind (some (y14 + 1)) (fun x19 => some (Sum.inl (y13, x19, M15)))) else (Option.bind (f_X11_firstIn y14) (fun r20 => Option.bind (f_X11_firstIn y14) (fun r21 => Option.bind (f_X11_firstIn (y14 &&& ((1 <<< (r21 &&& 31)) ^^^ (-1)))) (fun r22 => Option.bind (f_X11_areUnlike M15 r20 r22 0) (fun r23 => (if r23 = 0 then (Option.bind (some (y14 + 1)) (fun x24 => some (Sum.inl (y13, x24, M15)))) else (Option.bind (rdI 64 (M15 21) (x9 ^^^ y14)) (fun x25 => (if x25 = 1000000 then (Option.bind (rdI 64 (M15 21) x9) (fun x27 => Option.bind (wrM M15 21 64 (x9 ^^^ y14) (x27 + 1)) (fun M28 => Option.bind (wrM M28 22 64 y13 (x9 ^^^ y14)) (fun M29 => Option.bind (some (y13 + 1)) (fun x30 => Option.bind (some (y14 + 1)) (fun x31 => some (Sum.inl (x30, x31, M29)))))))) else (Option.bind (some (y14 + 1)) (fun x26 => some (Sum.inl (y13, x26, M15))))))))))))))
def j_X11_turnsOf_127 (x9 : Int32) (y13 : Int32) (y14 : Int32) (M15 : MS) : Option ((Int32 × Int32 × MS) ⊕ (Int32 × MS)) :=
  j_X11_turnsOf_128 x9 y13 y14 M15 0
def j_X11_turnsOf_88 (p0 : Int32) (x9 : Int32) (y13 : Int32) (y14 : Int32) (M15 : MS) (k17 : Int32) : Option ((Int32 × Int32 × MS) ⊕ (Int32 × MS)) :=
  (if (y14 &&& (p0 ^^^ (-1))) = 0 then ((if k17 = 0 then (j_X11_turnsOf_127 x9 y13 y14 M15) else (Option.bind (f_X11_manyIn y14) (fun r35 => (if r35 = 2 then (Option.bind (f_X11_anyNever M15 y14 0) (fun r36 => (if r36 = 0 then (j_X11_turnsOf_128 x9 y13 y14 M15 1) else (j_X11_turnsOf_127 x9 y13 y14 M15)))) else (j_X11_turnsOf_127 x9 y13 y14 M15)))))) else (j_X11_turnsOf_127 x9 y13 y14 M15))
def j_X11_turnsOf_83 (p0 : Int32) (x9 : Int32) (y13 : Int32) (y14 : Int32) (M15 : MS) : Option ((Int32 × Int32 × MS) ⊕ (Int32 × MS)) :=
  j_X11_turnsOf_88 p0 x9 y13 y14 M15 1
def b_X11_turnsOf_56 (p0 : Int32) (x9 : Int32) (y13 : Int32) (y14 : Int32) (M15 : MS) : Option ((Int32 × Int32 × MS) ⊕ (Int32 × MS)) :=
  Option.bind (f_X11_all M15) (fun r16 => (if r16 < y14 then (some (Sum.inr (y13, M15))) else ((if (x9 &&& y14) = 0 then (j_X11_turnsOf_83 p0 x9 y13 y14 M15) else ((if (x9 &&& y14) = y14 then (j_X11_turnsOf_83 p0 x9 y13 y14 M15) else (j_X11_turnsOf_88 p0 x9 y13 y14 M15 0)))))))
def b_X11_turnsOf_40 (p0 : Int32) (y6 : Int32) (y7 : Int32) (M8 : MS) : Option ((Int32 × Int32 × MS) ⊕ MS) :=
  (if y6 ≤ y7 then (some (Sum.inr M8)) else (Option.bind (rdI 64 (M8 22) y7) (fun x9 => Option.bind (lp (fun s => b_X11_turnsOf_56 p0 x9 s.1 s.2.1 s.2.2) FU (y6, 1, M8)) (fun s => k_X11_turnsOf_56 y7 s.1 s.2))))
def k_X11_turnsOf_2 (p0 : Int32) (M1 : MS) : Option (Int32 × MS) :=
  Option.bind (wrM M1 21 64 0 0) (fun M2 => Option.bind (wrM M2 22 64 0 0) (fun M3 => Option.bind (lp (fun s => b_X11_turnsOf_40 p0 s.1 s.2.1 s.2.2) FU (1, 0, M3)) (fun s => k_X11_turnsOf_40 p0 s)))
def b_X11_turnsOf_2 (y45 : Int32) (M46 : MS) : Option ((Int32 × MS) ⊕ MS) :=
  (if 64 ≤ y45 then (some (Sum.inr M46)) else (Option.bind (wrM M46 21 64 y45 1000000) (fun M47 => Option.bind (some (y45 + 1)) (fun x48 => some (Sum.inl (x48, M47))))))
def f_X11_turnsOf (M : MS) (p0 : Int32) : Option (Int32 × MS) :=
  Option.bind (lp (fun s => b_X11_turnsOf_2 s.1 s.2) FU (0, M)) (fun s => k_X11_turnsOf_2 p0 s)
def rmX11_turnsOf : Room := { frames := 3, cells := 0, slots := 0, locals := 70 }
abbrev RRX11_turnsOf : Room := (headSpec wsX11_turnsOf rmX11_turnsOf).room
theorem inX11_turnsOf : ∀ w ∈ wsX110, w ∈ wsX11_turnsOf := by decide +kernel
set_option maxHeartbeats 4000000 in
set_option maxRecDepth 100000 in
theorem c_X11_turnsOf (l : Launch) (dC : Nat → ClassId) (dI : Nat → Nat → Nat) (tI tZ : ClassId) (h : Nat → Nat) (sz : Nat) (M : MS) (p0 : Int32) (r : Int32) (M' : MS) (hf : f_X11_turnsOf M p0 = some (r, M')) : cMi l yX11_turnsOf wsX11_turnsOf rmX11_turnsOf dC dI tI tZ h sz [.ref (h 0), .int p0] M r M' := by
  refine Met.ofW (cc := cX11_turnsOf) (maxL := 8) (ret := (some .int)) (by decide) rfl ?_
  intro p e s m args below meth c s₁ B hml hv
  obtain ⟨hargs, hsz, hP, hK, hD0⟩ := hv
  have hx := B.exec
  have hb := B.bytes
  have hr := B.returns
  have hts := atoms_spec (ws := wsX11_turnsOf) B.pre
  have hown : s.vm.findClass RX11 = some m.cls := findClass_of_methodNamed B.named
  have hlocks := B.notSynchronized
  have hin := inX11_turnsOf
  have hsz : s.heap.size = sz := hsz
  subst hsz
  have lk41 : Cond.fieldLink RX11 41 (TX11 21).1 (TX11 21).2.1 (TX11 21).2.2.1 ∈ wsX11_turnsOf := by decide +kernel
  have lk44 : Cond.fieldLink RX11 44 (TX11 22).1 (TX11 22).2.1 (TX11 22).2.2.1 ∈ wsX11_turnsOf := by decide +kernel
  have hD := hD0.self (sz := s.heap.size)
  generalize hAe : va_A (wM tI tZ h M) s.heap.size = A at hD ⊢
  have hA : ∀ q : Nat, s.heap.size ≤ q → A q := fun q h => by rw [← hAe]; exact Or.inr h
  have hS : va_S A s.heap s.heap [] := va_S.rf
  have hl := lv_entry ([.ref (h 0), .int p0]) (n := 8) (Nat.le_of_ble_eq_true rfl)
  rw [show entryFrame m args 8 = entryFrame m ([.ref (h 0), .int p0] : List Value).toArray 8 from by rw [hargs], lg_entry_eq]
  generalize (lg_sl ([.ref (h 0), .int p0]) ++ List.replicate (8 - (lg_sl ([.ref (h 0), .int p0])).length) Slot.unset).toArray = ls at hl ⊢
  have hl : lv_has ls 8 [(0, .ref (h 0)), (1, .int p0)] := hl
  unfold f_X11_turnsOf at hf
  refine lv_iconst (v := 0) hx hb dX11_turnsOf_0 (by decide) ?_
  refine lv_istore_n (lv' := [(2, .int 0), (0, .ref (h 0)), (1, .int p0)]) hx hb dX11_turnsOf_1 rfl hl (by decide) rfl (fun ls hl => ?_)
  have K2 : ∀ (M1 : MS) (H : Heap) (locs : List Loc) (ls : Array Slot), k_X11_turnsOf_2 p0 M1 = some (r, M') → va_P (dC, dI) vwCl (wM tI tZ h M1) H → va_D A (wM tI tZ h M1) → va_S A s.heap H locs → lv_has ls 8 [(0, .ref (h 0)), (1, .int p0)] → W p l e RRX11_turnsOf s m args below meth c H locs 0 0 (MQ below (qcMi dC dI tI tZ A h r M') args s 0 0 A) (F0 m 22 ls []) := by
    intro M1 H locs ls hf hP hD hS hl
    unfold k_X11_turnsOf_2 at hf
    refine lv_aload_n hx hb dX11_turnsOf_22 rfl (lv_at hl 0 rfl) ?_
    refine geM hx hb hts hin hown hK hP 21 (by decide) lk41 rfl dX11_turnsOf_23 ?_
    refine lv_iconst (v := 0) hx hb dX11_turnsOf_26 (by decide) ?_
    refine lv_iconst (v := 0) hx hb dX11_turnsOf_27 (by decide) ?_
    obtain ⟨M2, hiM2, eM2, hf⟩ := wr_b hf
    refine va_iast hx hb hK hP hD hS 11 0 rfl rfl hiM2 dX11_turnsOf_28 (fun H locs hP hD hS => ?_)
    have hP : va_P (dC, dI) vwCl (wM tI tZ h M2) H := by rw [eM2]; exact hP
    have hD : va_D A (wM tI tZ h M2) := by rw [eM2]; exact hD
    refine lv_aload_n hx hb dX11_turnsOf_29 rfl (lv_at hl 0 rfl) ?_
    refine geM hx hb hts hin hown hK hP 22 (by decide) lk44 rfl dX11_turnsOf_30 ?_
    refine lv_iconst (v := 0) hx hb dX11_turnsOf_33 (by decide) ?_
    refine lv_iconst (v := 0) hx hb dX11_turnsOf_34 (by decide) ?_
    obtain ⟨M3, hiM3, eM3, hf⟩ := wr_b hf
    refine va_iast hx hb hK hP hD hS 12 0 rfl rfl hiM3 dX11_turnsOf_35 (fun H locs hP hD hS => ?_)
    have hP : va_P (dC, dI) vwCl (wM tI tZ h M3) H := by rw [eM3]; exact hP
    have hD : va_D A (wM tI tZ h M3) := by rw [eM3]; exact hD
    refine lv_iconst (v := 1) hx hb dX11_turnsOf_36 (by decide) ?_
    refine lv_istore_n (lv' := [(2, .int 1), (0, .ref (h 0)), (1, .int p0)]) hx hb dX11_turnsOf_37 rfl hl (by decide) rfl (fun ls hl => ?_)
    refine lv_iconst (v := 0) hx hb dX11_turnsOf_38 (by decide) ?_
    refine lv_istore_n (lv' := [(3, .int 0), (2, .int 1), (0, .ref (h 0)), (1, .int p0)]) hx hb dX11_turnsOf_39 rfl hl (by decide) rfl (fun ls hl => ?_)
    have K40 : ∀ (M4 : MS) (H : Heap) (locs : List Loc) (ls : Array Slot), k_X11_turnsOf_40 p0 M4 = some (r, M') → va_P (dC, dI) vwCl (wM tI tZ h M4) H → va_D A (wM tI tZ h M4) → va_S A s.heap H locs → lv_has ls 8 [(0, .ref (h 0)), (1, .int p0)] → W p l e RRX11_turnsOf s m args below meth c H locs 0 0 (MQ below (qcMi dC dI tI tZ A h r M') args s 0 0 A) (F0 m 223 ls []) := by
      intro M4 H locs ls hf hP hD hS hl
      unfold k_X11_turnsOf_40 at hf
      refine lv_aload_n hx hb dX11_turnsOf_223 rfl (lv_at hl 0 rfl) ?_
      refine geM hx hb hts hin hown hK hP 21 (by decide) lk41 rfl dX11_turnsOf_224 ?_
      refine lv_iload_n hx hb dX11_turnsOf_227 rfl (lv_at hl 1 rfl) ?_
      obtain ⟨x5, hix5, ex5, hf⟩ := rd_b hf
      refine va_iald hx hb hK hP 11 0 rfl rfl hix5 dX11_turnsOf_228 (kI ex5 ?_)
      exact rtMi hx hb hr hlocks hK hP hD hS hf dX11_turnsOf_229
    obtain ⟨z40, ez40, hz40⟩ := bd hf
    have L40 : ∀ (n : Nat) (y6 : Int32) (y7 : Int32) (M8 : MS) (H : Heap) (locs : List Loc) (ls : Array Slot), lp (fun s => b_X11_turnsOf_40 p0 s.1 s.2.1 s.2.2) n (y6, y7, M8) = some z40 → va_P (dC, dI) vwCl (wM tI tZ h M8) H → va_D A (wM tI tZ h M8) → va_S A s.heap H locs → lv_has ls 8 [(0, .ref (h 0)), (1, .int p0), (2, .int y6), (3, .int y7)] → W p l e RRX11_turnsOf s m args below meth c H locs 0 0 (MQ below (qcMi dC dI tI tZ A h r M') args s 0 0 A) (F0 m 40 ls []) := by
      intro n
      induction n with
      | zero => intro y6 y7 M8 H locs ls hf; exact lp_z hf
      | succ n ih40 =>
        intro y6 y7 M8 H locs ls hf hP hD hS hl
        obtain ⟨q40, hf, hq40⟩ := lp_i hf
        have hf : b_X11_turnsOf_40 p0 y6 y7 M8 = some q40 := hf
        unfold b_X11_turnsOf_40 at hf
        refine lv_iload_n hx hb dX11_turnsOf_40 rfl (lv_at hl 3 rfl) ?_
        refine lv_iload_n hx hb dX11_turnsOf_41 rfl (lv_at hl 2 rfl) ?_
        refine lv_icmp_ge (tgt := 223) hx hb dX11_turnsOf_42 (by decide) (fun c44 => ?_) (fun c44 => ?_)
        · have hf := (if_pos c44).symm.trans hf
          exact K40 M8 _ _ _ (lp_x (k := (fun s => k_X11_turnsOf_40 p0 s)) (lp_r hf hq40) hz40) hP hD hS (lv_sub hl [0, 1] rfl)
        · have hf := (if_neg c44).symm.trans hf
          refine lv_aload_n hx hb dX11_turnsOf_45 rfl (lv_at hl 0 rfl) ?_
          refine geM hx hb hts hin hown hK hP 22 (by decide) lk44 rfl dX11_turnsOf_46 ?_
          refine lv_iload_n hx hb dX11_turnsOf_49 rfl (lv_at hl 3 rfl) ?_
          obtain ⟨x9, hix9, ex9, hf⟩ := rd_b hf
          refine va_iald hx hb hK hP 12 0 rfl rfl hix9 dX11_turnsOf_50 (kI ex9 ?_)
          refine lv_istore (lv' := [(4, .int x9), (0, .ref (h 0)), (1, .int p0), (2, .int y6), (3, .int y7)]) hx hb dX11_turnsOf_51 hl (by decide) rfl (fun ls hl => ?_)
          refine lv_iconst (v := 1) hx hb dX11_turnsOf_53 (by decide) ?_
          refine lv_istore (lv' := [(5, .int 1), (4, .int x9), (0, .ref (h 0)), (1, .int p0), (2, .int y6), (3, .int y7)]) hx hb dX11_turnsOf_54 hl (by decide) rfl (fun ls hl => ?_)
          have K56 : ∀ (y10 : Int32) (M11 : MS) (H : Heap) (locs : List Loc) (ls : Array Slot), k_X11_turnsOf_56 y7 y10 M11 = some q40 → va_P (dC, dI) vwCl (wM tI tZ h M11) H → va_D A (wM tI tZ h M11) → va_S A s.heap H locs → lv_has ls 8 [(0, .ref (h 0)), (1, .int p0), (2, .int y10), (3, .int y7)] → W p l e RRX11_turnsOf s m args below meth c H locs 0 0 (MQ below (qcMi dC dI tI tZ A h r M') args s 0 0 A) (F0 m 217 ls []) := by
            intro y10 M11 H locs ls hf hP hD hS hl
            unfold k_X11_turnsOf_56 at hf
            obtain ⟨x12, ex12, hf⟩ := bn hf
            refine lv_iinc (v := x12) (lv' := [(3, .int x12), (0, .ref (h 0)), (1, .int p0), (2, .int y10)]) hx hb dX11_turnsOf_217 hl (k := 3) rfl (by rw [ex12]; rfl) (by decide) rfl (fun ls hl => ?_)
            refine lv_goto (tgt := 40) hx hb dX11_turnsOf_220 (by decide) ?_
            exact ih40 y10 x12 M11 _ _ _ (lp_l hf hq40) hP hD hS (lv_sub hl [1, 2, 3, 0] rfl)
          obtain ⟨z56, ez56, hz56⟩ := bd hf
          have L56 : ∀ (n : Nat) (y13 : Int32) (y14 : Int32) (M15 : MS) (H : Heap) (locs : List Loc) (ls : Array Slot), lp (fun s => b_X11_turnsOf_56 p0 x9 s.1 s.2.1 s.2.2) n (y13, y14, M15) = some z56 → va_P (dC, dI) vwCl (wM tI tZ h M15) H → va_D A (wM tI tZ h M15) → va_S A s.heap H locs → lv_has ls 8 [(0, .ref (h 0)), (1, .int p0), (2, .int y13), (3, .int y7), (4, .int x9), (5, .int y14)] → W p l e RRX11_turnsOf s m args below meth c H locs 0 0 (MQ below (qcMi dC dI tI tZ A h r M') args s 0 0 A) (F0 m 56 ls []) := by
            intro n
            induction n with
            | zero => intro y13 y14 M15 H locs ls hf; exact lp_z hf
            | succ n ih56 =>
              intro y13 y14 M15 H locs ls hf hP hD hS hl
              obtain ⟨q56, hf, hq56⟩ := lp_i hf
              have hf : b_X11_turnsOf_56 p0 x9 y13 y14 M15 = some q56 := hf
              unfold b_X11_turnsOf_56 at hf
              refine lv_iload hx hb dX11_turnsOf_56 (lv_at hl 5 rfl) ?_
              refine lv_aload_n hx hb dX11_turnsOf_58 rfl (lv_at hl 0 rfl) ?_
              obtain ⟨r16, er16, hf⟩ := bd hf
              refine klMi (rest := [.int y14]) (As := []) ⟨hx, hb, hml, hown, hts⟩ (c_X11_all l dC dI tI tZ h H.size M15 r16 er16) (cwV 0 hts gX11_turnsOf_X11_all rfl rfl rfl (by decide +kernel) ⟨Nat.le_of_ble_eq_true rfl, Nat.le_of_ble_eq_true rfl⟩) rfl hl.1 rfl (Nat.le_of_ble_eq_true rfl) dX11_turnsOf_59 ⟨Nat.zero_le _, Nat.zero_le _⟩ hK hP hD hS hA (fun H locs hP hD hS => ?_)
              refine lv_icmp_gt (tgt := 217) hx hb dX11_turnsOf_62 (by decide) (fun c43 => ?_) (fun c43 => ?_)
              · have hf := (if_pos c43).symm.trans hf
                exact K56 y13 M15 _ _ _ (lp_x (k := (fun s => k_X11_turnsOf_56 y7 s.1 s.2)) (lp_r hf hq56) hz56) hP hD hS (lv_sub hl [0, 1, 2, 3] rfl)
              · have hf := (if_neg c43).symm.trans hf
                refine lv_iload hx hb dX11_turnsOf_65 (lv_at hl 4 rfl) ?_
                refine lv_iload hx hb dX11_turnsOf_67 (lv_at hl 5 rfl) ?_
                refine lv_iand hx hb dX11_turnsOf_69 ?_
                have J88 : ∀ (k17 : Int32) (H : Heap) (locs : List Loc) (ls : Array Slot), j_X11_turnsOf_88 p0 x9 y13 y14 M15 k17 = some q56 → va_P (dC, dI) vwCl (wM tI tZ h M15) H → va_D A (wM tI tZ h M15) → va_S A s.heap H locs → lv_has ls 8 [(0, .ref (h 0)), (1, .int p0), (2, .int y13), (3, .int y7), (4, .int x9), (5, .int y14)] → W p l e RRX11_turnsOf s m args below meth c H locs 0 0 (MQ below (qcMi dC dI tI tZ A h r M') args s 0 0 A) (F0 m 88 ls [.int k17]) := by
                  intro k17 H locs ls hf hP hD hS hl
                  unfold j_X11_turnsOf_88 at hf
                  refine lv_istore (lv' := [(6, .int k17), (0, .ref (h 0)), (1, .int p0), (2, .int y13), (3, .int y7), (4, .int x9), (5, .int y14)]) hx hb dX11_turnsOf_88 hl (by decide) rfl (fun ls hl => ?_)
                  refine lv_iload hx hb dX11_turnsOf_90 (lv_at hl 6 rfl) ?_
                  refine lv_iload_n hx hb dX11_turnsOf_92 rfl (lv_at hl 2 rfl) ?_
                  refine lv_iconst (v := (-1)) hx hb dX11_turnsOf_93 (by decide) ?_
                  refine lv_ixor hx hb dX11_turnsOf_94 ?_
                  refine lv_iand hx hb dX11_turnsOf_95 ?_
                  have J128 : ∀ (k18 : Int32) (H : Heap) (locs : List Loc) (ls : Array Slot), j_X11_turnsOf_128 x9 y13 y14 M15 k18 = some q56 → va_P (dC, dI) vwCl (wM tI tZ h M15) H → va_D A (wM tI tZ h M15) → va_S A s.heap H locs → lv_has ls 8 [(0, .ref (h 0)), (1, .int p0), (2, .int y13), (3, .int y7), (4, .int x9), (5, .int y14)] → W p l e RRX11_turnsOf s m args below meth c H locs 0 0 (MQ below (qcMi dC dI tI tZ A h r M') args s 0 0 A) (F0 m 128 ls [.int k18]) := by
                    intro k18 H locs ls hf hP hD hS hl
                    unfold j_X11_turnsOf_128 at hf
                    refine lv_istore (lv' := [(7, .int k18), (0, .ref (h 0)), (1, .int p0), (2, .int y13), (3, .int y7), (4, .int x9), (5, .int y14)]) hx hb dX11_turnsOf_128 hl (by decide) rfl (fun ls hl => ?_)
                    refine lv_iload hx hb dX11_turnsOf_130 (lv_at hl 0 rfl) ?_
                    refine lv_if_eq (tgt := 211) hx hb dX11_turnsOf_132 (by decide) (fun c34 => ?_) (fun c34 => ?_)
                    · have hf := (if_pos c34).symm.trans hf
                      obtain ⟨x19, ex19, hf⟩ := bn hf
                      refine lv_iinc (v := x19) (lv' := [(5, .int x19), (7, .int k18), (0, .ref (h 0)), (1, .int p0), (2, .int y13), (3, .int y7), (4, .int x9)]) hx hb dX11_turnsOf_211 hl (k := 6) rfl (by rw [ex19]; rfl) (by decide) rfl (fun ls hl => ?_)
                      refine lv_goto (tgt := 56) hx hb dX11_turnsOf_214 (by decide) ?_
                      exact ih56 y13 x19 M15 _ _ _ (lp_l hf hq56) hP hD hS (lv_sub hl [2, 3, 4, 5, 6, 0] rfl)
                    · have hf := (if_neg c34).symm.trans hf
                      refine lv_aload_n hx hb dX11_turnsOf_135 rfl (lv_at hl 1 rfl) ?_
                      refine lv_iload hx hb dX11_turnsOf_136 (lv_at hl 6 rfl) ?_
                      obtain ⟨r20, er20, hf⟩ := bd hf
                      refine klEi (rest := [.ref (h 0)]) (As := [.int y14]) ⟨hx, hb, hml, hown, hts⟩ (c_X11_firstIn l H.size y14 r20 er20) (va_cwS 1 hts gX11_turnsOf_X11_firstIn rfl rfl rfl (by decide +kernel) ⟨Nat.le_of_ble_eq_true rfl, Nat.le_of_ble_eq_true rfl⟩) rfl hl.1 rfl (Nat.le_of_ble_eq_true rfl) dX11_turnsOf_138 ⟨Nat.zero_le _, Nat.zero_le _⟩ hS hA (fun H2 locs hk hS => ?_)
                      have hP := kpP hP hk
                      generalize H2 = H at hP hS ⊢
                      refine lv_iload hx hb dX11_turnsOf_141 (lv_at hl 6 rfl) ?_
                      refine lv_iconst (v := 1) hx hb dX11_turnsOf_143 (by decide) ?_
                      refine lv_iload hx hb dX11_turnsOf_144 (lv_at hl 6 rfl) ?_
                      obtain ⟨r21, er21, hf⟩ := bd hf
                      refine klEi (rest := [.int 1, .int y14, .int r20, .ref (h 0)]) (As := [.int y14]) ⟨hx, hb, hml, hown, hts⟩ (c_X11_firstIn l H.size y14 r21 er21) (va_cwS 1 hts gX11_turnsOf_X11_firstIn rfl rfl rfl (by decide +kernel) ⟨Nat.le_of_ble_eq_true rfl, Nat.le_of_ble_eq_true rfl⟩) rfl hl.1 rfl (Nat.le_of_ble_eq_true rfl) dX11_turnsOf_146 ⟨Nat.zero_le _, Nat.zero_le _⟩ hS hA (fun H2 locs hk hS => ?_)
                      have hP := kpP hP hk
                      generalize H2 = H at hP hS ⊢
                      refine lv_ishl hx hb dX11_turnsOf_149 ?_
                      refine lv_iconst (v := (-1)) hx hb dX11_turnsOf_150 (by decide) ?_
                      refine lv_ixor hx hb dX11_turnsOf_151 ?_
                      refine lv_iand hx hb dX11_turnsOf_152 ?_
                      obtain ⟨r22, er22, hf⟩ := bd hf
                      refine klEi (rest := [.int r20, .ref (h 0)]) (As := [.int (y14 &&& ((1 <<< (r21 &&& 31)) ^^^ (-1)))]) ⟨hx, hb, hml, hown, hts⟩ (c_X11_firstIn l H.size (y14 &&& ((1 <<< (r21 &&& 31)) ^^^ (-1))) r22 er22) (va_cwS 1 hts gX11_turnsOf_X11_firstIn rfl rfl rfl (by decide +kernel) ⟨Nat.le_of_ble_eq_true rfl, Nat.le_of_ble_eq_true rfl⟩) rfl hl.1 rfl (Nat.le_of_ble_eq_true rfl) dX11_turnsOf_153 ⟨Nat.zero_le _, Nat.zero_le _⟩ hS hA (fun H2 locs hk hS => ?_)
                      have hP := kpP hP hk
                      generalize H2 = H at hP hS ⊢
                      refine lv_iconst (v := 0) hx hb dX11_turnsOf_156 (by decide) ?_
                      obtain ⟨r23, er23, hf⟩ := bd hf
                      refine klMi (rest := []) (As := [.int r20, .int r22, .int 0]) ⟨hx, hb, hml, hown, hts⟩ (c_X11_areUnlike l dC dI tI tZ h H.size M15 r20 r22 0 r23 er23) (cwV 3 hts gX11_turnsOf_X11_areUnlike rfl rfl rfl (by decide +kernel) ⟨Nat.le_of_ble_eq_true rfl, Nat.le_of_ble_eq_true rfl⟩) rfl hl.1 rfl (Nat.le_of_ble_eq_true rfl) dX11_turnsOf_157 ⟨Nat.zero_le _, Nat.zero_le _⟩ hK hP hD hS hA (fun H locs hP hD hS => ?_)
                      refine lv_if_eq (tgt := 211) hx hb dX11_turnsOf_160 (by decide) (fun c33 => ?_) (fun c33 => ?_)
                      · have hf := (if_pos c33).symm.trans hf
                        obtain ⟨x24, ex24, hf⟩ := bn hf
                        refine lv_iinc (v := x24) (lv' := [(5, .int x24), (7, .int k18), (0, .ref (h 0)), (1, .int p0), (2, .int y13), (3, .int y7), (4, .int x9)]) hx hb dX11_turnsOf_211 hl (k := 6) rfl (by rw [ex24]; rfl) (by decide) rfl (fun ls hl => ?_)
                        refine lv_goto (tgt := 56) hx hb dX11_turnsOf_214 (by decide) ?_
                        exact ih56 y13 x24 M15 _ _ _ (lp_l hf hq56) hP hD hS (lv_sub hl [2, 3, 4, 5, 6, 0] rfl)
                      · have hf := (if_neg c33).symm.trans hf
                        refine lv_aload_n hx hb dX11_turnsOf_163 rfl (lv_at hl 1 rfl) ?_
                        refine geM hx hb hts hin hown hK hP 21 (by decide) lk41 rfl dX11_turnsOf_164 ?_
                        refine lv_iload hx hb dX11_turnsOf_167 (lv_at hl 5 rfl) ?_
                        refine lv_iload hx hb dX11_turnsOf_169 (lv_at hl 6 rfl) ?_
                        refine lv_ixor hx hb dX11_turnsOf_171 ?_
                        obtain ⟨x25, hix25, ex25, hf⟩ := rd_b hf
                        refine va_iald hx hb hK hP 11 0 rfl rfl hix25 dX11_turnsOf_172 (kI ex25 ?_)
                        refine lv_ldc (v := 1000000) hx hb hown (hts (.constant RX11 220 (1000000)) (by decide +kernel)) dX11_turnsOf_173 ?_
                        refine lv_icmp_ne (tgt := 211) hx hb dX11_turnsOf_175 (by decide) (fun c32 => ?_) (fun c32 => ?_)
                        · have hf := (if_neg c32).symm.trans hf
                          obtain ⟨x26, ex26, hf⟩ := bn hf
                          refine lv_iinc (v := x26) (lv' := [(5, .int x26), (7, .int k18), (0, .ref (h 0)), (1, .int p0), (2, .int y13), (3, .int y7), (4, .int x9)]) hx hb dX11_turnsOf_211 hl (k := 6) rfl (by rw [ex26]; rfl) (by decide) rfl (fun ls hl => ?_)
                          refine lv_goto (tgt := 56) hx hb dX11_turnsOf_214 (by decide) ?_
                          exact ih56 y13 x26 M15 _ _ _ (lp_l hf hq56) hP hD hS (lv_sub hl [2, 3, 4, 5, 6, 0] rfl)
                        · have hf := (if_pos c32).symm.trans hf
                          refine lv_aload_n hx hb dX11_turnsOf_178 rfl (lv_at hl 1 rfl) ?_
                          refine geM hx hb hts hin hown hK hP 21 (by decide) lk41 rfl dX11_turnsOf_179 ?_
                          refine lv_iload hx hb dX11_turnsOf_182 (lv_at hl 5 rfl) ?_
                          refine lv_iload hx hb dX11_turnsOf_184 (lv_at hl 6 rfl) ?_
                          refine lv_ixor hx hb dX11_turnsOf_186 ?_
                          refine lv_aload_n hx hb dX11_turnsOf_187 rfl (lv_at hl 1 rfl) ?_
                          refine geM hx hb hts hin hown hK hP 21 (by decide) lk41 rfl dX11_turnsOf_188 ?_
                          refine lv_iload hx hb dX11_turnsOf_191 (lv_at hl 5 rfl) ?_
                          obtain ⟨x27, hix27, ex27, hf⟩ := rd_b hf
                          refine va_iald hx hb hK hP 11 0 rfl rfl hix27 dX11_turnsOf_193 (kI ex27 ?_)
                          refine lv_iconst (v := 1) hx hb dX11_turnsOf_194 (by decide) ?_
                          refine lv_iadd hx hb dX11_turnsOf_195 ?_
                          obtain ⟨M28, hiM28, eM28, hf⟩ := wr_b hf
                          refine va_iast hx hb hK hP hD hS 11 0 rfl rfl hiM28 dX11_turnsOf_196 (fun H locs hP hD hS => ?_)
                          have hP : va_P (dC, dI) vwCl (wM tI tZ h M28) H := by rw [eM28]; exact hP
                          have hD : va_D A (wM tI tZ h M28) := by rw [eM28]; exact hD
                          refine lv_aload_n hx hb dX11_turnsOf_197 rfl (lv_at hl 1 rfl) ?_
                          refine geM hx hb hts hin hown hK hP 22 (by decide) lk44 rfl dX11_turnsOf_198 ?_
                          refine lv_iload_n hx hb dX11_turnsOf_201 rfl (lv_at hl 3 rfl) ?_
                          refine lv_iload hx hb dX11_turnsOf_202 (lv_at hl 5 rfl) ?_
                          refine lv_iload hx hb dX11_turnsOf_204 (lv_at hl 6 rfl) ?_
                          refine lv_ixor hx hb dX11_turnsOf_206 ?_
                          obtain ⟨M29, hiM29, eM29, hf⟩ := wr_b hf
                          refine va_iast hx hb hK hP hD hS 12 0 rfl rfl hiM29 dX11_turnsOf_207 (fun H locs hP hD hS => ?_)
                          have hP : va_P (dC, dI) vwCl (wM tI tZ h M29) H := by rw [eM29]; exact hP
                          have hD : va_D A (wM tI tZ h M29) := by rw [eM29]; exact hD
                          obtain ⟨x30, ex30, hf⟩ := bn hf
                          refine lv_iinc (v := x30) (lv' := [(2, .int x30), (7, .int k18), (0, .ref (h 0)), (1, .int p0), (3, .int y7), (4, .int x9), (5, .int y14)]) hx hb dX11_turnsOf_208 hl (k := 3) rfl (by rw [ex30]; rfl) (by decide) rfl (fun ls hl => ?_)
                          obtain ⟨x31, ex31, hf⟩ := bn hf
                          refine lv_iinc (v := x31) (lv' := [(5, .int x31), (2, .int x30), (7, .int k18), (0, .ref (h 0)), (1, .int p0), (3, .int y7), (4, .int x9)]) hx hb dX11_turnsOf_211 hl (k := 6) rfl (by rw [ex31]; rfl) (by decide) rfl (fun ls hl => ?_)
                          refine lv_goto (tgt := 56) hx hb dX11_turnsOf_214 (by decide) ?_
                          exact ih56 x30 x31 M29 _ _ _ (lp_l hf hq56) hP hD hS (lv_sub hl [3, 4, 1, 5, 6, 0] rfl)
                  have J127 : ∀  (H : Heap) (locs : List Loc) (ls : Array Slot), j_X11_turnsOf_127 x9 y13 y14 M15 = some q56 → va_P (dC, dI) vwCl (wM tI tZ h M15) H → va_D A (wM tI tZ h M15) → va_S A s.heap H locs → lv_has ls 8 [(0, .ref (h 0)), (1, .int p0), (2, .int y13), (3, .int y7), (4, .int x9), (5, .int y14)] → W p l e RRX11_turnsOf s m args below meth c H locs 0 0 (MQ below (qcMi dC dI tI tZ A h r M') args s 0 0 A) (F0 m 127 ls []) := by
                    intro  H locs ls hf hP hD hS hl
                    unfold j_X11_turnsOf_127 at hf
                    refine lv_iconst (v := 0) hx hb dX11_turnsOf_127 (by decide) ?_
                    exact J128 0 _ _ _ hf hP hD hS (lv_sub hl [0, 1, 2, 3, 4, 5] rfl)
                  refine lv_if_ne (tgt := 127) hx hb dX11_turnsOf_96 (by decide) (fun c40 => ?_) (fun c40 => ?_)
                  · have hf := (if_neg c40).symm.trans hf
                    exact J127  _ _ _ hf hP hD hS (lv_sub hl [1, 2, 3, 4, 5, 6] rfl)
                  · have hf := (if_pos c40).symm.trans hf
                    refine lv_iload hx hb dX11_turnsOf_99 (lv_at hl 0 rfl) ?_
                    refine lv_if_eq (tgt := 127) hx hb dX11_turnsOf_101 (by decide) (fun c39 => ?_) (fun c39 => ?_)
                    · have hf := (if_pos c39).symm.trans hf
                      exact J127  _ _ _ hf hP hD hS (lv_sub hl [1, 2, 3, 4, 5, 6] rfl)
                    · have hf := (if_neg c39).symm.trans hf
                      refine lv_iload hx hb dX11_turnsOf_104 (lv_at hl 6 rfl) ?_
                      obtain ⟨r35, er35, hf⟩ := bd hf
                      refine klEi (rest := []) (As := [.int y14]) ⟨hx, hb, hml, hown, hts⟩ (c_X11_manyIn l H.size y14 r35 er35) (va_cwS 1 hts gX11_turnsOf_X11_manyIn rfl rfl rfl (by decide +kernel) ⟨Nat.le_of_ble_eq_true rfl, Nat.le_of_ble_eq_true rfl⟩) rfl hl.1 rfl (Nat.le_of_ble_eq_true rfl) dX11_turnsOf_106 ⟨Nat.zero_le _, Nat.zero_le _⟩ hS hA (fun H2 locs hk hS => ?_)
                      have hP := kpP hP hk
                      generalize H2 = H at hP hS ⊢
                      refine lv_iconst (v := 2) hx hb dX11_turnsOf_109 (by decide) ?_
                      refine lv_icmp_ne (tgt := 127) hx hb dX11_turnsOf_110 (by decide) (fun c38 => ?_) (fun c38 => ?_)
                      · have hf := (if_neg c38).symm.trans hf
                        exact J127  _ _ _ hf hP hD hS (lv_sub hl [1, 2, 3, 4, 5, 6] rfl)
                      · have hf := (if_pos c38).symm.trans hf
                        refine lv_aload_n hx hb dX11_turnsOf_113 rfl (lv_at hl 1 rfl) ?_
                        refine lv_iload hx hb dX11_turnsOf_114 (lv_at hl 6 rfl) ?_
                        refine lv_iconst (v := 0) hx hb dX11_turnsOf_116 (by decide) ?_
                        obtain ⟨r36, er36, hf⟩ := bd hf
                        refine klMi (rest := []) (As := [.int y14, .int 0]) ⟨hx, hb, hml, hown, hts⟩ (c_X11_anyNever l dC dI tI tZ h H.size M15 y14 0 r36 er36) (cwV 2 hts gX11_turnsOf_X11_anyNever rfl rfl rfl (by decide +kernel) ⟨Nat.le_of_ble_eq_true rfl, Nat.le_of_ble_eq_true rfl⟩) rfl hl.1 rfl (Nat.le_of_ble_eq_true rfl) dX11_turnsOf_117 ⟨Nat.zero_le _, Nat.zero_le _⟩ hK hP hD hS hA (fun H locs hP hD hS => ?_)
                        refine lv_if_ne (tgt := 127) hx hb dX11_turnsOf_120 (by decide) (fun c37 => ?_) (fun c37 => ?_)
                        · have hf := (if_neg c37).symm.trans hf
                          exact J127  _ _ _ hf hP hD hS (lv_sub hl [1, 2, 3, 4, 5, 6] rfl)
                        · have hf := (if_pos c37).symm.trans hf
                          refine lv_iconst (v := 1) hx hb dX11_turnsOf_123 (by decide) ?_
                          refine lv_goto (tgt := 128) hx hb dX11_turnsOf_124 (by decide) ?_
                          exact J128 1 _ _ _ hf hP hD hS (lv_sub hl [1, 2, 3, 4, 5, 6] rfl)
                have J83 : ∀  (H : Heap) (locs : List Loc) (ls : Array Slot), j_X11_turnsOf_83 p0 x9 y13 y14 M15 = some q56 → va_P (dC, dI) vwCl (wM tI tZ h M15) H → va_D A (wM tI tZ h M15) → va_S A s.heap H locs → lv_has ls 8 [(0, .ref (h 0)), (1, .int p0), (2, .int y13), (3, .int y7), (4, .int x9), (5, .int y14)] → W p l e RRX11_turnsOf s m args below meth c H locs 0 0 (MQ below (qcMi dC dI tI tZ A h r M') args s 0 0 A) (F0 m 83 ls []) := by
                  intro  H locs ls hf hP hD hS hl
                  unfold j_X11_turnsOf_83 at hf
                  refine lv_iconst (v := 1) hx hb dX11_turnsOf_83 (by decide) ?_
                  refine lv_goto (tgt := 88) hx hb dX11_turnsOf_84 (by decide) ?_
                  exact J88 1 _ _ _ hf hP hD hS (lv_sub hl [0, 1, 2, 3, 4, 5] rfl)
                refine lv_if_eq (tgt := 83) hx hb dX11_turnsOf_70 (by decide) (fun c42 => ?_) (fun c42 => ?_)
                · have hf := (if_pos c42).symm.trans hf
                  exact J83  _ _ _ hf hP hD hS (lv_sub hl [0, 1, 2, 3, 4, 5] rfl)
                · have hf := (if_neg c42).symm.trans hf
                  refine lv_iload hx hb dX11_turnsOf_73 (lv_at hl 4 rfl) ?_
                  refine lv_iload hx hb dX11_turnsOf_75 (lv_at hl 5 rfl) ?_
                  refine lv_iand hx hb dX11_turnsOf_77 ?_
                  refine lv_iload hx hb dX11_turnsOf_78 (lv_at hl 5 rfl) ?_
                  refine lv_icmp_ne (tgt := 87) hx hb dX11_turnsOf_80 (by decide) (fun c41 => ?_) (fun c41 => ?_)
                  · have hf := (if_neg c41).symm.trans hf
                    refine lv_iconst (v := 0) hx hb dX11_turnsOf_87 (by decide) ?_
                    exact J88 0 _ _ _ hf hP hD hS (lv_sub hl [0, 1, 2, 3, 4, 5] rfl)
                  · have hf := (if_pos c41).symm.trans hf
                    exact J83  _ _ _ hf hP hD hS (lv_sub hl [0, 1, 2, 3, 4, 5] rfl)
          exact L56 FU y6 1 M8 _ _ _ ez56 hP hD hS (lv_sub hl [2, 3, 4, 5, 1, 0] rfl)
    exact L40 FU 1 0 M3 _ _ _ ez40 hP hD hS (lv_sub hl [2, 3, 1, 0] rfl)
  obtain ⟨z2, ez2, hz2⟩ := bd hf
  have L2 : ∀ (n : Nat) (y45 : Int32) (M46 : MS) (H : Heap) (locs : List Loc) (ls : Array Slot), lp (fun s => b_X11_turnsOf_2 s.1 s.2) n (y45, M46) = some z2 → va_P (dC, dI) vwCl (wM tI tZ h M46) H → va_D A (wM tI tZ h M46) → va_S A s.heap H locs → lv_has ls 8 [(0, .ref (h 0)), (1, .int p0), (2, .int y45)] → W p l e RRX11_turnsOf s m args below meth c H locs 0 0 (MQ below (qcMi dC dI tI tZ A h r M') args s 0 0 A) (F0 m 2 ls []) := by
    intro n
    induction n with
    | zero => intro y45 M46 H locs ls hf; exact lp_z hf
    | succ n ih2 =>
      intro y45 M46 H locs ls hf hP hD hS hl
      obtain ⟨q2, hf, hq2⟩ := lp_i hf
      have hf : b_X11_turnsOf_2 y45 M46 = some q2 := hf
      unfold b_X11_turnsOf_2 at hf
      refine lv_iload_n hx hb dX11_turnsOf_2 rfl (lv_at hl 2 rfl) ?_
      refine lv_bipush (v := 64) hx hb dX11_turnsOf_3 (by decide) ?_
      refine lv_icmp_ge (tgt := 22) hx hb dX11_turnsOf_5 (by decide) (fun c49 => ?_) (fun c49 => ?_)
      · have hf := (if_pos c49).symm.trans hf
        exact K2 M46 _ _ _ (lp_x (k := (fun s => k_X11_turnsOf_2 p0 s)) (lp_r hf hq2) hz2) hP hD hS (lv_sub hl [0, 1] rfl)
      · have hf := (if_neg c49).symm.trans hf
        refine lv_aload_n hx hb dX11_turnsOf_8 rfl (lv_at hl 0 rfl) ?_
        refine geM hx hb hts hin hown hK hP 21 (by decide) lk41 rfl dX11_turnsOf_9 ?_
        refine lv_iload_n hx hb dX11_turnsOf_12 rfl (lv_at hl 2 rfl) ?_
        refine lv_ldc (v := 1000000) hx hb hown (hts (.constant RX11 220 (1000000)) (by decide +kernel)) dX11_turnsOf_13 ?_
        obtain ⟨M47, hiM47, eM47, hf⟩ := wr_b hf
        refine va_iast hx hb hK hP hD hS 11 0 rfl rfl hiM47 dX11_turnsOf_15 (fun H locs hP hD hS => ?_)
        have hP : va_P (dC, dI) vwCl (wM tI tZ h M47) H := by rw [eM47]; exact hP
        have hD : va_D A (wM tI tZ h M47) := by rw [eM47]; exact hD
        obtain ⟨x48, ex48, hf⟩ := bn hf
        refine lv_iinc (v := x48) (lv' := [(2, .int x48), (0, .ref (h 0)), (1, .int p0)]) hx hb dX11_turnsOf_16 hl (k := 2) rfl (by rw [ex48]; rfl) (by decide) rfl (fun ls hl => ?_)
        refine lv_goto (tgt := 2) hx hb dX11_turnsOf_19 (by decide) ?_
        exact ih2 x48 M47 _ _ _ (lp_l hf hq2) hP hD hS (lv_sub hl [1, 2, 0] rfl)
  exact L2 FU 0 M _ _ _ ez2 hP hD hS (lv_sub hl [1, 2, 0] rfl)

def f_X11_turns (M : MS) (p0 : Int32) (p1 : Int32) : Option (Int32 × MS) :=
  Option.bind (f_X11_isBand M p0) (fun r1 => (if r1 = 0 then (bi2 (f_X11_bad M (-2)) (fun r2 M3 => some ((r2, M3)))) else (Option.bind (f_X11_isBand M p1) (fun r4 => (if r4 = 0 then (bi2 (f_X11_bad M (-2)) (fun r5 M6 => some ((r5, M6)))) else ((if (p0 &&& p1) = 0 then (Option.bind (f_X11_carryNothing M) (fun M7 => bi2 (f_X11_turnsOf M7 p0) (fun r8 M9 => bi2 (f_X11_turnsOf M9 p1) (fun r10 M11 => (if r8 = 1000000 then ((if r10 = 1000000 then (some ((0, M11))) else ((if r10 < r8 then (some ((2, M11))) else (some ((1, M11))))))) else ((if r10 < r8 then (some ((2, M11))) else (some ((1, M11)))))))))) else (bi2 (f_X11_bad M (-2)) (fun r16 M17 => some ((r16, M17)))))))))))
def rmX11_turns : Room := { frames := 4, cells := 0, slots := 0, locals := 97 }
abbrev RRX11_turns : Room := (headSpec wsX11_turns rmX11_turns).room
theorem inX11_turns : ∀ w ∈ wsX110, w ∈ wsX11_turns := by decide +kernel
set_option maxHeartbeats 4000000 in
set_option maxRecDepth 100000 in
theorem c_X11_turns (l : Launch) (dC : Nat → ClassId) (dI : Nat → Nat → Nat) (tI tZ : ClassId) (h : Nat → Nat) (sz : Nat) (M : MS) (p0 : Int32) (p1 : Int32) (r : Int32) (M' : MS) (hf : f_X11_turns M p0 p1 = some (r, M')) : cMi l yX11_turns wsX11_turns rmX11_turns dC dI tI tZ h sz [.ref (h 0), .int p0, .int p1] M r M' := by
  refine Met.ofW (cc := cX11_turns) (maxL := 5) (ret := (some .int)) (by decide) rfl ?_
  intro p e s m args below meth c s₁ B hml hv
  obtain ⟨hargs, hsz, hP, hK, hD0⟩ := hv
  have hx := B.exec
  have hb := B.bytes
  have hr := B.returns
  have hts := atoms_spec (ws := wsX11_turns) B.pre
  have hown : s.vm.findClass RX11 = some m.cls := findClass_of_methodNamed B.named
  have hlocks := B.notSynchronized
  have hin := inX11_turns
  have hsz : s.heap.size = sz := hsz
  subst hsz
  have hD := hD0.self (sz := s.heap.size)
  generalize hAe : va_A (wM tI tZ h M) s.heap.size = A at hD ⊢
  have hA : ∀ q : Nat, s.heap.size ≤ q → A q := fun q h => by rw [← hAe]; exact Or.inr h
  have hS : va_S A s.heap s.heap [] := va_S.rf
  have hl := lv_entry ([.ref (h 0), .int p0, .int p1]) (n := 5) (Nat.le_of_ble_eq_true rfl)
  rw [show entryFrame m args 5 = entryFrame m ([.ref (h 0), .int p0, .int p1] : List Value).toArray 5 from by rw [hargs], lg_entry_eq]
  generalize (lg_sl ([.ref (h 0), .int p0, .int p1]) ++ List.replicate (5 - (lg_sl ([.ref (h 0), .int p0, .int p1])).length) Slot.unset).toArray = ls at hl ⊢
  have hl : lv_has ls 5 [(0, .ref (h 0)), (1, .int p0), (2, .int p1)] := hl
  unfold f_X11_turns at hf
  refine lv_aload_n hx hb dX11_turns_0 rfl (lv_at hl 0 rfl) ?_
  refine lv_iload_n hx hb dX11_turns_1 rfl (lv_at hl 1 rfl) ?_
  obtain ⟨r1, er1, hf⟩ := bd hf
  refine klMi (rest := []) (As := [.int p0]) ⟨hx, hb, hml, hown, hts⟩ (c_X11_isBand l dC dI tI tZ h s.heap.size M p0 r1 er1) (cwV 1 hts gX11_turns_X11_isBand rfl rfl rfl (by decide +kernel) ⟨Nat.le_of_ble_eq_true rfl, Nat.le_of_ble_eq_true rfl⟩) rfl hl.1 rfl (Nat.le_of_ble_eq_true rfl) dX11_turns_2 ⟨Nat.zero_le _, Nat.zero_le _⟩ hK hP hD hS hA (fun H locs hP hD hS => ?_)
  refine lv_if_eq (tgt := 22) hx hb dX11_turns_5 (by decide) (fun c20 => ?_) (fun c20 => ?_)
  · have hf := (if_pos c20).symm.trans hf
    refine lv_aload_n hx hb dX11_turns_22 rfl (lv_at hl 0 rfl) ?_
    refine lv_bipush (v := (-2)) hx hb dX11_turns_23 (by decide) ?_
    obtain ⟨r2, M3, er2, hf⟩ := b2 hf
    refine klMi (rest := []) (As := [.int (-2)]) ⟨hx, hb, hml, hown, hts⟩ (c_X11_bad l dC dI tI tZ h H.size M (-2) r2 M3 er2) (cwV 1 hts gX11_turns_X11_bad rfl rfl rfl (by decide +kernel) ⟨Nat.le_of_ble_eq_true rfl, Nat.le_of_ble_eq_true rfl⟩) rfl hl.1 rfl (Nat.le_of_ble_eq_true rfl) dX11_turns_25 ⟨Nat.zero_le _, Nat.zero_le _⟩ hK hP hD hS hA (fun H locs hP hD hS => ?_)
    exact rtMi hx hb hr hlocks hK hP hD hS hf dX11_turns_28
  · have hf := (if_neg c20).symm.trans hf
    refine lv_aload_n hx hb dX11_turns_8 rfl (lv_at hl 0 rfl) ?_
    refine lv_iload_n hx hb dX11_turns_9 rfl (lv_at hl 2 rfl) ?_
    obtain ⟨r4, er4, hf⟩ := bd hf
    refine klMi (rest := []) (As := [.int p1]) ⟨hx, hb, hml, hown, hts⟩ (c_X11_isBand l dC dI tI tZ h H.size M p1 r4 er4) (cwV 1 hts gX11_turns_X11_isBand rfl rfl rfl (by decide +kernel) ⟨Nat.le_of_ble_eq_true rfl, Nat.le_of_ble_eq_true rfl⟩) rfl hl.1 rfl (Nat.le_of_ble_eq_true rfl) dX11_turns_10 ⟨Nat.zero_le _, Nat.zero_le _⟩ hK hP hD hS hA (fun H locs hP hD hS => ?_)
    refine lv_if_eq (tgt := 22) hx hb dX11_turns_13 (by decide) (fun c19 => ?_) (fun c19 => ?_)
    · have hf := (if_pos c19).symm.trans hf
      refine lv_aload_n hx hb dX11_turns_22 rfl (lv_at hl 0 rfl) ?_
      refine lv_bipush (v := (-2)) hx hb dX11_turns_23 (by decide) ?_
      obtain ⟨r5, M6, er5, hf⟩ := b2 hf
      refine klMi (rest := []) (As := [.int (-2)]) ⟨hx, hb, hml, hown, hts⟩ (c_X11_bad l dC dI tI tZ h H.size M (-2) r5 M6 er5) (cwV 1 hts gX11_turns_X11_bad rfl rfl rfl (by decide +kernel) ⟨Nat.le_of_ble_eq_true rfl, Nat.le_of_ble_eq_true rfl⟩) rfl hl.1 rfl (Nat.le_of_ble_eq_true rfl) dX11_turns_25 ⟨Nat.zero_le _, Nat.zero_le _⟩ hK hP hD hS hA (fun H locs hP hD hS => ?_)
      exact rtMi hx hb hr hlocks hK hP hD hS hf dX11_turns_28
    · have hf := (if_neg c19).symm.trans hf
      refine lv_iload_n hx hb dX11_turns_16 rfl (lv_at hl 1 rfl) ?_
      refine lv_iload_n hx hb dX11_turns_17 rfl (lv_at hl 2 rfl) ?_
      refine lv_iand hx hb dX11_turns_18 ?_
      refine lv_if_eq (tgt := 29) hx hb dX11_turns_19 (by decide) (fun c18 => ?_) (fun c18 => ?_)
      · have hf := (if_pos c18).symm.trans hf
        refine lv_aload_n hx hb dX11_turns_29 rfl (lv_at hl 0 rfl) ?_
        obtain ⟨M7, eM7, hf⟩ := bd hf
        refine klMv (rest := []) (As := []) ⟨hx, hb, hml, hown, hts⟩ (c_X11_carryNothing l dC dI tI tZ h H.size M M7 eM7) (cwV 0 hts gX11_turns_X11_carryNothing rfl rfl rfl (by decide +kernel) ⟨Nat.le_of_ble_eq_true rfl, Nat.le_of_ble_eq_true rfl⟩) rfl hl.1 rfl (Nat.le_of_ble_eq_true rfl) dX11_turns_30 ⟨Nat.zero_le _, Nat.zero_le _⟩ hK hP hD hS hA (fun H locs hP hD hS => ?_)
        refine lv_aload_n hx hb dX11_turns_33 rfl (lv_at hl 0 rfl) ?_
        refine lv_iload_n hx hb dX11_turns_34 rfl (lv_at hl 1 rfl) ?_
        obtain ⟨r8, M9, er8, hf⟩ := b2 hf
        refine klMi (rest := []) (As := [.int p0]) ⟨hx, hb, hml, hown, hts⟩ (c_X11_turnsOf l dC dI tI tZ h H.size M7 p0 r8 M9 er8) (cwV 1 hts gX11_turns_X11_turnsOf rfl rfl rfl (by decide +kernel) ⟨Nat.le_of_ble_eq_true rfl, Nat.le_of_ble_eq_true rfl⟩) rfl hl.1 rfl (Nat.le_of_ble_eq_true rfl) dX11_turns_35 ⟨Nat.zero_le _, Nat.zero_le _⟩ hK hP hD hS hA (fun H locs hP hD hS => ?_)
        refine lv_istore_n (lv' := [(3, .int r8), (0, .ref (h 0)), (1, .int p0), (2, .int p1)]) hx hb dX11_turns_38 rfl hl (by decide) rfl (fun ls hl => ?_)
        refine lv_aload_n hx hb dX11_turns_39 rfl (lv_at hl 1 rfl) ?_
        refine lv_iload_n hx hb dX11_turns_40 rfl (lv_at hl 3 rfl) ?_
        obtain ⟨r10, M11, er10, hf⟩ := b2 hf
        refine klMi (rest := []) (As := [.int p1]) ⟨hx, hb, hml, hown, hts⟩ (c_X11_turnsOf l dC dI tI tZ h H.size M9 p1 r10 M11 er10) (cwV 1 hts gX11_turns_X11_turnsOf rfl rfl rfl (by decide +kernel) ⟨Nat.le_of_ble_eq_true rfl, Nat.le_of_ble_eq_true rfl⟩) rfl hl.1 rfl (Nat.le_of_ble_eq_true rfl) dX11_turns_41 ⟨Nat.zero_le _, Nat.zero_le _⟩ hK hP hD hS hA (fun H locs hP hD hS => ?_)
        refine lv_istore (lv' := [(4, .int r10), (3, .int r8), (0, .ref (h 0)), (1, .int p0), (2, .int p1)]) hx hb dX11_turns_44 hl (by decide) rfl (fun ls hl => ?_)
        refine lv_iload_n hx hb dX11_turns_46 rfl (lv_at hl 1 rfl) ?_
        refine lv_ldc (v := 1000000) hx hb hown (hts (.constant RX11 220 (1000000)) (by decide +kernel)) dX11_turns_47 ?_
        refine lv_icmp_ne (tgt := 63) hx hb dX11_turns_49 (by decide) (fun c15 => ?_) (fun c15 => ?_)
        · have hf := (if_neg c15).symm.trans hf
          refine lv_iload_n hx hb dX11_turns_63 rfl (lv_at hl 1 rfl) ?_
          refine lv_iload hx hb dX11_turns_64 (lv_at hl 0 rfl) ?_
          refine lv_icmp_gt (tgt := 73) hx hb dX11_turns_66 (by decide) (fun c12 => ?_) (fun c12 => ?_)
          · have hf := (if_pos c12).symm.trans hf
            refine lv_iconst (v := 2) hx hb dX11_turns_73 (by decide) ?_
            exact rtMi hx hb hr hlocks hK hP hD hS hf dX11_turns_74
          · have hf := (if_neg c12).symm.trans hf
            refine lv_iconst (v := 1) hx hb dX11_turns_69 (by decide) ?_
            refine lv_goto (tgt := 74) hx hb dX11_turns_70 (by decide) ?_
            exact rtMi hx hb hr hlocks hK hP hD hS hf dX11_turns_74
        · have hf := (if_pos c15).symm.trans hf
          refine lv_iload hx hb dX11_turns_52 (lv_at hl 0 rfl) ?_
          refine lv_ldc (v := 1000000) hx hb hown (hts (.constant RX11 220 (1000000)) (by decide +kernel)) dX11_turns_54 ?_
          refine lv_icmp_ne (tgt := 63) hx hb dX11_turns_56 (by decide) (fun c14 => ?_) (fun c14 => ?_)
          · have hf := (if_neg c14).symm.trans hf
            refine lv_iload_n hx hb dX11_turns_63 rfl (lv_at hl 1 rfl) ?_
            refine lv_iload hx hb dX11_turns_64 (lv_at hl 0 rfl) ?_
            refine lv_icmp_gt (tgt := 73) hx hb dX11_turns_66 (by decide) (fun c13 => ?_) (fun c13 => ?_)
            · have hf := (if_pos c13).symm.trans hf
              refine lv_iconst (v := 2) hx hb dX11_turns_73 (by decide) ?_
              exact rtMi hx hb hr hlocks hK hP hD hS hf dX11_turns_74
            · have hf := (if_neg c13).symm.trans hf
              refine lv_iconst (v := 1) hx hb dX11_turns_69 (by decide) ?_
              refine lv_goto (tgt := 74) hx hb dX11_turns_70 (by decide) ?_
              exact rtMi hx hb hr hlocks hK hP hD hS hf dX11_turns_74
          · have hf := (if_pos c14).symm.trans hf
            refine lv_iconst (v := 0) hx hb dX11_turns_59 (by decide) ?_
            refine lv_goto (tgt := 74) hx hb dX11_turns_60 (by decide) ?_
            exact rtMi hx hb hr hlocks hK hP hD hS hf dX11_turns_74
      · have hf := (if_neg c18).symm.trans hf
        refine lv_aload_n hx hb dX11_turns_22 rfl (lv_at hl 0 rfl) ?_
        refine lv_bipush (v := (-2)) hx hb dX11_turns_23 (by decide) ?_
        obtain ⟨r16, M17, er16, hf⟩ := b2 hf
        refine klMi (rest := []) (As := [.int (-2)]) ⟨hx, hb, hml, hown, hts⟩ (c_X11_bad l dC dI tI tZ h H.size M (-2) r16 M17 er16) (cwV 1 hts gX11_turns_X11_bad rfl rfl rfl (by decide +kernel) ⟨Nat.le_of_ble_eq_true rfl, Nat.le_of_ble_eq_true rfl⟩) rfl hl.1 rfl (Nat.le_of_ble_eq_true rfl) dX11_turns_25 ⟨Nat.zero_le _, Nat.zero_le _⟩ hK hP hD hS hA (fun H locs hP hD hS => ?_)
        exact rtMi hx hb hr hlocks hK hP hD hS hf dX11_turns_28

def f_X11_load (M : MS) (p0 : Int32) : Option (Int32 × MS) :=
  Option.bind (f_X11_in (Int32.toInt64 p0) 1 20) (fun r1 => (if r1 = 0 then (bi2 (f_X11_bad M (-2)) (fun r9 M10 => some ((r9, M10)))) else (Option.bind (rdI 277 (M 0) 276) (fun x2 => (if x2 = 5 then (bi2 (f_X11_full M) (fun r6 M7 => some ((r6, M7)))) else (Option.bind (wrM M 0 277 (68 + x2) p0) (fun M3 => Option.bind (rdI 277 (M3 0) 276) (fun x4 => Option.bind (wrM M3 0 277 276 (x4 + 1)) (fun M5 => some ((x2, M5)))))))))))
def rmX11_load : Room := { frames := 1, cells := 0, slots := 0, locals := 25 }
abbrev RRX11_load : Room := (headSpec wsX11_load rmX11_load).room
theorem inX11_load : ∀ w ∈ wsX110, w ∈ wsX11_load := by decide +kernel
set_option maxHeartbeats 4000000 in
set_option maxRecDepth 100000 in
theorem c_X11_load (l : Launch) (dC : Nat → ClassId) (dI : Nat → Nat → Nat) (tI tZ : ClassId) (h : Nat → Nat) (sz : Nat) (M : MS) (p0 : Int32) (r : Int32) (M' : MS) (hf : f_X11_load M p0 = some (r, M')) : cMi l yX11_load wsX11_load rmX11_load dC dI tI tZ h sz [.ref (h 0), .int p0] M r M' := by
  refine Met.ofW (cc := cX11_load) (maxL := 3) (ret := (some .int)) (by decide) rfl ?_
  intro p e s m args below meth c s₁ B hml hv
  obtain ⟨hargs, hsz, hP, hK, hD0⟩ := hv
  have hx := B.exec
  have hb := B.bytes
  have hr := B.returns
  have hts := atoms_spec (ws := wsX11_load) B.pre
  have hown : s.vm.findClass RX11 = some m.cls := findClass_of_methodNamed B.named
  have hlocks := B.notSynchronized
  have hin := inX11_load
  have hsz : s.heap.size = sz := hsz
  subst hsz
  have lk7 : Cond.fieldLink RX11 7 (TX11 0).1 (TX11 0).2.1 (TX11 0).2.2.1 ∈ wsX11_load := by decide +kernel
  have hD := hD0.self (sz := s.heap.size)
  generalize hAe : va_A (wM tI tZ h M) s.heap.size = A at hD ⊢
  have hA : ∀ q : Nat, s.heap.size ≤ q → A q := fun q h => by rw [← hAe]; exact Or.inr h
  have hS : va_S A s.heap s.heap [] := va_S.rf
  have hl := lv_entry ([.ref (h 0), .int p0]) (n := 3) (Nat.le_of_ble_eq_true rfl)
  rw [show entryFrame m args 3 = entryFrame m ([.ref (h 0), .int p0] : List Value).toArray 3 from by rw [hargs], lg_entry_eq]
  generalize (lg_sl ([.ref (h 0), .int p0]) ++ List.replicate (3 - (lg_sl ([.ref (h 0), .int p0])).length) Slot.unset).toArray = ls at hl ⊢
  have hl : lv_has ls 3 [(0, .ref (h 0)), (1, .int p0)] := hl
  unfold f_X11_load at hf
  refine lv_iload_n hx hb dX11_load_0 rfl (lv_at hl 1 rfl) ?_
  refine lv_i2l hx hb dX11_load_1 rfl ?_
  refine lv_lconst (v := 1) hx hb dX11_load_2 (by decide) ?_
  refine lv_ldc2 (v := 20) hx hb hown (hts (.constantLong RX11 267 (20)) (by decide +kernel)) dX11_load_3 ?_
  obtain ⟨r1, er1, hf⟩ := bd hf
  refine klEi (rest := []) (As := [.long (Int32.toInt64 p0), .long 1, .long 20]) ⟨hx, hb, hml, hown, hts⟩ (c_X11_in l s.heap.size (Int32.toInt64 p0) 1 20 r1 er1) (va_cwS 3 hts gX11_load_X11_in rfl rfl rfl (by decide +kernel) ⟨Nat.le_of_ble_eq_true rfl, Nat.le_of_ble_eq_true rfl⟩) rfl hl.1 rfl (Nat.le_of_ble_eq_true rfl) dX11_load_6 ⟨Nat.zero_le _, Nat.zero_le _⟩ hS hA (fun H2 locs hk hS => ?_)
  have hP := kpP hP hk
  generalize H2 = H at hP hS ⊢
  refine lv_if_ne (tgt := 19) hx hb dX11_load_9 (by decide) (fun c11 => ?_) (fun c11 => ?_)
  · have hf := (if_neg c11).symm.trans hf
    refine lv_aload_n hx hb dX11_load_19 rfl (lv_at hl 0 rfl) ?_
    refine geM hx hb hts hin hown hK hP 0 (by decide) lk7 rfl dX11_load_20 ?_
    refine lv_sipush (v := 276) hx hb dX11_load_23 (by decide) ?_
    obtain ⟨x2, hix2, ex2, hf⟩ := rd_b hf
    refine va_iald hx hb hK hP 1 0 rfl rfl hix2 dX11_load_26 (kI ex2 ?_)
    refine lv_istore_n (lv' := [(2, .int x2), (0, .ref (h 0)), (1, .int p0)]) hx hb dX11_load_27 rfl hl (by decide) rfl (fun ls hl => ?_)
    refine lv_iload_n hx hb dX11_load_28 rfl (lv_at hl 0 rfl) ?_
    refine lv_iconst (v := 5) hx hb dX11_load_29 (by decide) ?_
    refine lv_icmp_ne (tgt := 38) hx hb dX11_load_30 (by decide) (fun c8 => ?_) (fun c8 => ?_)
    · have hf := (if_neg c8).symm.trans hf
      refine lv_aload_n hx hb dX11_load_38 rfl (lv_at hl 1 rfl) ?_
      refine geM hx hb hts hin hown hK hP 0 (by decide) lk7 rfl dX11_load_39 ?_
      refine lv_bipush (v := 68) hx hb dX11_load_42 (by decide) ?_
      refine lv_iload_n hx hb dX11_load_44 rfl (lv_at hl 0 rfl) ?_
      refine lv_iadd hx hb dX11_load_45 ?_
      refine lv_iload_n hx hb dX11_load_46 rfl (lv_at hl 2 rfl) ?_
      obtain ⟨M3, hiM3, eM3, hf⟩ := wr_b hf
      refine va_iast hx hb hK hP hD hS 1 0 rfl rfl hiM3 dX11_load_47 (fun H locs hP hD hS => ?_)
      have hP : va_P (dC, dI) vwCl (wM tI tZ h M3) H := by rw [eM3]; exact hP
      have hD : va_D A (wM tI tZ h M3) := by rw [eM3]; exact hD
      refine lv_aload_n hx hb dX11_load_48 rfl (lv_at hl 1 rfl) ?_
      refine geM hx hb hts hin hown hK hP 0 (by decide) lk7 rfl dX11_load_49 ?_
      refine lv_sipush (v := 276) hx hb dX11_load_52 (by decide) ?_
      refine lv_dup2_11 hx hb dX11_load_55 rfl rfl ?_
      obtain ⟨x4, hix4, ex4, hf⟩ := rd_b hf
      refine va_iald hx hb hK hP 1 0 rfl rfl hix4 dX11_load_56 (kI ex4 ?_)
      refine lv_iconst (v := 1) hx hb dX11_load_57 (by decide) ?_
      refine lv_iadd hx hb dX11_load_58 ?_
      obtain ⟨M5, hiM5, eM5, hf⟩ := wr_b hf
      refine va_iast hx hb hK hP hD hS 1 0 rfl rfl hiM5 dX11_load_59 (fun H locs hP hD hS => ?_)
      have hP : va_P (dC, dI) vwCl (wM tI tZ h M5) H := by rw [eM5]; exact hP
      have hD : va_D A (wM tI tZ h M5) := by rw [eM5]; exact hD
      refine lv_iload_n hx hb dX11_load_60 rfl (lv_at hl 0 rfl) ?_
      exact rtMi hx hb hr hlocks hK hP hD hS hf dX11_load_61
    · have hf := (if_pos c8).symm.trans hf
      refine lv_aload_n hx hb dX11_load_33 rfl (lv_at hl 1 rfl) ?_
      obtain ⟨r6, M7, er6, hf⟩ := b2 hf
      refine klMi (rest := []) (As := []) ⟨hx, hb, hml, hown, hts⟩ (c_X11_full l dC dI tI tZ h H.size M r6 M7 er6) (cwV 0 hts gX11_load_X11_full rfl rfl rfl (by decide +kernel) ⟨Nat.le_of_ble_eq_true rfl, Nat.le_of_ble_eq_true rfl⟩) rfl hl.1 rfl (Nat.le_of_ble_eq_true rfl) dX11_load_34 ⟨Nat.zero_le _, Nat.zero_le _⟩ hK hP hD hS hA (fun H locs hP hD hS => ?_)
      exact rtMi hx hb hr hlocks hK hP hD hS hf dX11_load_37
  · have hf := (if_pos c11).symm.trans hf
    refine lv_aload_n hx hb dX11_load_12 rfl (lv_at hl 0 rfl) ?_
    refine lv_bipush (v := (-2)) hx hb dX11_load_13 (by decide) ?_
    obtain ⟨r9, M10, er9, hf⟩ := b2 hf
    refine klMi (rest := []) (As := [.int (-2)]) ⟨hx, hb, hml, hown, hts⟩ (c_X11_bad l dC dI tI tZ h H.size M (-2) r9 M10 er9) (cwV 1 hts gX11_load_X11_bad rfl rfl rfl (by decide +kernel) ⟨Nat.le_of_ble_eq_true rfl, Nat.le_of_ble_eq_true rfl⟩) rfl hl.1 rfl (Nat.le_of_ble_eq_true rfl) dX11_load_15 ⟨Nat.zero_le _, Nat.zero_le _⟩ hK hP hD hS hA (fun H locs hP hD hS => ?_)
    exact rtMi hx hb hr hlocks hK hP hD hS hf dX11_load_18

def f_X11_unload (M : MS)  : Option (Int32 × MS) :=
  Option.bind (rdI 277 (M 0) 276) (fun x1 => Option.bind (wrM M 0 277 276 0) (fun M2 => some ((x1, M2))))
def rmX11_unload : Room := { frames := 0, cells := 0, slots := 0, locals := 0 }
abbrev RRX11_unload : Room := (headSpec wsX11_unload rmX11_unload).room
theorem inX11_unload : ∀ w ∈ wsX110, w ∈ wsX11_unload := by decide +kernel
set_option maxHeartbeats 4000000 in
set_option maxRecDepth 100000 in
theorem c_X11_unload (l : Launch) (dC : Nat → ClassId) (dI : Nat → Nat → Nat) (tI tZ : ClassId) (h : Nat → Nat) (sz : Nat) (M : MS)  (r : Int32) (M' : MS) (hf : f_X11_unload M  = some (r, M')) : cMi l yX11_unload wsX11_unload rmX11_unload dC dI tI tZ h sz [.ref (h 0)] M r M' := by
  refine Met.ofW (cc := cX11_unload) (maxL := 2) (ret := (some .int)) (by decide) rfl ?_
  intro p e s m args below meth c s₁ B hml hv
  obtain ⟨hargs, hsz, hP, hK, hD0⟩ := hv
  have hx := B.exec
  have hb := B.bytes
  have hr := B.returns
  have hts := atoms_spec (ws := wsX11_unload) B.pre
  have hown : s.vm.findClass RX11 = some m.cls := findClass_of_methodNamed B.named
  have hlocks := B.notSynchronized
  have hin := inX11_unload
  have hsz : s.heap.size = sz := hsz
  subst hsz
  have lk7 : Cond.fieldLink RX11 7 (TX11 0).1 (TX11 0).2.1 (TX11 0).2.2.1 ∈ wsX11_unload := by decide +kernel
  have hD := hD0.self (sz := s.heap.size)
  generalize hAe : va_A (wM tI tZ h M) s.heap.size = A at hD ⊢
  have hA : ∀ q : Nat, s.heap.size ≤ q → A q := fun q h => by rw [← hAe]; exact Or.inr h
  have hS : va_S A s.heap s.heap [] := va_S.rf
  have hl := lv_entry ([.ref (h 0)]) (n := 2) (Nat.le_of_ble_eq_true rfl)
  rw [show entryFrame m args 2 = entryFrame m ([.ref (h 0)] : List Value).toArray 2 from by rw [hargs], lg_entry_eq]
  generalize (lg_sl ([.ref (h 0)]) ++ List.replicate (2 - (lg_sl ([.ref (h 0)])).length) Slot.unset).toArray = ls at hl ⊢
  have hl : lv_has ls 2 [(0, .ref (h 0))] := hl
  unfold f_X11_unload at hf
  refine lv_aload_n hx hb dX11_unload_0 rfl (lv_at hl 0 rfl) ?_
  refine geM hx hb hts hin hown hK hP 0 (by decide) lk7 rfl dX11_unload_1 ?_
  refine lv_sipush (v := 276) hx hb dX11_unload_4 (by decide) ?_
  obtain ⟨x1, hix1, ex1, hf⟩ := rd_b hf
  refine va_iald hx hb hK hP 1 0 rfl rfl hix1 dX11_unload_7 (kI ex1 ?_)
  refine lv_istore_n (lv' := [(1, .int x1), (0, .ref (h 0))]) hx hb dX11_unload_8 rfl hl (by decide) rfl (fun ls hl => ?_)
  refine lv_aload_n hx hb dX11_unload_9 rfl (lv_at hl 1 rfl) ?_
  refine geM hx hb hts hin hown hK hP 0 (by decide) lk7 rfl dX11_unload_10 ?_
  refine lv_sipush (v := 276) hx hb dX11_unload_13 (by decide) ?_
  refine lv_iconst (v := 0) hx hb dX11_unload_16 (by decide) ?_
  obtain ⟨M2, hiM2, eM2, hf⟩ := wr_b hf
  refine va_iast hx hb hK hP hD hS 1 0 rfl rfl hiM2 dX11_unload_17 (fun H locs hP hD hS => ?_)
  have hP : va_P (dC, dI) vwCl (wM tI tZ h M2) H := by rw [eM2]; exact hP
  have hD : va_D A (wM tI tZ h M2) := by rw [eM2]; exact hD
  refine lv_iload_n hx hb dX11_unload_18 rfl (lv_at hl 0 rfl) ?_
  exact rtMi hx hb hr hlocks hK hP hD hS hf dX11_unload_19

def k_X11_pairsNow_4 (y1 : Int32) : Option Int32 :=
  some y1
def k_X11_pairsNow_16 (y3 : Int32) (y6 : Int32) : Option ((Int32 × Int32) ⊕ Int32) :=
  Option.bind (some (y3 + 1)) (fun x7 => some (Sum.inl (y6, x7)))
def b_X11_pairsNow_16 (M : MS) (y3 : Int32) (y8 : Int32) (y9 : Int32) : Option ((Int32 × Int32) ⊕ Int32) :=
  Option.bind (f_X11_porters M) (fun r10 => (if r10 ≤ y9 then (some (Sum.inr y8)) else (Option.bind (f_X11_anyNever M ((1 <<< (y3 &&& 31)) ||| (1 <<< (y9 &&& 31))) 0) (fun r11 => (if r11 = 0 then (Option.bind (f_X11_areUnlike M y3 y9 0) (fun r14 => (if r14 = 0 then (Option.bind (some (y8 + 0)) (fun x15 => Option.bind (some (y9 + 1)) (fun x16 => some (Sum.inl (x15, x16))))) else (Option.bind (some (y8 + 1)) (fun x17 => Option.bind (some (y9 + 1)) (fun x18 => some (Sum.inl (x17, x18)))))))) else (Option.bind (some (y8 + 0)) (fun x12 => Option.bind (some (y9 + 1)) (fun x13 => some (Sum.inl (x12, x13))))))))))
def b_X11_pairsNow_4 (M : MS) (y2 : Int32) (y3 : Int32) : Option ((Int32 × Int32) ⊕ Int32) :=
  Option.bind (f_X11_porters M) (fun r4 => (if r4 ≤ y3 then (some (Sum.inr y2)) else (Option.bind (some (y3 + 1)) (fun x5 => Option.bind (lp (fun s => b_X11_pairsNow_16 M y3 s.1 s.2) FU (y2, x5)) (fun s => k_X11_pairsNow_16 y3 s)))))
def f_X11_pairsNow (M : MS)  : Option Int32 :=
  Option.bind (lp (fun s => b_X11_pairsNow_4 M s.1 s.2) FU (0, 0)) (fun s => k_X11_pairsNow_4 s)
def rmX11_pairsNow : Room := { frames := 3, cells := 0, slots := 0, locals := 70 }
abbrev RRX11_pairsNow : Room := (headSpec wsX11_pairsNow rmX11_pairsNow).room
theorem inX11_pairsNow : ∀ w ∈ wsX110, w ∈ wsX11_pairsNow := by decide +kernel
set_option maxHeartbeats 4000000 in
set_option maxRecDepth 100000 in
theorem c_X11_pairsNow (l : Launch) (dC : Nat → ClassId) (dI : Nat → Nat → Nat) (tI tZ : ClassId) (h : Nat → Nat) (sz : Nat) (M : MS)  (r : Int32) (hf : f_X11_pairsNow M  = some r) : cMi l yX11_pairsNow wsX11_pairsNow rmX11_pairsNow dC dI tI tZ h sz [.ref (h 0)] M r M := by
  refine Met.ofW (cc := cX11_pairsNow) (maxL := 4) (ret := (some .int)) (by decide) rfl ?_
  intro p e s m args below meth c s₁ B hml hv
  obtain ⟨hargs, hsz, hP, hK, hD0⟩ := hv
  have hx := B.exec
  have hb := B.bytes
  have hr := B.returns
  have hts := atoms_spec (ws := wsX11_pairsNow) B.pre
  have hown : s.vm.findClass RX11 = some m.cls := findClass_of_methodNamed B.named
  have hlocks := B.notSynchronized
  have hin := inX11_pairsNow
  have hsz : s.heap.size = sz := hsz
  subst hsz
  have hD := hD0.self (sz := s.heap.size)
  generalize hAe : va_A (wM tI tZ h M) s.heap.size = A at hD ⊢
  have hA : ∀ q : Nat, s.heap.size ≤ q → A q := fun q h => by rw [← hAe]; exact Or.inr h
  have hS : va_S A s.heap s.heap [] := va_S.rf
  have hl := lv_entry ([.ref (h 0)]) (n := 4) (Nat.le_of_ble_eq_true rfl)
  rw [show entryFrame m args 4 = entryFrame m ([.ref (h 0)] : List Value).toArray 4 from by rw [hargs], lg_entry_eq]
  generalize (lg_sl ([.ref (h 0)]) ++ List.replicate (4 - (lg_sl ([.ref (h 0)])).length) Slot.unset).toArray = ls at hl ⊢
  have hl : lv_has ls 4 [(0, .ref (h 0))] := hl
  unfold f_X11_pairsNow at hf
  refine lv_iconst (v := 0) hx hb dX11_pairsNow_0 (by decide) ?_
  refine lv_istore_n (lv' := [(1, .int 0), (0, .ref (h 0))]) hx hb dX11_pairsNow_1 rfl hl (by decide) rfl (fun ls hl => ?_)
  refine lv_iconst (v := 0) hx hb dX11_pairsNow_2 (by decide) ?_
  refine lv_istore_n (lv' := [(2, .int 0), (1, .int 0), (0, .ref (h 0))]) hx hb dX11_pairsNow_3 rfl hl (by decide) rfl (fun ls hl => ?_)
  have K4 : ∀ (y1 : Int32) (H : Heap) (locs : List Loc) (ls : Array Slot), k_X11_pairsNow_4 y1 = some r → va_P (dC, dI) vwCl (wM tI tZ h M) H → va_D A (wM tI tZ h M) → va_S A s.heap H locs → lv_has ls 4 [(1, .int y1)] → W p l e RRX11_pairsNow s m args below meth c H locs 0 0 (MQ below (qcMi dC dI tI tZ A h r M) args s 0 0 A) (F0 m 69 ls []) := by
    intro y1 H locs ls hf hP hD hS hl
    unfold k_X11_pairsNow_4 at hf
    refine lv_iload_n hx hb dX11_pairsNow_69 rfl (lv_at hl 0 rfl) ?_
    exact rtMi hx hb hr hlocks hK hP hD hS (congrArg (fun z => some (z, M)) (Option.some.inj hf)) dX11_pairsNow_70
  obtain ⟨z4, ez4, hz4⟩ := bd hf
  have L4 : ∀ (n : Nat) (y2 : Int32) (y3 : Int32) (H : Heap) (locs : List Loc) (ls : Array Slot), lp (fun s => b_X11_pairsNow_4 M s.1 s.2) n (y2, y3) = some z4 → va_P (dC, dI) vwCl (wM tI tZ h M) H → va_D A (wM tI tZ h M) → va_S A s.heap H locs → lv_has ls 4 [(0, .ref (h 0)), (1, .int y2), (2, .int y3)] → W p l e RRX11_pairsNow s m args below meth c H locs 0 0 (MQ below (qcMi dC dI tI tZ A h r M) args s 0 0 A) (F0 m 4 ls []) := by
    intro n
    induction n with
    | zero => intro y2 y3 H locs ls hf; exact lp_z hf
    | succ n ih4 =>
      intro y2 y3 H locs ls hf hP hD hS hl
      obtain ⟨q4, hf, hq4⟩ := lp_i hf
      have hf : b_X11_pairsNow_4 M y2 y3 = some q4 := hf
      unfold b_X11_pairsNow_4 at hf
      refine lv_iload_n hx hb dX11_pairsNow_4 rfl (lv_at hl 2 rfl) ?_
      refine lv_aload_n hx hb dX11_pairsNow_5 rfl (lv_at hl 0 rfl) ?_
      obtain ⟨r4, er4, hf⟩ := bd hf
      refine klMi (rest := [.int y3]) (As := []) ⟨hx, hb, hml, hown, hts⟩ (c_X11_porters l dC dI tI tZ h H.size M r4 er4) (cwV 0 hts gX11_pairsNow_X11_porters rfl rfl rfl (by decide +kernel) ⟨Nat.le_of_ble_eq_true rfl, Nat.le_of_ble_eq_true rfl⟩) rfl hl.1 rfl (Nat.le_of_ble_eq_true rfl) dX11_pairsNow_6 ⟨Nat.zero_le _, Nat.zero_le _⟩ hK hP hD hS hA (fun H locs hP hD hS => ?_)
      refine lv_icmp_ge (tgt := 69) hx hb dX11_pairsNow_9 (by decide) (fun c22 => ?_) (fun c22 => ?_)
      · have hf := (if_pos c22).symm.trans hf
        exact K4 y2 _ _ _ (lp_x (k := (fun s => k_X11_pairsNow_4 s)) (lp_r hf hq4) hz4) hP hD hS (lv_sub hl [1] rfl)
      · have hf := (if_neg c22).symm.trans hf
        refine lv_iload_n hx hb dX11_pairsNow_12 rfl (lv_at hl 2 rfl) ?_
        refine lv_iconst (v := 1) hx hb dX11_pairsNow_13 (by decide) ?_
        refine lv_iadd hx hb dX11_pairsNow_14 ?_
        refine lv_topi (fun x5 ex5 => ?_)
        have hf := bs ex5 hf
        refine lv_istore_n (lv' := [(3, .int x5), (0, .ref (h 0)), (1, .int y2), (2, .int y3)]) hx hb dX11_pairsNow_15 rfl hl (by decide) rfl (fun ls hl => ?_)
        have K16 : ∀ (y6 : Int32) (H : Heap) (locs : List Loc) (ls : Array Slot), k_X11_pairsNow_16 y3 y6 = some q4 → va_P (dC, dI) vwCl (wM tI tZ h M) H → va_D A (wM tI tZ h M) → va_S A s.heap H locs → lv_has ls 4 [(0, .ref (h 0)), (1, .int y6), (2, .int y3)] → W p l e RRX11_pairsNow s m args below meth c H locs 0 0 (MQ below (qcMi dC dI tI tZ A h r M) args s 0 0 A) (F0 m 63 ls []) := by
          intro y6 H locs ls hf hP hD hS hl
          unfold k_X11_pairsNow_16 at hf
          obtain ⟨x7, ex7, hf⟩ := bn hf
          refine lv_iinc (v := x7) (lv' := [(2, .int x7), (0, .ref (h 0)), (1, .int y6)]) hx hb dX11_pairsNow_63 hl (k := 2) rfl (by rw [ex7]; rfl) (by decide) rfl (fun ls hl => ?_)
          refine lv_goto (tgt := 4) hx hb dX11_pairsNow_66 (by decide) ?_
          exact ih4 y6 x7 _ _ _ (lp_l hf hq4) hP hD hS (lv_sub hl [1, 2, 0] rfl)
        obtain ⟨z16, ez16, hz16⟩ := bd hf
        have L16 : ∀ (n : Nat) (y8 : Int32) (y9 : Int32) (H : Heap) (locs : List Loc) (ls : Array Slot), lp (fun s => b_X11_pairsNow_16 M y3 s.1 s.2) n (y8, y9) = some z16 → va_P (dC, dI) vwCl (wM tI tZ h M) H → va_D A (wM tI tZ h M) → va_S A s.heap H locs → lv_has ls 4 [(0, .ref (h 0)), (1, .int y8), (2, .int y3), (3, .int y9)] → W p l e RRX11_pairsNow s m args below meth c H locs 0 0 (MQ below (qcMi dC dI tI tZ A h r M) args s 0 0 A) (F0 m 16 ls []) := by
          intro n
          induction n with
          | zero => intro y8 y9 H locs ls hf; exact lp_z hf
          | succ n ih16 =>
            intro y8 y9 H locs ls hf hP hD hS hl
            obtain ⟨q16, hf, hq16⟩ := lp_i hf
            have hf : b_X11_pairsNow_16 M y3 y8 y9 = some q16 := hf
            unfold b_X11_pairsNow_16 at hf
            refine lv_iload_n hx hb dX11_pairsNow_16 rfl (lv_at hl 3 rfl) ?_
            refine lv_aload_n hx hb dX11_pairsNow_17 rfl (lv_at hl 0 rfl) ?_
            obtain ⟨r10, er10, hf⟩ := bd hf
            refine klMi (rest := [.int y9]) (As := []) ⟨hx, hb, hml, hown, hts⟩ (c_X11_porters l dC dI tI tZ h H.size M r10 er10) (cwV 0 hts gX11_pairsNow_X11_porters rfl rfl rfl (by decide +kernel) ⟨Nat.le_of_ble_eq_true rfl, Nat.le_of_ble_eq_true rfl⟩) rfl hl.1 rfl (Nat.le_of_ble_eq_true rfl) dX11_pairsNow_18 ⟨Nat.zero_le _, Nat.zero_le _⟩ hK hP hD hS hA (fun H locs hP hD hS => ?_)
            refine lv_icmp_ge (tgt := 63) hx hb dX11_pairsNow_21 (by decide) (fun c21 => ?_) (fun c21 => ?_)
            · have hf := (if_pos c21).symm.trans hf
              exact K16 y8 _ _ _ (lp_x (k := (fun s => k_X11_pairsNow_16 y3 s)) (lp_r hf hq16) hz16) hP hD hS (lv_sub hl [0, 1, 2] rfl)
            · have hf := (if_neg c21).symm.trans hf
              refine lv_iload_n hx hb dX11_pairsNow_24 rfl (lv_at hl 1 rfl) ?_
              refine lv_aload_n hx hb dX11_pairsNow_25 rfl (lv_at hl 0 rfl) ?_
              refine lv_iconst (v := 1) hx hb dX11_pairsNow_26 (by decide) ?_
              refine lv_iload_n hx hb dX11_pairsNow_27 rfl (lv_at hl 2 rfl) ?_
              refine lv_ishl hx hb dX11_pairsNow_28 ?_
              refine lv_iconst (v := 1) hx hb dX11_pairsNow_29 (by decide) ?_
              refine lv_iload_n hx hb dX11_pairsNow_30 rfl (lv_at hl 3 rfl) ?_
              refine lv_ishl hx hb dX11_pairsNow_31 ?_
              refine lv_ior hx hb dX11_pairsNow_32 ?_
              refine lv_iconst (v := 0) hx hb dX11_pairsNow_33 (by decide) ?_
              obtain ⟨r11, er11, hf⟩ := bd hf
              refine klMi (rest := [.int y8]) (As := [.int ((1 <<< (y3 &&& 31)) ||| (1 <<< (y9 &&& 31))), .int 0]) ⟨hx, hb, hml, hown, hts⟩ (c_X11_anyNever l dC dI tI tZ h H.size M ((1 <<< (y3 &&& 31)) ||| (1 <<< (y9 &&& 31))) 0 r11 er11) (cwV 2 hts gX11_pairsNow_X11_anyNever rfl rfl rfl (by decide +kernel) ⟨Nat.le_of_ble_eq_true rfl, Nat.le_of_ble_eq_true rfl⟩) rfl hl.1 rfl (Nat.le_of_ble_eq_true rfl) dX11_pairsNow_34 ⟨Nat.zero_le _, Nat.zero_le _⟩ hK hP hD hS hA (fun H locs hP hD hS => ?_)
              refine lv_if_ne (tgt := 54) hx hb dX11_pairsNow_37 (by decide) (fun c20 => ?_) (fun c20 => ?_)
              · have hf := (if_neg c20).symm.trans hf
                refine lv_iconst (v := 0) hx hb dX11_pairsNow_54 (by decide) ?_
                refine lv_iadd hx hb dX11_pairsNow_55 ?_
                refine lv_topi (fun x12 ex12 => ?_)
                have hf := bs ex12 hf
                refine lv_istore_n (lv' := [(1, .int x12), (0, .ref (h 0)), (2, .int y3), (3, .int y9)]) hx hb dX11_pairsNow_56 rfl hl (by decide) rfl (fun ls hl => ?_)
                obtain ⟨x13, ex13, hf⟩ := bn hf
                refine lv_iinc (v := x13) (lv' := [(3, .int x13), (1, .int x12), (0, .ref (h 0)), (2, .int y3)]) hx hb dX11_pairsNow_57 hl (k := 3) rfl (by rw [ex13]; rfl) (by decide) rfl (fun ls hl => ?_)
                refine lv_goto (tgt := 16) hx hb dX11_pairsNow_60 (by decide) ?_
                exact ih16 x12 x13 _ _ _ (lp_l hf hq16) hP hD hS (lv_sub hl [2, 1, 3, 0] rfl)
              · have hf := (if_pos c20).symm.trans hf
                refine lv_aload_n hx hb dX11_pairsNow_40 rfl (lv_at hl 0 rfl) ?_
                refine lv_iload_n hx hb dX11_pairsNow_41 rfl (lv_at hl 2 rfl) ?_
                refine lv_iload_n hx hb dX11_pairsNow_42 rfl (lv_at hl 3 rfl) ?_
                refine lv_iconst (v := 0) hx hb dX11_pairsNow_43 (by decide) ?_
                obtain ⟨r14, er14, hf⟩ := bd hf
                refine klMi (rest := [.int y8]) (As := [.int y3, .int y9, .int 0]) ⟨hx, hb, hml, hown, hts⟩ (c_X11_areUnlike l dC dI tI tZ h H.size M y3 y9 0 r14 er14) (cwV 3 hts gX11_pairsNow_X11_areUnlike rfl rfl rfl (by decide +kernel) ⟨Nat.le_of_ble_eq_true rfl, Nat.le_of_ble_eq_true rfl⟩) rfl hl.1 rfl (Nat.le_of_ble_eq_true rfl) dX11_pairsNow_44 ⟨Nat.zero_le _, Nat.zero_le _⟩ hK hP hD hS hA (fun H locs hP hD hS => ?_)
                refine lv_if_eq (tgt := 54) hx hb dX11_pairsNow_47 (by decide) (fun c19 => ?_) (fun c19 => ?_)
                · have hf := (if_pos c19).symm.trans hf
                  refine lv_iconst (v := 0) hx hb dX11_pairsNow_54 (by decide) ?_
                  refine lv_iadd hx hb dX11_pairsNow_55 ?_
                  refine lv_topi (fun x15 ex15 => ?_)
                  have hf := bs ex15 hf
                  refine lv_istore_n (lv' := [(1, .int x15), (0, .ref (h 0)), (2, .int y3), (3, .int y9)]) hx hb dX11_pairsNow_56 rfl hl (by decide) rfl (fun ls hl => ?_)
                  obtain ⟨x16, ex16, hf⟩ := bn hf
                  refine lv_iinc (v := x16) (lv' := [(3, .int x16), (1, .int x15), (0, .ref (h 0)), (2, .int y3)]) hx hb dX11_pairsNow_57 hl (k := 3) rfl (by rw [ex16]; rfl) (by decide) rfl (fun ls hl => ?_)
                  refine lv_goto (tgt := 16) hx hb dX11_pairsNow_60 (by decide) ?_
                  exact ih16 x15 x16 _ _ _ (lp_l hf hq16) hP hD hS (lv_sub hl [2, 1, 3, 0] rfl)
                · have hf := (if_neg c19).symm.trans hf
                  refine lv_iconst (v := 1) hx hb dX11_pairsNow_50 (by decide) ?_
                  refine lv_goto (tgt := 55) hx hb dX11_pairsNow_51 (by decide) ?_
                  refine lv_iadd hx hb dX11_pairsNow_55 ?_
                  refine lv_topi (fun x17 ex17 => ?_)
                  have hf := bs ex17 hf
                  refine lv_istore_n (lv' := [(1, .int x17), (0, .ref (h 0)), (2, .int y3), (3, .int y9)]) hx hb dX11_pairsNow_56 rfl hl (by decide) rfl (fun ls hl => ?_)
                  obtain ⟨x18, ex18, hf⟩ := bn hf
                  refine lv_iinc (v := x18) (lv' := [(3, .int x18), (1, .int x17), (0, .ref (h 0)), (2, .int y3)]) hx hb dX11_pairsNow_57 hl (k := 3) rfl (by rw [ex18]; rfl) (by decide) rfl (fun ls hl => ?_)
                  refine lv_goto (tgt := 16) hx hb dX11_pairsNow_60 (by decide) ?_
                  exact ih16 x17 x18 _ _ _ (lp_l hf hq16) hP hD hS (lv_sub hl [2, 1, 3, 0] rfl)
        exact L16 FU y2 x5 _ _ _ ez16 hP hD hS (lv_sub hl [1, 2, 3, 0] rfl)
  exact L4 FU 0 0 _ _ _ ez4 hP hD hS (lv_sub hl [2, 1, 0] rfl)

def k_X11_layCarriers_20 (y4 : Int32) (M5 : MS) : Option (Int32 × MS) :=
  Option.bind (zr y4) (fun z6 => some ((z6, M5)))
def j_X11_layCarriers_86 (y9 : Int32) (M13 : MS) (x15 : Int32) (k18 : Int32) : Option ((Int32 × Int32 × Int32 × MS) ⊕ (Int32 × MS)) :=
  Option.bind (rdI 5 (M13 23) y9) (fun x19 => Option.bind (rdI 6 (M13 4) x19) (fun x20 => Option.bind (rdI 277 (M13 0) (68 + y9)) (fun x21 => Option.bind (wrM M13 4 6 x19 (x20 + x21)) (fun M22 => Option.bind (some (y9 + (-1))) (fun x23 => some (Sum.inl (k18, x15, x23, M22)))))))
def j_X11_layCarriers_85 (y9 : Int32) (M13 : MS) (x15 : Int32) : Option ((Int32 × Int32 × Int32 × MS) ⊕ (Int32 × MS)) :=
  j_X11_layCarriers_86 y9 M13 x15 0
def b_X11_layCarriers_20 (y7 : Int32) (y8 : Int32) (y9 : Int32) (M10 : MS) : Option ((Int32 × Int32 × Int32 × MS) ⊕ (Int32 × MS)) :=
  (if y9 < 0 then (some (Sum.inr (y7, M10))) else (Option.bind (f_X11_porters M10) (fun r11 => Option.bind (rmI y8 (r11 + 1)) (fun x12 => Option.bind (wrM M10 23 5 y9 (x12 - 1)) (fun M13 => Option.bind (f_X11_porters M13) (fun r14 => Option.bind (dvI y8 (r14 + 1)) (fun x15 => Option.bind (rdI 5 (M13 23) y9) (fun x16 => (if x16 = (-1) then (Option.bind (some (y9 + (-1))) (fun x17 => some (Sum.inl (y7, x15, x17, M13)))) else ((if y7 = 0 then (j_X11_layCarriers_85 y9 M13 x15) else (Option.bind (rdI 5 (M13 23) y9) (fun x24 => Option.bind (rdI 6 (M13 4) x24) (fun x25 => (if x25 = 0 then (j_X11_layCarriers_86 y9 M13 x15 1) else (j_X11_layCarriers_85 y9 M13 x15))))))))))))))))
def f_X11_layCarriers (M : MS) (p0 : Int32) : Option (Int32 × MS) :=
  Option.bind (f_X11_carryNothing M) (fun M1 => Option.bind (rdI 277 (M1 0) 276) (fun x2 => Option.bind (some (x2 - 1)) (fun x3 => Option.bind (lp (fun s => b_X11_layCarriers_20 s.1 s.2.1 s.2.2.1 s.2.2.2) FU (1, p0, x3, M1)) (fun s => k_X11_layCarriers_20 s.1 s.2))))
def rmX11_layCarriers : Room := { frames := 1, cells := 0, slots := 0, locals := 21 }
abbrev RRX11_layCarriers : Room := (headSpec wsX11_layCarriers rmX11_layCarriers).room
theorem inX11_layCarriers : ∀ w ∈ wsX110, w ∈ wsX11_layCarriers := by decide +kernel
set_option maxHeartbeats 4000000 in
set_option maxRecDepth 100000 in
theorem c_X11_layCarriers (l : Launch) (dC : Nat → ClassId) (dI : Nat → Nat → Nat) (tI tZ : ClassId) (h : Nat → Nat) (sz : Nat) (M : MS) (p0 : Int32) (r : Int32) (M' : MS) (hf : f_X11_layCarriers M p0 = some (r, M')) : cMi l yX11_layCarriers wsX11_layCarriers rmX11_layCarriers dC dI tI tZ h sz [.ref (h 0), .int p0] M r M' := by
  refine Met.ofW (cc := cX11_layCarriers) (maxL := 5) (ret := (some .boolean)) (by decide) rfl ?_
  intro p e s m args below meth c s₁ B hml hv
  obtain ⟨hargs, hsz, hP, hK, hD0⟩ := hv
  have hx := B.exec
  have hb := B.bytes
  have hr := B.returns
  have hts := atoms_spec (ws := wsX11_layCarriers) B.pre
  have hown : s.vm.findClass RX11 = some m.cls := findClass_of_methodNamed B.named
  have hlocks := B.notSynchronized
  have hin := inX11_layCarriers
  have hsz : s.heap.size = sz := hsz
  subst hsz
  have lk7 : Cond.fieldLink RX11 7 (TX11 0).1 (TX11 0).2.1 (TX11 0).2.2.1 ∈ wsX11_layCarriers := by decide +kernel
  have lk23 : Cond.fieldLink RX11 23 (TX11 4).1 (TX11 4).2.1 (TX11 4).2.2.1 ∈ wsX11_layCarriers := by decide +kernel
  have lk47 : Cond.fieldLink RX11 47 (TX11 23).1 (TX11 23).2.1 (TX11 23).2.2.1 ∈ wsX11_layCarriers := by decide +kernel
  have hD := hD0.self (sz := s.heap.size)
  generalize hAe : va_A (wM tI tZ h M) s.heap.size = A at hD ⊢
  have hA : ∀ q : Nat, s.heap.size ≤ q → A q := fun q h => by rw [← hAe]; exact Or.inr h
  have hS : va_S A s.heap s.heap [] := va_S.rf
  have hl := lv_entry ([.ref (h 0), .int p0]) (n := 5) (Nat.le_of_ble_eq_true rfl)
  rw [show entryFrame m args 5 = entryFrame m ([.ref (h 0), .int p0] : List Value).toArray 5 from by rw [hargs], lg_entry_eq]
  generalize (lg_sl ([.ref (h 0), .int p0]) ++ List.replicate (5 - (lg_sl ([.ref (h 0), .int p0])).length) Slot.unset).toArray = ls at hl ⊢
  have hl : lv_has ls 5 [(0, .ref (h 0)), (1, .int p0)] := hl
  unfold f_X11_layCarriers at hf
  refine lv_aload_n hx hb dX11_layCarriers_0 rfl (lv_at hl 0 rfl) ?_
  obtain ⟨M1, eM1, hf⟩ := bd hf
  refine klMv (rest := []) (As := []) ⟨hx, hb, hml, hown, hts⟩ (c_X11_carryNothing l dC dI tI tZ h s.heap.size M M1 eM1) (cwV 0 hts gX11_layCarriers_X11_carryNothing rfl rfl rfl (by decide +kernel) ⟨Nat.le_of_ble_eq_true rfl, Nat.le_of_ble_eq_true rfl⟩) rfl hl.1 rfl (Nat.le_of_ble_eq_true rfl) dX11_layCarriers_1 ⟨Nat.zero_le _, Nat.zero_le _⟩ hK hP hD hS hA (fun H locs hP hD hS => ?_)
  refine lv_iconst (v := 1) hx hb dX11_layCarriers_4 (by decide) ?_
  refine lv_istore_n (lv' := [(2, .int 1), (0, .ref (h 0)), (1, .int p0)]) hx hb dX11_layCarriers_5 rfl hl (by decide) rfl (fun ls hl => ?_)
  refine lv_iload_n hx hb dX11_layCarriers_6 rfl (lv_at hl 2 rfl) ?_
  refine lv_istore_n (lv' := [(3, .int p0), (2, .int 1), (0, .ref (h 0)), (1, .int p0)]) hx hb dX11_layCarriers_7 rfl hl (by decide) rfl (fun ls hl => ?_)
  refine lv_aload_n hx hb dX11_layCarriers_8 rfl (lv_at hl 2 rfl) ?_
  refine geM hx hb hts hin hown hK hP 0 (by decide) lk7 rfl dX11_layCarriers_9 ?_
  refine lv_sipush (v := 276) hx hb dX11_layCarriers_12 (by decide) ?_
  obtain ⟨x2, hix2, ex2, hf⟩ := rd_b hf
  refine va_iald hx hb hK hP 1 0 rfl rfl hix2 dX11_layCarriers_15 (kI ex2 ?_)
  refine lv_iconst (v := 1) hx hb dX11_layCarriers_16 (by decide) ?_
  refine lv_isub hx hb dX11_layCarriers_17 ?_
  refine lv_topi (fun x3 ex3 => ?_)
  have hf := bs ex3 hf
  refine lv_istore (lv' := [(4, .int x3), (3, .int p0), (2, .int 1), (0, .ref (h 0)), (1, .int p0)]) hx hb dX11_layCarriers_18 hl (by decide) rfl (fun ls hl => ?_)
  have K20 : ∀ (y4 : Int32) (M5 : MS) (H : Heap) (locs : List Loc) (ls : Array Slot), k_X11_layCarriers_20 y4 M5 = some (r, M') → va_P (dC, dI) vwCl (wM tI tZ h M5) H → va_D A (wM tI tZ h M5) → va_S A s.heap H locs → lv_has ls 5 [(2, .int y4)] → W p l e RRX11_layCarriers s m args below meth c H locs 0 0 (MQ below (qcMi dC dI tI tZ A h r M') args s 0 0 A) (F0 m 118 ls []) := by
    intro y4 M5 H locs ls hf hP hD hS hl
    unfold k_X11_layCarriers_20 at hf
    refine lv_iload_n hx hb dX11_layCarriers_118 rfl (lv_at hl 0 rfl) ?_
    obtain ⟨hnz6, hf⟩ := zr_b hf
    exact rtMz hx hb hr hlocks hK hP hD hS hnz6 hf dX11_layCarriers_119
  obtain ⟨z20, ez20, hz20⟩ := bd hf
  have L20 : ∀ (n : Nat) (y7 : Int32) (y8 : Int32) (y9 : Int32) (M10 : MS) (H : Heap) (locs : List Loc) (ls : Array Slot), lp (fun s => b_X11_layCarriers_20 s.1 s.2.1 s.2.2.1 s.2.2.2) n (y7, y8, y9, M10) = some z20 → va_P (dC, dI) vwCl (wM tI tZ h M10) H → va_D A (wM tI tZ h M10) → va_S A s.heap H locs → lv_has ls 5 [(0, .ref (h 0)), (2, .int y7), (3, .int y8), (4, .int y9)] → W p l e RRX11_layCarriers s m args below meth c H locs 0 0 (MQ below (qcMi dC dI tI tZ A h r M') args s 0 0 A) (F0 m 20 ls []) := by
    intro n
    induction n with
    | zero => intro y7 y8 y9 M10 H locs ls hf; exact lp_z hf
    | succ n ih20 =>
      intro y7 y8 y9 M10 H locs ls hf hP hD hS hl
      obtain ⟨q20, hf, hq20⟩ := lp_i hf
      have hf : b_X11_layCarriers_20 y7 y8 y9 M10 = some q20 := hf
      unfold b_X11_layCarriers_20 at hf
      refine lv_iload hx hb dX11_layCarriers_20 (lv_at hl 3 rfl) ?_
      refine lv_if_lt (tgt := 118) hx hb dX11_layCarriers_22 (by decide) (fun c29 => ?_) (fun c29 => ?_)
      · have hf := (if_pos c29).symm.trans hf
        exact K20 y7 M10 _ _ _ (lp_x (k := (fun s => k_X11_layCarriers_20 s.1 s.2)) (lp_r hf hq20) hz20) hP hD hS (lv_sub hl [1] rfl)
      · have hf := (if_neg c29).symm.trans hf
        refine lv_aload_n hx hb dX11_layCarriers_25 rfl (lv_at hl 0 rfl) ?_
        refine geM hx hb hts hin hown hK hP 23 (by decide) lk47 rfl dX11_layCarriers_26 ?_
        refine lv_iload hx hb dX11_layCarriers_29 (lv_at hl 3 rfl) ?_
        refine lv_iload_n hx hb dX11_layCarriers_31 rfl (lv_at hl 2 rfl) ?_
        refine lv_aload_n hx hb dX11_layCarriers_32 rfl (lv_at hl 0 rfl) ?_
        obtain ⟨r11, er11, hf⟩ := bd hf
        refine klMi (rest := [.int y8, .int y9, .ref (h 24)]) (As := []) ⟨hx, hb, hml, hown, hts⟩ (c_X11_porters l dC dI tI tZ h H.size M10 r11 er11) (cwV 0 hts gX11_layCarriers_X11_porters rfl rfl rfl (by decide +kernel) ⟨Nat.le_of_ble_eq_true rfl, Nat.le_of_ble_eq_true rfl⟩) rfl hl.1 rfl (Nat.le_of_ble_eq_true rfl) dX11_layCarriers_33 ⟨Nat.zero_le _, Nat.zero_le _⟩ hK hP hD hS hA (fun H locs hP hD hS => ?_)
        refine lv_iconst (v := 1) hx hb dX11_layCarriers_36 (by decide) ?_
        refine lv_iadd hx hb dX11_layCarriers_37 ?_
        obtain ⟨hzx12, hf⟩ := rm_b hf
        refine lv_irem hx hb dX11_layCarriers_38 hzx12 ?_
        refine lv_topi (fun x12 ex12 => ?_)
        rw [← ex12] at hf
        refine lv_iconst (v := 1) hx hb dX11_layCarriers_39 (by decide) ?_
        refine lv_isub hx hb dX11_layCarriers_40 ?_
        obtain ⟨M13, hiM13, eM13, hf⟩ := wr_b hf
        refine va_iast hx hb hK hP hD hS 13 0 rfl rfl hiM13 dX11_layCarriers_41 (fun H locs hP hD hS => ?_)
        have hP : va_P (dC, dI) vwCl (wM tI tZ h M13) H := by rw [eM13]; exact hP
        have hD : va_D A (wM tI tZ h M13) := by rw [eM13]; exact hD
        refine lv_iload_n hx hb dX11_layCarriers_42 rfl (lv_at hl 2 rfl) ?_
        refine lv_aload_n hx hb dX11_layCarriers_43 rfl (lv_at hl 0 rfl) ?_
        obtain ⟨r14, er14, hf⟩ := bd hf
        refine klMi (rest := [.int y8]) (As := []) ⟨hx, hb, hml, hown, hts⟩ (c_X11_porters l dC dI tI tZ h H.size M13 r14 er14) (cwV 0 hts gX11_layCarriers_X11_porters rfl rfl rfl (by decide +kernel) ⟨Nat.le_of_ble_eq_true rfl, Nat.le_of_ble_eq_true rfl⟩) rfl hl.1 rfl (Nat.le_of_ble_eq_true rfl) dX11_layCarriers_44 ⟨Nat.zero_le _, Nat.zero_le _⟩ hK hP hD hS hA (fun H locs hP hD hS => ?_)
        refine lv_iconst (v := 1) hx hb dX11_layCarriers_47 (by decide) ?_
        refine lv_iadd hx hb dX11_layCarriers_48 ?_
        obtain ⟨hzx15, hf⟩ := dv_b hf
        refine lv_idiv hx hb dX11_layCarriers_49 hzx15 ?_
        refine lv_topi (fun x15 ex15 => ?_)
        rw [← ex15] at hf
        refine lv_istore_n (lv' := [(3, .int x15), (0, .ref (h 0)), (2, .int y7), (4, .int y9)]) hx hb dX11_layCarriers_50 rfl hl (by decide) rfl (fun ls hl => ?_)
        refine lv_aload_n hx hb dX11_layCarriers_51 rfl (lv_at hl 1 rfl) ?_
        refine geM hx hb hts hin hown hK hP 23 (by decide) lk47 rfl dX11_layCarriers_52 ?_
        refine lv_iload hx hb dX11_layCarriers_55 (lv_at hl 3 rfl) ?_
        obtain ⟨x16, hix16, ex16, hf⟩ := rd_b hf
        refine va_iald hx hb hK hP 13 0 rfl rfl hix16 dX11_layCarriers_57 (kI ex16 ?_)
        refine lv_iconst (v := (-1)) hx hb dX11_layCarriers_58 (by decide) ?_
        refine lv_icmp_eq (tgt := 112) hx hb dX11_layCarriers_59 (by decide) (fun c28 => ?_) (fun c28 => ?_)
        · have hf := (if_pos c28).symm.trans hf
          obtain ⟨x17, ex17, hf⟩ := bn hf
          refine lv_iinc (v := x17) (lv' := [(4, .int x17), (3, .int x15), (0, .ref (h 0)), (2, .int y7)]) hx hb dX11_layCarriers_112 hl (k := 3) rfl (by rw [ex17]; rfl) (by decide) rfl (fun ls hl => ?_)
          refine lv_goto (tgt := 20) hx hb dX11_layCarriers_115 (by decide) ?_
          exact ih20 y7 x15 x17 M13 _ _ _ (lp_l hf hq20) hP hD hS (lv_sub hl [2, 3, 1, 0] rfl)
        · have hf := (if_neg c28).symm.trans hf
          refine lv_iload_n hx hb dX11_layCarriers_62 rfl (lv_at hl 2 rfl) ?_
          have J86 : ∀ (k18 : Int32) (H : Heap) (locs : List Loc) (ls : Array Slot), j_X11_layCarriers_86 y9 M13 x15 k18 = some q20 → va_P (dC, dI) vwCl (wM tI tZ h M13) H → va_D A (wM tI tZ h M13) → va_S A s.heap H locs → lv_has ls 5 [(0, .ref (h 0)), (3, .int x15), (4, .int y9)] → W p l e RRX11_layCarriers s m args below meth c H locs 0 0 (MQ below (qcMi dC dI tI tZ A h r M') args s 0 0 A) (F0 m 86 ls [.int k18]) := by
            intro k18 H locs ls hf hP hD hS hl
            unfold j_X11_layCarriers_86 at hf
            refine lv_istore_n (lv' := [(2, .int k18), (0, .ref (h 0)), (3, .int x15), (4, .int y9)]) hx hb dX11_layCarriers_86 rfl hl (by decide) rfl (fun ls hl => ?_)
            refine lv_aload_n hx hb dX11_layCarriers_87 rfl (lv_at hl 1 rfl) ?_
            refine geM hx hb hts hin hown hK hP 4 (by decide) lk23 rfl dX11_layCarriers_88 ?_
            refine lv_aload_n hx hb dX11_layCarriers_91 rfl (lv_at hl 1 rfl) ?_
            refine geM hx hb hts hin hown hK hP 23 (by decide) lk47 rfl dX11_layCarriers_92 ?_
            refine lv_iload hx hb dX11_layCarriers_95 (lv_at hl 3 rfl) ?_
            obtain ⟨x19, hix19, ex19, hf⟩ := rd_b hf
            refine va_iald hx hb hK hP 13 0 rfl rfl hix19 dX11_layCarriers_97 (kI ex19 ?_)
            refine lv_dup2_11 hx hb dX11_layCarriers_98 rfl rfl ?_
            obtain ⟨x20, hix20, ex20, hf⟩ := rd_b hf
            refine va_iald hx hb hK hP 5 0 rfl rfl hix20 dX11_layCarriers_99 (kI ex20 ?_)
            refine lv_aload_n hx hb dX11_layCarriers_100 rfl (lv_at hl 1 rfl) ?_
            refine geM hx hb hts hin hown hK hP 0 (by decide) lk7 rfl dX11_layCarriers_101 ?_
            refine lv_bipush (v := 68) hx hb dX11_layCarriers_104 (by decide) ?_
            refine lv_iload hx hb dX11_layCarriers_106 (lv_at hl 3 rfl) ?_
            refine lv_iadd hx hb dX11_layCarriers_108 ?_
            obtain ⟨x21, hix21, ex21, hf⟩ := rd_b hf
            refine va_iald hx hb hK hP 1 0 rfl rfl hix21 dX11_layCarriers_109 (kI ex21 ?_)
            refine lv_iadd hx hb dX11_layCarriers_110 ?_
            obtain ⟨M22, hiM22, eM22, hf⟩ := wr_b hf
            refine va_iast hx hb hK hP hD hS 5 0 rfl rfl hiM22 dX11_layCarriers_111 (fun H locs hP hD hS => ?_)
            have hP : va_P (dC, dI) vwCl (wM tI tZ h M22) H := by rw [eM22]; exact hP
            have hD : va_D A (wM tI tZ h M22) := by rw [eM22]; exact hD
            obtain ⟨x23, ex23, hf⟩ := bn hf
            refine lv_iinc (v := x23) (lv' := [(4, .int x23), (2, .int k18), (0, .ref (h 0)), (3, .int x15)]) hx hb dX11_layCarriers_112 hl (k := 3) rfl (by rw [ex23]; rfl) (by decide) rfl (fun ls hl => ?_)
            refine lv_goto (tgt := 20) hx hb dX11_layCarriers_115 (by decide) ?_
            exact ih20 k18 x15 x23 M22 _ _ _ (lp_l hf hq20) hP hD hS (lv_sub hl [2, 1, 3, 0] rfl)
          have J85 : ∀  (H : Heap) (locs : List Loc) (ls : Array Slot), j_X11_layCarriers_85 y9 M13 x15 = some q20 → va_P (dC, dI) vwCl (wM tI tZ h M13) H → va_D A (wM tI tZ h M13) → va_S A s.heap H locs → lv_has ls 5 [(0, .ref (h 0)), (3, .int x15), (4, .int y9)] → W p l e RRX11_layCarriers s m args below meth c H locs 0 0 (MQ below (qcMi dC dI tI tZ A h r M') args s 0 0 A) (F0 m 85 ls []) := by
            intro  H locs ls hf hP hD hS hl
            unfold j_X11_layCarriers_85 at hf
            refine lv_iconst (v := 0) hx hb dX11_layCarriers_85 (by decide) ?_
            exact J86 0 _ _ _ hf hP hD hS (lv_sub hl [0, 1, 2] rfl)
          refine lv_if_eq (tgt := 85) hx hb dX11_layCarriers_63 (by decide) (fun c27 => ?_) (fun c27 => ?_)
          · have hf := (if_pos c27).symm.trans hf
            exact J85  _ _ _ hf hP hD hS (lv_sub hl [1, 0, 3] rfl)
          · have hf := (if_neg c27).symm.trans hf
            refine lv_aload_n hx hb dX11_layCarriers_66 rfl (lv_at hl 1 rfl) ?_
            refine geM hx hb hts hin hown hK hP 4 (by decide) lk23 rfl dX11_layCarriers_67 ?_
            refine lv_aload_n hx hb dX11_layCarriers_70 rfl (lv_at hl 1 rfl) ?_
            refine geM hx hb hts hin hown hK hP 23 (by decide) lk47 rfl dX11_layCarriers_71 ?_
            refine lv_iload hx hb dX11_layCarriers_74 (lv_at hl 3 rfl) ?_
            obtain ⟨x24, hix24, ex24, hf⟩ := rd_b hf
            refine va_iald hx hb hK hP 13 0 rfl rfl hix24 dX11_layCarriers_76 (kI ex24 ?_)
            obtain ⟨x25, hix25, ex25, hf⟩ := rd_b hf
            refine va_iald hx hb hK hP 5 0 rfl rfl hix25 dX11_layCarriers_77 (kI ex25 ?_)
            refine lv_if_ne (tgt := 85) hx hb dX11_layCarriers_78 (by decide) (fun c26 => ?_) (fun c26 => ?_)
            · have hf := (if_neg c26).symm.trans hf
              exact J85  _ _ _ hf hP hD hS (lv_sub hl [1, 0, 3] rfl)
            · have hf := (if_pos c26).symm.trans hf
              refine lv_iconst (v := 1) hx hb dX11_layCarriers_81 (by decide) ?_
              refine lv_goto (tgt := 86) hx hb dX11_layCarriers_82 (by decide) ?_
              exact J86 1 _ _ _ hf hP hD hS (lv_sub hl [1, 0, 3] rfl)
  exact L20 FU 1 p0 x3 M1 _ _ _ ez20 hP hD hS (lv_sub hl [3, 2, 1, 0] rfl)

def k_X11_carries_65 (p0 : Int32) (y4 : Int32) (M5 : MS) : Option (Int32 × MS) :=
  (if p0 = (-1) then (some ((y4, M5))) else (Option.bind (rdI 5 (M5 24) p0) (fun x6 => some ((x6, M5)))))
def k_X11_carries_98 (y9 : Int32) (r14 : Int32) (M16 : MS) : Option ((Int32 × Int32 × MS) ⊕ (Int32 × MS)) :=
  Option.bind (some (y9 + 1)) (fun x17 => some (Sum.inl (r14, x17, M16)))
def b_X11_carries_98 (y18 : Int32) (M19 : MS) : Option ((Int32 × MS) ⊕ MS) :=
  (if 5 ≤ y18 then (some (Sum.inr M19)) else (Option.bind (rdI 5 (M19 23) y18) (fun x20 => Option.bind (wrM M19 24 5 y18 x20) (fun M21 => Option.bind (some (y18 + 1)) (fun x22 => some (Sum.inl (x22, M21)))))))
def b_X11_carries_65 (y3 : Int32) (y8 : Int32) (y9 : Int32) (M10 : MS) : Option ((Int32 × Int32 × MS) ⊕ (Int32 × MS)) :=
  (if y3 ≤ y9 then (some (Sum.inr (y8, M10))) else (bi2 (f_X11_layCarriers M10 y9) (fun r11 M12 => (if r11 = 0 then (Option.bind (some (y9 + 1)) (fun x13 => some (Sum.inl (y8, x13, M12)))) else (Option.bind (f_X11_pairsNow M12) (fun r14 => (if r14 ≤ y8 then (Option.bind (some (y9 + 1)) (fun x15 => some (Sum.inl (y8, x15, M12)))) else (Option.bind (lp (fun s => b_X11_carries_98 s.1 s.2) FU (0, M12)) (fun s => k_X11_carries_98 y9 r14 s)))))))))
def k_X11_carries_33 (M : MS) (p0 : Int32) (y3 : Int32) : Option (Int32 × MS) :=
  Option.bind (lp (fun s => b_X11_carries_65 y3 s.1 s.2.1 s.2.2) FU ((-1), 0, M)) (fun s => k_X11_carries_65 p0 s.1 s.2)
def b_X11_carries_33 (M : MS) (y27 : Int32) (y28 : Int32) : Option ((Int32 × Int32) ⊕ Int32) :=
  Option.bind (rdI 277 (M 0) 276) (fun x29 => (if x29 ≤ y28 then (some (Sum.inr y27)) else (Option.bind (f_X11_porters M) (fun r30 => Option.bind (some (y27 * (r30 + 1))) (fun x31 => Option.bind (some (y28 + 1)) (fun x32 => some (Sum.inl (x31, x32))))))))
def f_X11_carries (M : MS) (p0 : Int32) : Option (Int32 × MS) :=
  Option.bind (rdI 277 (M 0) 276) (fun x1 => Option.bind (f_X11_in (Int32.toInt64 p0) (-1) (Int32.toInt64 (x1 - 1))) (fun r2 => (if r2 = 0 then (bi2 (f_X11_bad M (-10)) (fun r34 M35 => some ((r34, M35)))) else (Option.bind (lp (fun s => b_X11_carries_33 M s.1 s.2) FU (1, 0)) (fun s => k_X11_carries_33 M p0 s)))))
def rmX11_carries : Room := { frames := 4, cells := 0, slots := 0, locals := 93 }
abbrev RRX11_carries : Room := (headSpec wsX11_carries rmX11_carries).room
theorem inX11_carries : ∀ w ∈ wsX110, w ∈ wsX11_carries := by decide +kernel
set_option maxHeartbeats 4000000 in
set_option maxRecDepth 100000 in
theorem c_X11_carries (l : Launch) (dC : Nat → ClassId) (dI : Nat → Nat → Nat) (tI tZ : ClassId) (h : Nat → Nat) (sz : Nat) (M : MS) (p0 : Int32) (r : Int32) (M' : MS) (hf : f_X11_carries M p0 = some (r, M')) : cMi l yX11_carries wsX11_carries rmX11_carries dC dI tI tZ h sz [.ref (h 0), .int p0] M r M' := by
  refine Met.ofW (cc := cX11_carries) (maxL := 7) (ret := (some .int)) (by decide) rfl ?_
  intro p e s m args below meth c s₁ B hml hv
  obtain ⟨hargs, hsz, hP, hK, hD0⟩ := hv
  have hx := B.exec
  have hb := B.bytes
  have hr := B.returns
  have hts := atoms_spec (ws := wsX11_carries) B.pre
  have hown : s.vm.findClass RX11 = some m.cls := findClass_of_methodNamed B.named
  have hlocks := B.notSynchronized
  have hin := inX11_carries
  have hsz : s.heap.size = sz := hsz
  subst hsz
  have lk7 : Cond.fieldLink RX11 7 (TX11 0).1 (TX11 0).2.1 (TX11 0).2.2.1 ∈ wsX11_carries := by decide +kernel
  have lk47 : Cond.fieldLink RX11 47 (TX11 23).1 (TX11 23).2.1 (TX11 23).2.2.1 ∈ wsX11_carries := by decide +kernel
  have lk50 : Cond.fieldLink RX11 50 (TX11 24).1 (TX11 24).2.1 (TX11 24).2.2.1 ∈ wsX11_carries := by decide +kernel
  have hD := hD0.self (sz := s.heap.size)
  generalize hAe : va_A (wM tI tZ h M) s.heap.size = A at hD ⊢
  have hA : ∀ q : Nat, s.heap.size ≤ q → A q := fun q h => by rw [← hAe]; exact Or.inr h
  have hS : va_S A s.heap s.heap [] := va_S.rf
  have hl := lv_entry ([.ref (h 0), .int p0]) (n := 7) (Nat.le_of_ble_eq_true rfl)
  rw [show entryFrame m args 7 = entryFrame m ([.ref (h 0), .int p0] : List Value).toArray 7 from by rw [hargs], lg_entry_eq]
  generalize (lg_sl ([.ref (h 0), .int p0]) ++ List.replicate (7 - (lg_sl ([.ref (h 0), .int p0])).length) Slot.unset).toArray = ls at hl ⊢
  have hl : lv_has ls 7 [(0, .ref (h 0)), (1, .int p0)] := hl
  unfold f_X11_carries at hf
  refine lv_iload_n hx hb dX11_carries_0 rfl (lv_at hl 1 rfl) ?_
  refine lv_i2l hx hb dX11_carries_1 rfl ?_
  refine lv_ldc2 (v := (-1)) hx hb hown (hts (.constantLong RX11 269 (-1)) (by decide +kernel)) dX11_carries_2 ?_
  refine lv_aload_n hx hb dX11_carries_5 rfl (lv_at hl 0 rfl) ?_
  refine geM hx hb hts hin hown hK hP 0 (by decide) lk7 rfl dX11_carries_6 ?_
  refine lv_sipush (v := 276) hx hb dX11_carries_9 (by decide) ?_
  obtain ⟨x1, hix1, ex1, hf⟩ := rd_b hf
  refine va_iald hx hb hK hP 1 0 rfl rfl hix1 dX11_carries_12 (kI ex1 ?_)
  refine lv_iconst (v := 1) hx hb dX11_carries_13 (by decide) ?_
  refine lv_isub hx hb dX11_carries_14 ?_
  refine lv_i2l hx hb dX11_carries_15 rfl ?_
  obtain ⟨r2, er2, hf⟩ := bd hf
  refine klEi (rest := []) (As := [.long (Int32.toInt64 p0), .long (-1), .long (Int32.toInt64 (x1 - 1))]) ⟨hx, hb, hml, hown, hts⟩ (c_X11_in l s.heap.size (Int32.toInt64 p0) (-1) (Int32.toInt64 (x1 - 1)) r2 er2) (va_cwS 3 hts gX11_carries_X11_in rfl rfl rfl (by decide +kernel) ⟨Nat.le_of_ble_eq_true rfl, Nat.le_of_ble_eq_true rfl⟩) rfl hl.1 rfl (Nat.le_of_ble_eq_true rfl) dX11_carries_16 ⟨Nat.zero_le _, Nat.zero_le _⟩ hS hA (fun H2 locs hk hS => ?_)
  have hP := kpP hP hk
  generalize H2 = H at hP hS ⊢
  refine lv_if_ne (tgt := 29) hx hb dX11_carries_19 (by decide) (fun c36 => ?_) (fun c36 => ?_)
  · have hf := (if_neg c36).symm.trans hf
    refine lv_iconst (v := 1) hx hb dX11_carries_29 (by decide) ?_
    refine lv_istore_n (lv' := [(2, .int 1), (0, .ref (h 0)), (1, .int p0)]) hx hb dX11_carries_30 rfl hl (by decide) rfl (fun ls hl => ?_)
    refine lv_iconst (v := 0) hx hb dX11_carries_31 (by decide) ?_
    refine lv_istore_n (lv' := [(3, .int 0), (2, .int 1), (0, .ref (h 0)), (1, .int p0)]) hx hb dX11_carries_32 rfl hl (by decide) rfl (fun ls hl => ?_)
    have K33 : ∀ (y3 : Int32) (H : Heap) (locs : List Loc) (ls : Array Slot), k_X11_carries_33 M p0 y3 = some (r, M') → va_P (dC, dI) vwCl (wM tI tZ h M) H → va_D A (wM tI tZ h M) → va_S A s.heap H locs → lv_has ls 7 [(0, .ref (h 0)), (1, .int p0), (2, .int y3)] → W p l e RRX11_carries s m args below meth c H locs 0 0 (MQ below (qcMi dC dI tI tZ A h r M') args s 0 0 A) (F0 m 60 ls []) := by
      intro y3 H locs ls hf hP hD hS hl
      unfold k_X11_carries_33 at hf
      refine lv_iconst (v := (-1)) hx hb dX11_carries_60 (by decide) ?_
      refine lv_istore_n (lv' := [(3, .int (-1)), (0, .ref (h 0)), (1, .int p0), (2, .int y3)]) hx hb dX11_carries_61 rfl hl (by decide) rfl (fun ls hl => ?_)
      refine lv_iconst (v := 0) hx hb dX11_carries_62 (by decide) ?_
      refine lv_istore (lv' := [(4, .int 0), (3, .int (-1)), (0, .ref (h 0)), (1, .int p0), (2, .int y3)]) hx hb dX11_carries_63 hl (by decide) rfl (fun ls hl => ?_)
      have K65 : ∀ (y4 : Int32) (M5 : MS) (H : Heap) (locs : List Loc) (ls : Array Slot), k_X11_carries_65 p0 y4 M5 = some (r, M') → va_P (dC, dI) vwCl (wM tI tZ h M5) H → va_D A (wM tI tZ h M5) → va_S A s.heap H locs → lv_has ls 7 [(0, .ref (h 0)), (1, .int p0), (3, .int y4)] → W p l e RRX11_carries s m args below meth c H locs 0 0 (MQ below (qcMi dC dI tI tZ A h r M') args s 0 0 A) (F0 m 130 ls []) := by
        intro y4 M5 H locs ls hf hP hD hS hl
        unfold k_X11_carries_65 at hf
        refine lv_iload_n hx hb dX11_carries_130 rfl (lv_at hl 1 rfl) ?_
        refine lv_iconst (v := (-1)) hx hb dX11_carries_131 (by decide) ?_
        refine lv_icmp_ne (tgt := 139) hx hb dX11_carries_132 (by decide) (fun c7 => ?_) (fun c7 => ?_)
        · have hf := (if_neg c7).symm.trans hf
          refine lv_aload_n hx hb dX11_carries_139 rfl (lv_at hl 0 rfl) ?_
          refine geM hx hb hts hin hown hK hP 24 (by decide) lk50 rfl dX11_carries_140 ?_
          refine lv_iload_n hx hb dX11_carries_143 rfl (lv_at hl 1 rfl) ?_
          obtain ⟨x6, hix6, ex6, hf⟩ := rd_b hf
          refine va_iald hx hb hK hP 14 0 rfl rfl hix6 dX11_carries_144 (kI ex6 ?_)
          exact rtMi hx hb hr hlocks hK hP hD hS hf dX11_carries_145
        · have hf := (if_pos c7).symm.trans hf
          refine lv_iload_n hx hb dX11_carries_135 rfl (lv_at hl 2 rfl) ?_
          refine lv_goto (tgt := 145) hx hb dX11_carries_136 (by decide) ?_
          exact rtMi hx hb hr hlocks hK hP hD hS hf dX11_carries_145
      obtain ⟨z65, ez65, hz65⟩ := bd hf
      have L65 : ∀ (n : Nat) (y8 : Int32) (y9 : Int32) (M10 : MS) (H : Heap) (locs : List Loc) (ls : Array Slot), lp (fun s => b_X11_carries_65 y3 s.1 s.2.1 s.2.2) n (y8, y9, M10) = some z65 → va_P (dC, dI) vwCl (wM tI tZ h M10) H → va_D A (wM tI tZ h M10) → va_S A s.heap H locs → lv_has ls 7 [(0, .ref (h 0)), (1, .int p0), (2, .int y3), (3, .int y8), (4, .int y9)] → W p l e RRX11_carries s m args below meth c H locs 0 0 (MQ below (qcMi dC dI tI tZ A h r M') args s 0 0 A) (F0 m 65 ls []) := by
        intro n
        induction n with
        | zero => intro y8 y9 M10 H locs ls hf; exact lp_z hf
        | succ n ih65 =>
          intro y8 y9 M10 H locs ls hf hP hD hS hl
          obtain ⟨q65, hf, hq65⟩ := lp_i hf
          have hf : b_X11_carries_65 y3 y8 y9 M10 = some q65 := hf
          unfold b_X11_carries_65 at hf
          refine lv_iload hx hb dX11_carries_65 (lv_at hl 4 rfl) ?_
          refine lv_iload_n hx hb dX11_carries_67 rfl (lv_at hl 2 rfl) ?_
          refine lv_icmp_ge (tgt := 130) hx hb dX11_carries_68 (by decide) (fun c26 => ?_) (fun c26 => ?_)
          · have hf := (if_pos c26).symm.trans hf
            exact K65 y8 M10 _ _ _ (lp_x (k := (fun s => k_X11_carries_65 p0 s.1 s.2)) (lp_r hf hq65) hz65) hP hD hS (lv_sub hl [0, 1, 3] rfl)
          · have hf := (if_neg c26).symm.trans hf
            refine lv_aload_n hx hb dX11_carries_71 rfl (lv_at hl 0 rfl) ?_
            refine lv_iload hx hb dX11_carries_72 (lv_at hl 4 rfl) ?_
            obtain ⟨r11, M12, er11, hf⟩ := b2 hf
            refine klMi (rest := []) (As := [.int y9]) ⟨hx, hb, hml, hown, hts⟩ (c_X11_layCarriers l dC dI tI tZ h H.size M10 y9 r11 M12 er11) (cwV 1 hts gX11_carries_X11_layCarriers rfl rfl rfl (by decide +kernel) ⟨Nat.le_of_ble_eq_true rfl, Nat.le_of_ble_eq_true rfl⟩) rfl hl.1 rfl (Nat.le_of_ble_eq_true rfl) dX11_carries_74 ⟨Nat.zero_le _, Nat.zero_le _⟩ hK hP hD hS hA (fun H locs hP hD hS => ?_)
            refine lv_if_eq (tgt := 124) hx hb dX11_carries_77 (by decide) (fun c25 => ?_) (fun c25 => ?_)
            · have hf := (if_pos c25).symm.trans hf
              obtain ⟨x13, ex13, hf⟩ := bn hf
              refine lv_iinc (v := x13) (lv' := [(4, .int x13), (0, .ref (h 0)), (1, .int p0), (2, .int y3), (3, .int y8)]) hx hb dX11_carries_124 hl (k := 4) rfl (by rw [ex13]; rfl) (by decide) rfl (fun ls hl => ?_)
              refine lv_goto (tgt := 65) hx hb dX11_carries_127 (by decide) ?_
              exact ih65 y8 x13 M12 _ _ _ (lp_l hf hq65) hP hD hS (lv_sub hl [1, 2, 3, 4, 0] rfl)
            · have hf := (if_neg c25).symm.trans hf
              refine lv_aload_n hx hb dX11_carries_80 rfl (lv_at hl 0 rfl) ?_
              obtain ⟨r14, er14, hf⟩ := bd hf
              refine klMi (rest := []) (As := []) ⟨hx, hb, hml, hown, hts⟩ (c_X11_pairsNow l dC dI tI tZ h H.size M12 r14 er14) (cwV 0 hts gX11_carries_X11_pairsNow rfl rfl rfl (by decide +kernel) ⟨Nat.le_of_ble_eq_true rfl, Nat.le_of_ble_eq_true rfl⟩) rfl hl.1 rfl (Nat.le_of_ble_eq_true rfl) dX11_carries_81 ⟨Nat.zero_le _, Nat.zero_le _⟩ hK hP hD hS hA (fun H locs hP hD hS => ?_)
              refine lv_istore (lv' := [(5, .int r14), (0, .ref (h 0)), (1, .int p0), (2, .int y3), (3, .int y8), (4, .int y9)]) hx hb dX11_carries_84 hl (by decide) rfl (fun ls hl => ?_)
              refine lv_iload hx hb dX11_carries_86 (lv_at hl 0 rfl) ?_
              refine lv_iload_n hx hb dX11_carries_88 rfl (lv_at hl 4 rfl) ?_
              refine lv_icmp_le (tgt := 124) hx hb dX11_carries_89 (by decide) (fun c24 => ?_) (fun c24 => ?_)
              · have hf := (if_pos c24).symm.trans hf
                obtain ⟨x15, ex15, hf⟩ := bn hf
                refine lv_iinc (v := x15) (lv' := [(4, .int x15), (5, .int r14), (0, .ref (h 0)), (1, .int p0), (2, .int y3), (3, .int y8)]) hx hb dX11_carries_124 hl (k := 5) rfl (by rw [ex15]; rfl) (by decide) rfl (fun ls hl => ?_)
                refine lv_goto (tgt := 65) hx hb dX11_carries_127 (by decide) ?_
                exact ih65 y8 x15 M12 _ _ _ (lp_l hf hq65) hP hD hS (lv_sub hl [2, 3, 4, 5, 0] rfl)
              · have hf := (if_neg c24).symm.trans hf
                refine lv_iload hx hb dX11_carries_92 (lv_at hl 0 rfl) ?_
                refine lv_istore_n (lv' := [(3, .int r14), (5, .int r14), (0, .ref (h 0)), (1, .int p0), (2, .int y3), (4, .int y9)]) hx hb dX11_carries_94 rfl hl (by decide) rfl (fun ls hl => ?_)
                refine lv_iconst (v := 0) hx hb dX11_carries_95 (by decide) ?_
                refine lv_istore (lv' := [(6, .int 0), (3, .int r14), (5, .int r14), (0, .ref (h 0)), (1, .int p0), (2, .int y3), (4, .int y9)]) hx hb dX11_carries_96 hl (by decide) rfl (fun ls hl => ?_)
                have K98 : ∀ (M16 : MS) (H : Heap) (locs : List Loc) (ls : Array Slot), k_X11_carries_98 y9 r14 M16 = some q65 → va_P (dC, dI) vwCl (wM tI tZ h M16) H → va_D A (wM tI tZ h M16) → va_S A s.heap H locs → lv_has ls 7 [(0, .ref (h 0)), (1, .int p0), (2, .int y3), (3, .int r14), (4, .int y9)] → W p l e RRX11_carries s m args below meth c H locs 0 0 (MQ below (qcMi dC dI tI tZ A h r M') args s 0 0 A) (F0 m 124 ls []) := by
                  intro M16 H locs ls hf hP hD hS hl
                  unfold k_X11_carries_98 at hf
                  obtain ⟨x17, ex17, hf⟩ := bn hf
                  refine lv_iinc (v := x17) (lv' := [(4, .int x17), (0, .ref (h 0)), (1, .int p0), (2, .int y3), (3, .int r14)]) hx hb dX11_carries_124 hl (k := 4) rfl (by rw [ex17]; rfl) (by decide) rfl (fun ls hl => ?_)
                  refine lv_goto (tgt := 65) hx hb dX11_carries_127 (by decide) ?_
                  exact ih65 r14 x17 M16 _ _ _ (lp_l hf hq65) hP hD hS (lv_sub hl [1, 2, 3, 4, 0] rfl)
                obtain ⟨z98, ez98, hz98⟩ := bd hf
                have L98 : ∀ (n : Nat) (y18 : Int32) (M19 : MS) (H : Heap) (locs : List Loc) (ls : Array Slot), lp (fun s => b_X11_carries_98 s.1 s.2) n (y18, M19) = some z98 → va_P (dC, dI) vwCl (wM tI tZ h M19) H → va_D A (wM tI tZ h M19) → va_S A s.heap H locs → lv_has ls 7 [(0, .ref (h 0)), (1, .int p0), (2, .int y3), (3, .int r14), (4, .int y9), (6, .int y18)] → W p l e RRX11_carries s m args below meth c H locs 0 0 (MQ below (qcMi dC dI tI tZ A h r M') args s 0 0 A) (F0 m 98 ls []) := by
                  intro n
                  induction n with
                  | zero => intro y18 M19 H locs ls hf; exact lp_z hf
                  | succ n ih98 =>
                    intro y18 M19 H locs ls hf hP hD hS hl
                    obtain ⟨q98, hf, hq98⟩ := lp_i hf
                    have hf : b_X11_carries_98 y18 M19 = some q98 := hf
                    unfold b_X11_carries_98 at hf
                    refine lv_iload hx hb dX11_carries_98 (lv_at hl 5 rfl) ?_
                    refine lv_iconst (v := 5) hx hb dX11_carries_100 (by decide) ?_
                    refine lv_icmp_ge (tgt := 124) hx hb dX11_carries_101 (by decide) (fun c23 => ?_) (fun c23 => ?_)
                    · have hf := (if_pos c23).symm.trans hf
                      exact K98 M19 _ _ _ (lp_x (k := (fun s => k_X11_carries_98 y9 r14 s)) (lp_r hf hq98) hz98) hP hD hS (lv_sub hl [0, 1, 2, 3, 4] rfl)
                    · have hf := (if_neg c23).symm.trans hf
                      refine lv_aload_n hx hb dX11_carries_104 rfl (lv_at hl 0 rfl) ?_
                      refine geM hx hb hts hin hown hK hP 24 (by decide) lk50 rfl dX11_carries_105 ?_
                      refine lv_iload hx hb dX11_carries_108 (lv_at hl 5 rfl) ?_
                      refine lv_aload_n hx hb dX11_carries_110 rfl (lv_at hl 0 rfl) ?_
                      refine geM hx hb hts hin hown hK hP 23 (by decide) lk47 rfl dX11_carries_111 ?_
                      refine lv_iload hx hb dX11_carries_114 (lv_at hl 5 rfl) ?_
                      obtain ⟨x20, hix20, ex20, hf⟩ := rd_b hf
                      refine va_iald hx hb hK hP 13 0 rfl rfl hix20 dX11_carries_116 (kI ex20 ?_)
                      obtain ⟨M21, hiM21, eM21, hf⟩ := wr_b hf
                      refine va_iast hx hb hK hP hD hS 14 0 rfl rfl hiM21 dX11_carries_117 (fun H locs hP hD hS => ?_)
                      have hP : va_P (dC, dI) vwCl (wM tI tZ h M21) H := by rw [eM21]; exact hP
                      have hD : va_D A (wM tI tZ h M21) := by rw [eM21]; exact hD
                      obtain ⟨x22, ex22, hf⟩ := bn hf
                      refine lv_iinc (v := x22) (lv' := [(6, .int x22), (0, .ref (h 0)), (1, .int p0), (2, .int y3), (3, .int r14), (4, .int y9)]) hx hb dX11_carries_118 hl (k := 5) rfl (by rw [ex22]; rfl) (by decide) rfl (fun ls hl => ?_)
                      refine lv_goto (tgt := 98) hx hb dX11_carries_121 (by decide) ?_
                      exact ih98 x22 M21 _ _ _ (lp_l hf hq98) hP hD hS (lv_sub hl [1, 2, 3, 4, 5, 0] rfl)
                exact L98 FU 0 M12 _ _ _ ez98 hP hD hS (lv_sub hl [3, 4, 5, 1, 6, 0] rfl)
      exact L65 FU (-1) 0 M _ _ _ ez65 hP hD hS (lv_sub hl [2, 3, 4, 1, 0] rfl)
    obtain ⟨z33, ez33, hz33⟩ := bd hf
    have L33 : ∀ (n : Nat) (y27 : Int32) (y28 : Int32) (H : Heap) (locs : List Loc) (ls : Array Slot), lp (fun s => b_X11_carries_33 M s.1 s.2) n (y27, y28) = some z33 → va_P (dC, dI) vwCl (wM tI tZ h M) H → va_D A (wM tI tZ h M) → va_S A s.heap H locs → lv_has ls 7 [(0, .ref (h 0)), (1, .int p0), (2, .int y27), (3, .int y28)] → W p l e RRX11_carries s m args below meth c H locs 0 0 (MQ below (qcMi dC dI tI tZ A h r M') args s 0 0 A) (F0 m 33 ls []) := by
      intro n
      induction n with
      | zero => intro y27 y28 H locs ls hf; exact lp_z hf
      | succ n ih33 =>
        intro y27 y28 H locs ls hf hP hD hS hl
        obtain ⟨q33, hf, hq33⟩ := lp_i hf
        have hf : b_X11_carries_33 M y27 y28 = some q33 := hf
        unfold b_X11_carries_33 at hf
        refine lv_iload_n hx hb dX11_carries_33 rfl (lv_at hl 3 rfl) ?_
        refine lv_aload_n hx hb dX11_carries_34 rfl (lv_at hl 0 rfl) ?_
        refine geM hx hb hts hin hown hK hP 0 (by decide) lk7 rfl dX11_carries_35 ?_
        refine lv_sipush (v := 276) hx hb dX11_carries_38 (by decide) ?_
        obtain ⟨x29, hix29, ex29, hf⟩ := rd_b hf
        refine va_iald hx hb hK hP 1 0 rfl rfl hix29 dX11_carries_41 (kI ex29 ?_)
        refine lv_icmp_ge (tgt := 60) hx hb dX11_carries_42 (by decide) (fun c33 => ?_) (fun c33 => ?_)
        · have hf := (if_pos c33).symm.trans hf
          exact K33 y27 _ _ _ (lp_x (k := (fun s => k_X11_carries_33 M p0 s)) (lp_r hf hq33) hz33) hP hD hS (lv_sub hl [0, 1, 2] rfl)
        · have hf := (if_neg c33).symm.trans hf
          refine lv_iload_n hx hb dX11_carries_45 rfl (lv_at hl 2 rfl) ?_
          refine lv_aload_n hx hb dX11_carries_46 rfl (lv_at hl 0 rfl) ?_
          obtain ⟨r30, er30, hf⟩ := bd hf
          refine klMi (rest := [.int y27]) (As := []) ⟨hx, hb, hml, hown, hts⟩ (c_X11_porters l dC dI tI tZ h H.size M r30 er30) (cwV 0 hts gX11_carries_X11_porters rfl rfl rfl (by decide +kernel) ⟨Nat.le_of_ble_eq_true rfl, Nat.le_of_ble_eq_true rfl⟩) rfl hl.1 rfl (Nat.le_of_ble_eq_true rfl) dX11_carries_47 ⟨Nat.zero_le _, Nat.zero_le _⟩ hK hP hD hS hA (fun H locs hP hD hS => ?_)
          refine lv_iconst (v := 1) hx hb dX11_carries_50 (by decide) ?_
          refine lv_iadd hx hb dX11_carries_51 ?_
          refine lv_imul hx hb dX11_carries_52 ?_
          refine lv_topi (fun x31 ex31 => ?_)
          have hf := bs ex31 hf
          refine lv_istore_n (lv' := [(2, .int x31), (0, .ref (h 0)), (1, .int p0), (3, .int y28)]) hx hb dX11_carries_53 rfl hl (by decide) rfl (fun ls hl => ?_)
          obtain ⟨x32, ex32, hf⟩ := bn hf
          refine lv_iinc (v := x32) (lv' := [(3, .int x32), (2, .int x31), (0, .ref (h 0)), (1, .int p0)]) hx hb dX11_carries_54 hl (k := 3) rfl (by rw [ex32]; rfl) (by decide) rfl (fun ls hl => ?_)
          refine lv_goto (tgt := 33) hx hb dX11_carries_57 (by decide) ?_
          exact ih33 x31 x32 _ _ _ (lp_l hf hq33) hP hD hS (lv_sub hl [2, 3, 1, 0] rfl)
    exact L33 FU 1 0 _ _ _ ez33 hP hD hS (lv_sub hl [2, 3, 1, 0] rfl)
  · have hf := (if_pos c36).symm.trans hf
    refine lv_aload_n hx hb dX11_carries_22 rfl (lv_at hl 0 rfl) ?_
    refine lv_bipush (v := (-10)) hx hb dX11_carries_23 (by decide) ?_
    obtain ⟨r34, M35, er34, hf⟩ := b2 hf
    refine klMi (rest := []) (As := [.int (-10)]) ⟨hx, hb, hml, hown, hts⟩ (c_X11_bad l dC dI tI tZ h H.size M (-10) r34 M35 er34) (cwV 1 hts gX11_carries_X11_bad rfl rfl rfl (by decide +kernel) ⟨Nat.le_of_ble_eq_true rfl, Nat.le_of_ble_eq_true rfl⟩) rfl hl.1 rfl (Nat.le_of_ble_eq_true rfl) dX11_carries_25 ⟨Nat.zero_le _, Nat.zero_le _⟩ hK hP hD hS hA (fun H locs hP hD hS => ?_)
    exact rtMi hx hb hr hlocks hK hP hD hS hf dX11_carries_28

def j_X11_fell_92 (p1 : Int32) (p2 : Int32) (M8 : MS) (y10 : Int32) (y14 : Int32) (y15 : Int32) (k18 : Int32) : Option ((Int32 × Int32) ⊕ ((Int32 × Int32) ⊕ (Int32 × MS))) :=
  (if k18 = 0 then (Option.bind (some (y15 + 1)) (fun x19 => some (Sum.inl (y14, x19)))) else (Option.bind (f_X11_anyNever M8 ((1 <<< (y10 &&& 31)) ||| (1 <<< (y15 &&& 31))) 0) (fun r20 => (if r20 = 0 then (Option.bind (f_X11_areUnlike M8 y10 y15 p1) (fun r22 => (if r22 = 0 then ((if y14 = p2 then (some (Sum.inr (Sum.inr (((10 * y10) + y15, M8))))) else (Option.bind (some (y14 + 1)) (fun x24 => Option.bind (some (y15 + 1)) (fun x25 => some (Sum.inl (x24, x25))))))) else (Option.bind (some (y15 + 1)) (fun x23 => some (Sum.inl (y14, x23))))))) else (Option.bind (some (y15 + 1)) (fun x21 => some (Sum.inl (y14, x21))))))))
def b_X11_fell_63 (p0 : Int32) (p1 : Int32) (p2 : Int32) (M8 : MS) (y10 : Int32) (y14 : Int32) (y15 : Int32) : Option ((Int32 × Int32) ⊕ ((Int32 × Int32) ⊕ (Int32 × MS))) :=
  Option.bind (f_X11_porters M8) (fun r16 => (if r16 ≤ y15 then (Option.bind (some (y10 + 1)) (fun x17 => some (Sum.inr (Sum.inl (y14, x17))))) else ((if ((p0 >>> (y10 &&& 31)) &&& 1) = ((p0 >>> (y15 &&& 31)) &&& 1) then (j_X11_fell_92 p1 p2 M8 y10 y14 y15 1) else (j_X11_fell_92 p1 p2 M8 y10 y14 y15 0)))))
def b_X11_fell_48 (p0 : Int32) (p1 : Int32) (p2 : Int32) (M8 : MS) (y9 : Int32) (y10 : Int32) : Option ((Int32 × Int32) ⊕ (Int32 × MS)) :=
  Option.bind (f_X11_porters M8) (fun r11 => (if r11 ≤ y10 then ((if p2 = (-1) then (some (Sum.inr ((y9, M8)))) else (some (Sum.inr (((-5), M8)))))) else (Option.bind (some (y10 + 1)) (fun x13 => lp (fun s => b_X11_fell_63 p0 p1 p2 M8 y10 s.1 s.2) FU (y9, x13)))))
def f_X11_fell (M : MS) (p0 : Int32) (p1 : Int32) (p2 : Int32) : Option (Int32 × MS) :=
  Option.bind (f_X11_all M) (fun r1 => Option.bind (f_X11_in (Int32.toInt64 p0) 0 (Int32.toInt64 r1)) (fun r2 => (if r2 = 0 then (bi2 (f_X11_bad M (-10)) (fun r3 M4 => some ((r3, M4)))) else (Option.bind (f_X11_in (Int32.toInt64 p1) 0 239) (fun r5 => (if r5 = 0 then (bi2 (f_X11_bad M (-10)) (fun r6 M7 => some ((r6, M7)))) else ((if (-1) ≤ p2 then (Option.bind (f_X11_carryNothing M) (fun M8 => lp (fun s => b_X11_fell_48 p0 p1 p2 M8 s.1 s.2) FU (0, 0))) else (bi2 (f_X11_bad M (-10)) (fun r33 M34 => some ((r33, M34))))))))))))
def rmX11_fell : Room := { frames := 3, cells := 0, slots := 0, locals := 70 }
abbrev RRX11_fell : Room := (headSpec wsX11_fell rmX11_fell).room
theorem inX11_fell : ∀ w ∈ wsX110, w ∈ wsX11_fell := by decide +kernel
set_option maxHeartbeats 4000000 in
set_option maxRecDepth 100000 in
theorem c_X11_fell (l : Launch) (dC : Nat → ClassId) (dI : Nat → Nat → Nat) (tI tZ : ClassId) (h : Nat → Nat) (sz : Nat) (M : MS) (p0 : Int32) (p1 : Int32) (p2 : Int32) (r : Int32) (M' : MS) (hf : f_X11_fell M p0 p1 p2 = some (r, M')) : cMi l yX11_fell wsX11_fell rmX11_fell dC dI tI tZ h sz [.ref (h 0), .int p0, .int p1, .int p2] M r M' := by
  refine Met.ofW (cc := cX11_fell) (maxL := 8) (ret := (some .int)) (by decide) rfl ?_
  intro p e s m args below meth c s₁ B hml hv
  obtain ⟨hargs, hsz, hP, hK, hD0⟩ := hv
  have hx := B.exec
  have hb := B.bytes
  have hr := B.returns
  have hts := atoms_spec (ws := wsX11_fell) B.pre
  have hown : s.vm.findClass RX11 = some m.cls := findClass_of_methodNamed B.named
  have hlocks := B.notSynchronized
  have hin := inX11_fell
  have hsz : s.heap.size = sz := hsz
  subst hsz
  have hD := hD0.self (sz := s.heap.size)
  generalize hAe : va_A (wM tI tZ h M) s.heap.size = A at hD ⊢
  have hA : ∀ q : Nat, s.heap.size ≤ q → A q := fun q h => by rw [← hAe]; exact Or.inr h
  have hS : va_S A s.heap s.heap [] := va_S.rf
  have hl := lv_entry ([.ref (h 0), .int p0, .int p1, .int p2]) (n := 8) (Nat.le_of_ble_eq_true rfl)
  rw [show entryFrame m args 8 = entryFrame m ([.ref (h 0), .int p0, .int p1, .int p2] : List Value).toArray 8 from by rw [hargs], lg_entry_eq]
  generalize (lg_sl ([.ref (h 0), .int p0, .int p1, .int p2]) ++ List.replicate (8 - (lg_sl ([.ref (h 0), .int p0, .int p1, .int p2])).length) Slot.unset).toArray = ls at hl ⊢
  have hl : lv_has ls 8 [(0, .ref (h 0)), (1, .int p0), (2, .int p1), (3, .int p2)] := hl
  unfold f_X11_fell at hf
  refine lv_iload_n hx hb dX11_fell_0 rfl (lv_at hl 1 rfl) ?_
  refine lv_i2l hx hb dX11_fell_1 rfl ?_
  refine lv_lconst (v := 0) hx hb dX11_fell_2 (by decide) ?_
  refine lv_aload_n hx hb dX11_fell_3 rfl (lv_at hl 0 rfl) ?_
  obtain ⟨r1, er1, hf⟩ := bd hf
  refine klMi (rest := [.long 0, .long (Int32.toInt64 p0)]) (As := []) ⟨hx, hb, hml, hown, hts⟩ (c_X11_all l dC dI tI tZ h s.heap.size M r1 er1) (cwV 0 hts gX11_fell_X11_all rfl rfl rfl (by decide +kernel) ⟨Nat.le_of_ble_eq_true rfl, Nat.le_of_ble_eq_true rfl⟩) rfl hl.1 rfl (Nat.le_of_ble_eq_true rfl) dX11_fell_4 ⟨Nat.zero_le _, Nat.zero_le _⟩ hK hP hD hS hA (fun H locs hP hD hS => ?_)
  refine lv_i2l hx hb dX11_fell_7 rfl ?_
  obtain ⟨r2, er2, hf⟩ := bd hf
  refine klEi (rest := []) (As := [.long (Int32.toInt64 p0), .long 0, .long (Int32.toInt64 r1)]) ⟨hx, hb, hml, hown, hts⟩ (c_X11_in l H.size (Int32.toInt64 p0) 0 (Int32.toInt64 r1) r2 er2) (va_cwS 3 hts gX11_fell_X11_in rfl rfl rfl (by decide +kernel) ⟨Nat.le_of_ble_eq_true rfl, Nat.le_of_ble_eq_true rfl⟩) rfl hl.1 rfl (Nat.le_of_ble_eq_true rfl) dX11_fell_8 ⟨Nat.zero_le _, Nat.zero_le _⟩ hS hA (fun H2 locs hk hS => ?_)
  have hP := kpP hP hk
  generalize H2 = H at hP hS ⊢
  refine lv_if_eq (tgt := 31) hx hb dX11_fell_11 (by decide) (fun c37 => ?_) (fun c37 => ?_)
  · have hf := (if_pos c37).symm.trans hf
    refine lv_aload_n hx hb dX11_fell_31 rfl (lv_at hl 0 rfl) ?_
    refine lv_bipush (v := (-10)) hx hb dX11_fell_32 (by decide) ?_
    obtain ⟨r3, M4, er3, hf⟩ := b2 hf
    refine klMi (rest := []) (As := [.int (-10)]) ⟨hx, hb, hml, hown, hts⟩ (c_X11_bad l dC dI tI tZ h H.size M (-10) r3 M4 er3) (cwV 1 hts gX11_fell_X11_bad rfl rfl rfl (by decide +kernel) ⟨Nat.le_of_ble_eq_true rfl, Nat.le_of_ble_eq_true rfl⟩) rfl hl.1 rfl (Nat.le_of_ble_eq_true rfl) dX11_fell_34 ⟨Nat.zero_le _, Nat.zero_le _⟩ hK hP hD hS hA (fun H locs hP hD hS => ?_)
    exact rtMi hx hb hr hlocks hK hP hD hS hf dX11_fell_37
  · have hf := (if_neg c37).symm.trans hf
    refine lv_iload_n hx hb dX11_fell_14 rfl (lv_at hl 2 rfl) ?_
    refine lv_i2l hx hb dX11_fell_15 rfl ?_
    refine lv_lconst (v := 0) hx hb dX11_fell_16 (by decide) ?_
    refine lv_ldc2 (v := 239) hx hb hown (hts (.constantLong RX11 96 (239)) (by decide +kernel)) dX11_fell_17 ?_
    obtain ⟨r5, er5, hf⟩ := bd hf
    refine klEi (rest := []) (As := [.long (Int32.toInt64 p1), .long 0, .long 239]) ⟨hx, hb, hml, hown, hts⟩ (c_X11_in l H.size (Int32.toInt64 p1) 0 239 r5 er5) (va_cwS 3 hts gX11_fell_X11_in rfl rfl rfl (by decide +kernel) ⟨Nat.le_of_ble_eq_true rfl, Nat.le_of_ble_eq_true rfl⟩) rfl hl.1 rfl (Nat.le_of_ble_eq_true rfl) dX11_fell_20 ⟨Nat.zero_le _, Nat.zero_le _⟩ hS hA (fun H2 locs hk hS => ?_)
    have hP := kpP hP hk
    generalize H2 = H at hP hS ⊢
    refine lv_if_eq (tgt := 31) hx hb dX11_fell_23 (by decide) (fun c36 => ?_) (fun c36 => ?_)
    · have hf := (if_pos c36).symm.trans hf
      refine lv_aload_n hx hb dX11_fell_31 rfl (lv_at hl 0 rfl) ?_
      refine lv_bipush (v := (-10)) hx hb dX11_fell_32 (by decide) ?_
      obtain ⟨r6, M7, er6, hf⟩ := b2 hf
      refine klMi (rest := []) (As := [.int (-10)]) ⟨hx, hb, hml, hown, hts⟩ (c_X11_bad l dC dI tI tZ h H.size M (-10) r6 M7 er6) (cwV 1 hts gX11_fell_X11_bad rfl rfl rfl (by decide +kernel) ⟨Nat.le_of_ble_eq_true rfl, Nat.le_of_ble_eq_true rfl⟩) rfl hl.1 rfl (Nat.le_of_ble_eq_true rfl) dX11_fell_34 ⟨Nat.zero_le _, Nat.zero_le _⟩ hK hP hD hS hA (fun H locs hP hD hS => ?_)
      exact rtMi hx hb hr hlocks hK hP hD hS hf dX11_fell_37
    · have hf := (if_neg c36).symm.trans hf
      refine lv_iload_n hx hb dX11_fell_26 rfl (lv_at hl 3 rfl) ?_
      refine lv_iconst (v := (-1)) hx hb dX11_fell_27 (by decide) ?_
      refine lv_icmp_ge (tgt := 38) hx hb dX11_fell_28 (by decide) (fun c35 => ?_) (fun c35 => ?_)
      · have hf := (if_pos c35).symm.trans hf
        refine lv_aload_n hx hb dX11_fell_38 rfl (lv_at hl 0 rfl) ?_
        obtain ⟨M8, eM8, hf⟩ := bd hf
        refine klMv (rest := []) (As := []) ⟨hx, hb, hml, hown, hts⟩ (c_X11_carryNothing l dC dI tI tZ h H.size M M8 eM8) (cwV 0 hts gX11_fell_X11_carryNothing rfl rfl rfl (by decide +kernel) ⟨Nat.le_of_ble_eq_true rfl, Nat.le_of_ble_eq_true rfl⟩) rfl hl.1 rfl (Nat.le_of_ble_eq_true rfl) dX11_fell_39 ⟨Nat.zero_le _, Nat.zero_le _⟩ hK hP hD hS hA (fun H locs hP hD hS => ?_)
        refine lv_iconst (v := 0) hx hb dX11_fell_42 (by decide) ?_
        refine lv_istore (lv' := [(4, .int 0), (0, .ref (h 0)), (1, .int p0), (2, .int p1), (3, .int p2)]) hx hb dX11_fell_43 hl (by decide) rfl (fun ls hl => ?_)
        refine lv_iconst (v := 0) hx hb dX11_fell_45 (by decide) ?_
        refine lv_istore (lv' := [(5, .int 0), (4, .int 0), (0, .ref (h 0)), (1, .int p0), (2, .int p1), (3, .int p2)]) hx hb dX11_fell_46 hl (by decide) rfl (fun ls hl => ?_)
        have L48 : ∀ (n : Nat) (y9 : Int32) (y10 : Int32) (H : Heap) (locs : List Loc) (ls : Array Slot), lp (fun s => b_X11_fell_48 p0 p1 p2 M8 s.1 s.2) n (y9, y10) = some (r, M') → va_P (dC, dI) vwCl (wM tI tZ h M8) H → va_D A (wM tI tZ h M8) → va_S A s.heap H locs → lv_has ls 8 [(0, .ref (h 0)), (1, .int p0), (2, .int p1), (3, .int p2), (4, .int y9), (5, .int y10)] → W p l e RRX11_fell s m args below meth c H locs 0 0 (MQ below (qcMi dC dI tI tZ A h r M') args s 0 0 A) (F0 m 48 ls []) := by
          intro n
          induction n with
          | zero => intro y9 y10 H locs ls hf; exact lp_z hf
          | succ n ih48 =>
            intro y9 y10 H locs ls hf hP hD hS hl
            obtain ⟨q48, hf, hq48⟩ := lp_i hf
            have hf : b_X11_fell_48 p0 p1 p2 M8 y9 y10 = some q48 := hf
            unfold b_X11_fell_48 at hf
            refine lv_iload hx hb dX11_fell_48 (lv_at hl 5 rfl) ?_
            refine lv_aload_n hx hb dX11_fell_50 rfl (lv_at hl 0 rfl) ?_
            obtain ⟨r11, er11, hf⟩ := bd hf
            refine klMi (rest := [.int y10]) (As := []) ⟨hx, hb, hml, hown, hts⟩ (c_X11_porters l dC dI tI tZ h H.size M8 r11 er11) (cwV 0 hts gX11_fell_X11_porters rfl rfl rfl (by decide +kernel) ⟨Nat.le_of_ble_eq_true rfl, Nat.le_of_ble_eq_true rfl⟩) rfl hl.1 rfl (Nat.le_of_ble_eq_true rfl) dX11_fell_51 ⟨Nat.zero_le _, Nat.zero_le _⟩ hK hP hD hS hA (fun H locs hP hD hS => ?_)
            refine lv_icmp_ge (tgt := 158) hx hb dX11_fell_54 (by decide) (fun c32 => ?_) (fun c32 => ?_)
            · have hf := (if_pos c32).symm.trans hf
              refine lv_iload_n hx hb dX11_fell_158 rfl (lv_at hl 3 rfl) ?_
              refine lv_iconst (v := (-1)) hx hb dX11_fell_159 (by decide) ?_
              refine lv_icmp_ne (tgt := 168) hx hb dX11_fell_160 (by decide) (fun c12 => ?_) (fun c12 => ?_)
              · have hf := (if_neg c12).symm.trans hf
                refine lv_bipush (v := (-5)) hx hb dX11_fell_168 (by decide) ?_
                have hf := lp_r hf hq48
                exact rtMi hx hb hr hlocks hK hP hD hS hf dX11_fell_170
              · have hf := (if_pos c12).symm.trans hf
                refine lv_iload hx hb dX11_fell_163 (lv_at hl 4 rfl) ?_
                refine lv_goto (tgt := 170) hx hb dX11_fell_165 (by decide) ?_
                have hf := lp_r hf hq48
                exact rtMi hx hb hr hlocks hK hP hD hS hf dX11_fell_170
            · have hf := (if_neg c32).symm.trans hf
              refine lv_iload hx hb dX11_fell_57 (lv_at hl 5 rfl) ?_
              refine lv_iconst (v := 1) hx hb dX11_fell_59 (by decide) ?_
              refine lv_iadd hx hb dX11_fell_60 ?_
              refine lv_topi (fun x13 ex13 => ?_)
              have hf := bs ex13 hf
              refine lv_istore (lv' := [(6, .int x13), (0, .ref (h 0)), (1, .int p0), (2, .int p1), (3, .int p2), (4, .int y9), (5, .int y10)]) hx hb dX11_fell_61 hl (by decide) rfl (fun ls hl => ?_)
              have L63 : ∀ (n : Nat) (y14 : Int32) (y15 : Int32) (H : Heap) (locs : List Loc) (ls : Array Slot), lp (fun s => b_X11_fell_63 p0 p1 p2 M8 y10 s.1 s.2) n (y14, y15) = some q48 → va_P (dC, dI) vwCl (wM tI tZ h M8) H → va_D A (wM tI tZ h M8) → va_S A s.heap H locs → lv_has ls 8 [(0, .ref (h 0)), (1, .int p0), (2, .int p1), (3, .int p2), (4, .int y14), (5, .int y10), (6, .int y15)] → W p l e RRX11_fell s m args below meth c H locs 0 0 (MQ below (qcMi dC dI tI tZ A h r M') args s 0 0 A) (F0 m 63 ls []) := by
                intro n
                induction n with
                | zero => intro y14 y15 H locs ls hf; exact lp_z hf
                | succ n ih63 =>
                  intro y14 y15 H locs ls hf hP hD hS hl
                  obtain ⟨q63, hf, hq63⟩ := lp_i hf
                  have hf : b_X11_fell_63 p0 p1 p2 M8 y10 y14 y15 = some q63 := hf
                  unfold b_X11_fell_63 at hf
                  refine lv_iload hx hb dX11_fell_63 (lv_at hl 6 rfl) ?_
                  refine lv_aload_n hx hb dX11_fell_65 rfl (lv_at hl 0 rfl) ?_
                  obtain ⟨r16, er16, hf⟩ := bd hf
                  refine klMi (rest := [.int y15]) (As := []) ⟨hx, hb, hml, hown, hts⟩ (c_X11_porters l dC dI tI tZ h H.size M8 r16 er16) (cwV 0 hts gX11_fell_X11_porters rfl rfl rfl (by decide +kernel) ⟨Nat.le_of_ble_eq_true rfl, Nat.le_of_ble_eq_true rfl⟩) rfl hl.1 rfl (Nat.le_of_ble_eq_true rfl) dX11_fell_66 ⟨Nat.zero_le _, Nat.zero_le _⟩ hK hP hD hS hA (fun H locs hP hD hS => ?_)
                  refine lv_icmp_ge (tgt := 152) hx hb dX11_fell_69 (by decide) (fun c31 => ?_) (fun c31 => ?_)
                  · have hf := (if_pos c31).symm.trans hf
                    obtain ⟨x17, ex17, hf⟩ := bn hf
                    refine lv_iinc (v := x17) (lv' := [(5, .int x17), (0, .ref (h 0)), (1, .int p0), (2, .int p1), (3, .int p2), (4, .int y14), (6, .int y15)]) hx hb dX11_fell_152 hl (k := 5) rfl (by rw [ex17]; rfl) (by decide) rfl (fun ls hl => ?_)
                    refine lv_goto (tgt := 48) hx hb dX11_fell_155 (by decide) ?_
                    have hf := lp_r hf hq63
                    exact ih48 y14 x17 _ _ _ (lp_l hf hq48) hP hD hS (lv_sub hl [1, 2, 3, 4, 5, 0] rfl)
                  · have hf := (if_neg c31).symm.trans hf
                    refine lv_iload_n hx hb dX11_fell_72 rfl (lv_at hl 1 rfl) ?_
                    refine lv_iload hx hb dX11_fell_73 (lv_at hl 5 rfl) ?_
                    refine lv_ishr hx hb dX11_fell_75 ?_
                    refine lv_iconst (v := 1) hx hb dX11_fell_76 (by decide) ?_
                    refine lv_iand hx hb dX11_fell_77 ?_
                    refine lv_iload_n hx hb dX11_fell_78 rfl (lv_at hl 1 rfl) ?_
                    refine lv_iload hx hb dX11_fell_79 (lv_at hl 6 rfl) ?_
                    refine lv_ishr hx hb dX11_fell_81 ?_
                    refine lv_iconst (v := 1) hx hb dX11_fell_82 (by decide) ?_
                    refine lv_iand hx hb dX11_fell_83 ?_
                    have J92 : ∀ (k18 : Int32) (H : Heap) (locs : List Loc) (ls : Array Slot), j_X11_fell_92 p1 p2 M8 y10 y14 y15 k18 = some q63 → va_P (dC, dI) vwCl (wM tI tZ h M8) H → va_D A (wM tI tZ h M8) → va_S A s.heap H locs → lv_has ls 8 [(0, .ref (h 0)), (1, .int p0), (2, .int p1), (3, .int p2), (4, .int y14), (5, .int y10), (6, .int y15)] → W p l e RRX11_fell s m args below meth c H locs 0 0 (MQ below (qcMi dC dI tI tZ A h r M') args s 0 0 A) (F0 m 92 ls [.int k18]) := by
                      intro k18 H locs ls hf hP hD hS hl
                      unfold j_X11_fell_92 at hf
                      refine lv_istore (lv' := [(7, .int k18), (0, .ref (h 0)), (1, .int p0), (2, .int p1), (3, .int p2), (4, .int y14), (5, .int y10), (6, .int y15)]) hx hb dX11_fell_92 hl (by decide) rfl (fun ls hl => ?_)
                      refine lv_iload hx hb dX11_fell_94 (lv_at hl 0 rfl) ?_
                      refine lv_if_eq (tgt := 146) hx hb dX11_fell_96 (by decide) (fun c29 => ?_) (fun c29 => ?_)
                      · have hf := (if_pos c29).symm.trans hf
                        obtain ⟨x19, ex19, hf⟩ := bn hf
                        refine lv_iinc (v := x19) (lv' := [(6, .int x19), (7, .int k18), (0, .ref (h 0)), (1, .int p0), (2, .int p1), (3, .int p2), (4, .int y14), (5, .int y10)]) hx hb dX11_fell_146 hl (k := 7) rfl (by rw [ex19]; rfl) (by decide) rfl (fun ls hl => ?_)
                        refine lv_goto (tgt := 63) hx hb dX11_fell_149 (by decide) ?_
                        exact ih63 y14 x19 _ _ _ (lp_l hf hq63) hP hD hS (lv_sub hl [2, 3, 4, 5, 6, 7, 0] rfl)
                      · have hf := (if_neg c29).symm.trans hf
                        refine lv_aload_n hx hb dX11_fell_99 rfl (lv_at hl 1 rfl) ?_
                        refine lv_iconst (v := 1) hx hb dX11_fell_100 (by decide) ?_
                        refine lv_iload hx hb dX11_fell_101 (lv_at hl 6 rfl) ?_
                        refine lv_ishl hx hb dX11_fell_103 ?_
                        refine lv_iconst (v := 1) hx hb dX11_fell_104 (by decide) ?_
                        refine lv_iload hx hb dX11_fell_105 (lv_at hl 7 rfl) ?_
                        refine lv_ishl hx hb dX11_fell_107 ?_
                        refine lv_ior hx hb dX11_fell_108 ?_
                        refine lv_iconst (v := 0) hx hb dX11_fell_109 (by decide) ?_
                        obtain ⟨r20, er20, hf⟩ := bd hf
                        refine klMi (rest := []) (As := [.int ((1 <<< (y10 &&& 31)) ||| (1 <<< (y15 &&& 31))), .int 0]) ⟨hx, hb, hml, hown, hts⟩ (c_X11_anyNever l dC dI tI tZ h H.size M8 ((1 <<< (y10 &&& 31)) ||| (1 <<< (y15 &&& 31))) 0 r20 er20) (cwV 2 hts gX11_fell_X11_anyNever rfl rfl rfl (by decide +kernel) ⟨Nat.le_of_ble_eq_true rfl, Nat.le_of_ble_eq_true rfl⟩) rfl hl.1 rfl (Nat.le_of_ble_eq_true rfl) dX11_fell_110 ⟨Nat.zero_le _, Nat.zero_le _⟩ hK hP hD hS hA (fun H locs hP hD hS => ?_)
                        refine lv_if_ne (tgt := 146) hx hb dX11_fell_113 (by decide) (fun c28 => ?_) (fun c28 => ?_)
                        · have hf := (if_neg c28).symm.trans hf
                          obtain ⟨x21, ex21, hf⟩ := bn hf
                          refine lv_iinc (v := x21) (lv' := [(6, .int x21), (7, .int k18), (0, .ref (h 0)), (1, .int p0), (2, .int p1), (3, .int p2), (4, .int y14), (5, .int y10)]) hx hb dX11_fell_146 hl (k := 7) rfl (by rw [ex21]; rfl) (by decide) rfl (fun ls hl => ?_)
                          refine lv_goto (tgt := 63) hx hb dX11_fell_149 (by decide) ?_
                          exact ih63 y14 x21 _ _ _ (lp_l hf hq63) hP hD hS (lv_sub hl [2, 3, 4, 5, 6, 7, 0] rfl)
                        · have hf := (if_pos c28).symm.trans hf
                          refine lv_aload_n hx hb dX11_fell_116 rfl (lv_at hl 1 rfl) ?_
                          refine lv_iload hx hb dX11_fell_117 (lv_at hl 6 rfl) ?_
                          refine lv_iload hx hb dX11_fell_119 (lv_at hl 7 rfl) ?_
                          refine lv_iload_n hx hb dX11_fell_121 rfl (lv_at hl 3 rfl) ?_
                          obtain ⟨r22, er22, hf⟩ := bd hf
                          refine klMi (rest := []) (As := [.int y10, .int y15, .int p1]) ⟨hx, hb, hml, hown, hts⟩ (c_X11_areUnlike l dC dI tI tZ h H.size M8 y10 y15 p1 r22 er22) (cwV 3 hts gX11_fell_X11_areUnlike rfl rfl rfl (by decide +kernel) ⟨Nat.le_of_ble_eq_true rfl, Nat.le_of_ble_eq_true rfl⟩) rfl hl.1 rfl (Nat.le_of_ble_eq_true rfl) dX11_fell_122 ⟨Nat.zero_le _, Nat.zero_le _⟩ hK hP hD hS hA (fun H locs hP hD hS => ?_)
                          refine lv_if_ne (tgt := 146) hx hb dX11_fell_125 (by decide) (fun c27 => ?_) (fun c27 => ?_)
                          · have hf := (if_neg c27).symm.trans hf
                            obtain ⟨x23, ex23, hf⟩ := bn hf
                            refine lv_iinc (v := x23) (lv' := [(6, .int x23), (7, .int k18), (0, .ref (h 0)), (1, .int p0), (2, .int p1), (3, .int p2), (4, .int y14), (5, .int y10)]) hx hb dX11_fell_146 hl (k := 7) rfl (by rw [ex23]; rfl) (by decide) rfl (fun ls hl => ?_)
                            refine lv_goto (tgt := 63) hx hb dX11_fell_149 (by decide) ?_
                            exact ih63 y14 x23 _ _ _ (lp_l hf hq63) hP hD hS (lv_sub hl [2, 3, 4, 5, 6, 7, 0] rfl)
                          · have hf := (if_pos c27).symm.trans hf
                            refine lv_iload hx hb dX11_fell_128 (lv_at hl 5 rfl) ?_
                            refine lv_iload_n hx hb dX11_fell_130 rfl (lv_at hl 4 rfl) ?_
                            refine lv_icmp_ne (tgt := 143) hx hb dX11_fell_131 (by decide) (fun c26 => ?_) (fun c26 => ?_)
                            · have hf := (if_neg c26).symm.trans hf
                              obtain ⟨x24, ex24, hf⟩ := bn hf
                              refine lv_iinc (v := x24) (lv' := [(4, .int x24), (7, .int k18), (0, .ref (h 0)), (1, .int p0), (2, .int p1), (3, .int p2), (5, .int y10), (6, .int y15)]) hx hb dX11_fell_143 hl (k := 5) rfl (by rw [ex24]; rfl) (by decide) rfl (fun ls hl => ?_)
                              obtain ⟨x25, ex25, hf⟩ := bn hf
                              refine lv_iinc (v := x25) (lv' := [(6, .int x25), (4, .int x24), (7, .int k18), (0, .ref (h 0)), (1, .int p0), (2, .int p1), (3, .int p2), (5, .int y10)]) hx hb dX11_fell_146 hl (k := 7) rfl (by rw [ex25]; rfl) (by decide) rfl (fun ls hl => ?_)
                              refine lv_goto (tgt := 63) hx hb dX11_fell_149 (by decide) ?_
                              exact ih63 x24 x25 _ _ _ (lp_l hf hq63) hP hD hS (lv_sub hl [3, 4, 5, 6, 1, 7, 0] rfl)
                            · have hf := (if_pos c26).symm.trans hf
                              refine lv_bipush (v := 10) hx hb dX11_fell_134 (by decide) ?_
                              refine lv_iload hx hb dX11_fell_136 (lv_at hl 6 rfl) ?_
                              refine lv_imul hx hb dX11_fell_138 ?_
                              refine lv_iload hx hb dX11_fell_139 (lv_at hl 7 rfl) ?_
                              refine lv_iadd hx hb dX11_fell_141 ?_
                              have hf := lp_r hf hq63
                              have hf := lp_r hf hq48
                              exact rtMi hx hb hr hlocks hK hP hD hS hf dX11_fell_142
                    refine lv_icmp_ne (tgt := 91) hx hb dX11_fell_84 (by decide) (fun c30 => ?_) (fun c30 => ?_)
                    · have hf := (if_neg c30).symm.trans hf
                      refine lv_iconst (v := 0) hx hb dX11_fell_91 (by decide) ?_
                      exact J92 0 _ _ _ hf hP hD hS (lv_sub hl [0, 1, 2, 3, 4, 5, 6] rfl)
                    · have hf := (if_pos c30).symm.trans hf
                      refine lv_iconst (v := 1) hx hb dX11_fell_87 (by decide) ?_
                      refine lv_goto (tgt := 92) hx hb dX11_fell_88 (by decide) ?_
                      exact J92 1 _ _ _ hf hP hD hS (lv_sub hl [0, 1, 2, 3, 4, 5, 6] rfl)
              exact L63 FU y9 x13 _ _ _ hf hP hD hS (lv_sub hl [1, 2, 3, 4, 5, 6, 0] rfl)
        exact L48 FU 0 0 _ _ _ hf hP hD hS (lv_sub hl [2, 3, 4, 5, 1, 0] rfl)
      · have hf := (if_neg c35).symm.trans hf
        refine lv_aload_n hx hb dX11_fell_31 rfl (lv_at hl 0 rfl) ?_
        refine lv_bipush (v := (-10)) hx hb dX11_fell_32 (by decide) ?_
        obtain ⟨r33, M34, er33, hf⟩ := b2 hf
        refine klMi (rest := []) (As := [.int (-10)]) ⟨hx, hb, hml, hown, hts⟩ (c_X11_bad l dC dI tI tZ h H.size M (-10) r33 M34 er33) (cwV 1 hts gX11_fell_X11_bad rfl rfl rfl (by decide +kernel) ⟨Nat.le_of_ble_eq_true rfl, Nat.le_of_ble_eq_true rfl⟩) rfl hl.1 rfl (Nat.le_of_ble_eq_true rfl) dX11_fell_34 ⟨Nat.zero_le _, Nat.zero_le _⟩ hK hP hD hS hA (fun H locs hP hD hS => ?_)
        exact rtMi hx hb hr hlocks hK hP hD hS hf dX11_fell_37

def k_X11_ropes_48 (M : MS) (p0 : Int32) (y3 : Int32) (y5 : Int32) (y8 : Int32) : Option ((Int32 × Int32) ⊕ ((Int32 × Int32) ⊕ (Int32 × MS))) :=
  (if y8 ≤ p0 then (Option.bind (some (y5 + 1)) (fun x9 => some (Sum.inl (y8, x9)))) else (some (Sum.inr (Sum.inr (((100 * y3) + y5, M))))))
def b_X11_ropes_48 (M : MS) (y5 : Int32) (y11 : Int32) (y12 : Int32) : Option ((Int32 × Int32) ⊕ Int32) :=
  Option.bind (f_X11_porters M) (fun r13 => (if r13 ≤ y12 then (some (Sum.inr y11)) else (Option.bind (rdI 277 (M 0) ((28 + (2 * y5)) + 1)) (fun x14 => (if ((x14 >>> (y12 &&& 31)) &&& 1) = 1 then (Option.bind (rdI 277 (M 0) (28 + (2 * y5))) (fun x17 => Option.bind (f_X11_weightOf M y12 x17) (fun r18 => Option.bind (some (y11 + r18)) (fun x19 => Option.bind (some (y12 + 1)) (fun x20 => some (Sum.inl (x19, x20))))))) else (Option.bind (some (y11 + 0)) (fun x15 => Option.bind (some (y12 + 1)) (fun x16 => some (Sum.inl (x15, x16))))))))))
def b_X11_ropes_32 (M : MS) (p0 : Int32) (y3 : Int32) (y4 : Int32) (y5 : Int32) : Option ((Int32 × Int32) ⊕ ((Int32 × Int32) ⊕ (Int32 × MS))) :=
  Option.bind (rdI 277 (M 0) 275) (fun x6 => (if x6 ≤ y5 then (Option.bind (some (y3 + 1)) (fun x7 => some (Sum.inr (Sum.inl (y4, x7))))) else (Option.bind (lp (fun s => b_X11_ropes_48 M y5 s.1 s.2) FU (y4, 0)) (fun s => k_X11_ropes_48 M p0 y3 y5 s))))
def b_X11_ropes_23 (M : MS) (p0 : Int32) (y2 : Int32) (y3 : Int32) : Option ((Int32 × Int32) ⊕ (Int32 × MS)) :=
  (if 99 ≤ y3 then (some (Sum.inr (((-1), M)))) else (lp (fun s => b_X11_ropes_32 M p0 y3 s.1 s.2) FU (y2, 0)))
def f_X11_ropes (M : MS) (p0 : Int32) : Option (Int32 × MS) :=
  Option.bind (f_X11_in (Int32.toInt64 p0) 1 30000) (fun r1 => (if r1 = 0 then (bi2 (f_X11_bad M (-2)) (fun r25 M26 => some ((r25, M26)))) else (lp (fun s => b_X11_ropes_23 M p0 s.1 s.2) FU (0, 0))))
def rmX11_ropes : Room := { frames := 2, cells := 0, slots := 0, locals := 46 }
abbrev RRX11_ropes : Room := (headSpec wsX11_ropes rmX11_ropes).room
theorem inX11_ropes : ∀ w ∈ wsX110, w ∈ wsX11_ropes := by decide +kernel
set_option maxHeartbeats 4000000 in
set_option maxRecDepth 100000 in
theorem c_X11_ropes (l : Launch) (dC : Nat → ClassId) (dI : Nat → Nat → Nat) (tI tZ : ClassId) (h : Nat → Nat) (sz : Nat) (M : MS) (p0 : Int32) (r : Int32) (M' : MS) (hf : f_X11_ropes M p0 = some (r, M')) : cMi l yX11_ropes wsX11_ropes rmX11_ropes dC dI tI tZ h sz [.ref (h 0), .int p0] M r M' := by
  refine Met.ofW (cc := cX11_ropes) (maxL := 6) (ret := (some .int)) (by decide) rfl ?_
  intro p e s m args below meth c s₁ B hml hv
  obtain ⟨hargs, hsz, hP, hK, hD0⟩ := hv
  have hx := B.exec
  have hb := B.bytes
  have hr := B.returns
  have hts := atoms_spec (ws := wsX11_ropes) B.pre
  have hown : s.vm.findClass RX11 = some m.cls := findClass_of_methodNamed B.named
  have hlocks := B.notSynchronized
  have hin := inX11_ropes
  have hsz : s.heap.size = sz := hsz
  subst hsz
  have lk7 : Cond.fieldLink RX11 7 (TX11 0).1 (TX11 0).2.1 (TX11 0).2.2.1 ∈ wsX11_ropes := by decide +kernel
  have hD := hD0.self (sz := s.heap.size)
  generalize hAe : va_A (wM tI tZ h M) s.heap.size = A at hD ⊢
  have hA : ∀ q : Nat, s.heap.size ≤ q → A q := fun q h => by rw [← hAe]; exact Or.inr h
  have hS : va_S A s.heap s.heap [] := va_S.rf
  have hl := lv_entry ([.ref (h 0), .int p0]) (n := 6) (Nat.le_of_ble_eq_true rfl)
  rw [show entryFrame m args 6 = entryFrame m ([.ref (h 0), .int p0] : List Value).toArray 6 from by rw [hargs], lg_entry_eq]
  generalize (lg_sl ([.ref (h 0), .int p0]) ++ List.replicate (6 - (lg_sl ([.ref (h 0), .int p0])).length) Slot.unset).toArray = ls at hl ⊢
  have hl : lv_has ls 6 [(0, .ref (h 0)), (1, .int p0)] := hl
  unfold f_X11_ropes at hf
  refine lv_iload_n hx hb dX11_ropes_0 rfl (lv_at hl 1 rfl) ?_
  refine lv_i2l hx hb dX11_ropes_1 rfl ?_
  refine lv_lconst (v := 1) hx hb dX11_ropes_2 (by decide) ?_
  refine lv_ldc2 (v := 30000) hx hb hown (hts (.constantLong RX11 277 (30000)) (by decide +kernel)) dX11_ropes_3 ?_
  obtain ⟨r1, er1, hf⟩ := bd hf
  refine klEi (rest := []) (As := [.long (Int32.toInt64 p0), .long 1, .long 30000]) ⟨hx, hb, hml, hown, hts⟩ (c_X11_in l s.heap.size (Int32.toInt64 p0) 1 30000 r1 er1) (va_cwS 3 hts gX11_ropes_X11_in rfl rfl rfl (by decide +kernel) ⟨Nat.le_of_ble_eq_true rfl, Nat.le_of_ble_eq_true rfl⟩) rfl hl.1 rfl (Nat.le_of_ble_eq_true rfl) dX11_ropes_6 ⟨Nat.zero_le _, Nat.zero_le _⟩ hS hA (fun H2 locs hk hS => ?_)
  have hP := kpP hP hk
  generalize H2 = H at hP hS ⊢
  refine lv_if_ne (tgt := 19) hx hb dX11_ropes_9 (by decide) (fun c27 => ?_) (fun c27 => ?_)
  · have hf := (if_neg c27).symm.trans hf
    refine lv_iconst (v := 0) hx hb dX11_ropes_19 (by decide) ?_
    refine lv_istore_n (lv' := [(2, .int 0), (0, .ref (h 0)), (1, .int p0)]) hx hb dX11_ropes_20 rfl hl (by decide) rfl (fun ls hl => ?_)
    refine lv_iconst (v := 0) hx hb dX11_ropes_21 (by decide) ?_
    refine lv_istore_n (lv' := [(3, .int 0), (2, .int 0), (0, .ref (h 0)), (1, .int p0)]) hx hb dX11_ropes_22 rfl hl (by decide) rfl (fun ls hl => ?_)
    have L23 : ∀ (n : Nat) (y2 : Int32) (y3 : Int32) (H : Heap) (locs : List Loc) (ls : Array Slot), lp (fun s => b_X11_ropes_23 M p0 s.1 s.2) n (y2, y3) = some (r, M') → va_P (dC, dI) vwCl (wM tI tZ h M) H → va_D A (wM tI tZ h M) → va_S A s.heap H locs → lv_has ls 6 [(0, .ref (h 0)), (1, .int p0), (2, .int y2), (3, .int y3)] → W p l e RRX11_ropes s m args below meth c H locs 0 0 (MQ below (qcMi dC dI tI tZ A h r M') args s 0 0 A) (F0 m 23 ls []) := by
      intro n
      induction n with
      | zero => intro y2 y3 H locs ls hf; exact lp_z hf
      | succ n ih23 =>
        intro y2 y3 H locs ls hf hP hD hS hl
        obtain ⟨q23, hf, hq23⟩ := lp_i hf
        have hf : b_X11_ropes_23 M p0 y2 y3 = some q23 := hf
        unfold b_X11_ropes_23 at hf
        refine lv_iload_n hx hb dX11_ropes_23 rfl (lv_at hl 3 rfl) ?_
        refine lv_bipush (v := 99) hx hb dX11_ropes_24 (by decide) ?_
        refine lv_icmp_ge (tgt := 136) hx hb dX11_ropes_26 (by decide) (fun c24 => ?_) (fun c24 => ?_)
        · have hf := (if_pos c24).symm.trans hf
          refine lv_iconst (v := (-1)) hx hb dX11_ropes_136 (by decide) ?_
          have hf := lp_r hf hq23
          exact rtMi hx hb hr hlocks hK hP hD hS hf dX11_ropes_137
        · have hf := (if_neg c24).symm.trans hf
          refine lv_iconst (v := 0) hx hb dX11_ropes_29 (by decide) ?_
          refine lv_istore (lv' := [(4, .int 0), (0, .ref (h 0)), (1, .int p0), (2, .int y2), (3, .int y3)]) hx hb dX11_ropes_30 hl (by decide) rfl (fun ls hl => ?_)
          have L32 : ∀ (n : Nat) (y4 : Int32) (y5 : Int32) (H : Heap) (locs : List Loc) (ls : Array Slot), lp (fun s => b_X11_ropes_32 M p0 y3 s.1 s.2) n (y4, y5) = some q23 → va_P (dC, dI) vwCl (wM tI tZ h M) H → va_D A (wM tI tZ h M) → va_S A s.heap H locs → lv_has ls 6 [(0, .ref (h 0)), (1, .int p0), (2, .int y4), (3, .int y3), (4, .int y5)] → W p l e RRX11_ropes s m args below meth c H locs 0 0 (MQ below (qcMi dC dI tI tZ A h r M') args s 0 0 A) (F0 m 32 ls []) := by
            intro n
            induction n with
            | zero => intro y4 y5 H locs ls hf; exact lp_z hf
            | succ n ih32 =>
              intro y4 y5 H locs ls hf hP hD hS hl
              obtain ⟨q32, hf, hq32⟩ := lp_i hf
              have hf : b_X11_ropes_32 M p0 y3 y4 y5 = some q32 := hf
              unfold b_X11_ropes_32 at hf
              refine lv_iload hx hb dX11_ropes_32 (lv_at hl 4 rfl) ?_
              refine lv_aload_n hx hb dX11_ropes_34 rfl (lv_at hl 0 rfl) ?_
              refine geM hx hb hts hin hown hK hP 0 (by decide) lk7 rfl dX11_ropes_35 ?_
              refine lv_sipush (v := 275) hx hb dX11_ropes_38 (by decide) ?_
              obtain ⟨x6, hix6, ex6, hf⟩ := rd_b hf
              refine va_iald hx hb hK hP 1 0 rfl rfl hix6 dX11_ropes_41 (kI ex6 ?_)
              refine lv_icmp_ge (tgt := 130) hx hb dX11_ropes_42 (by decide) (fun c23 => ?_) (fun c23 => ?_)
              · have hf := (if_pos c23).symm.trans hf
                obtain ⟨x7, ex7, hf⟩ := bn hf
                refine lv_iinc (v := x7) (lv' := [(3, .int x7), (0, .ref (h 0)), (1, .int p0), (2, .int y4), (4, .int y5)]) hx hb dX11_ropes_130 hl (k := 3) rfl (by rw [ex7]; rfl) (by decide) rfl (fun ls hl => ?_)
                refine lv_goto (tgt := 23) hx hb dX11_ropes_133 (by decide) ?_
                have hf := lp_r hf hq32
                exact ih23 y4 x7 _ _ _ (lp_l hf hq23) hP hD hS (lv_sub hl [1, 2, 3, 0] rfl)
              · have hf := (if_neg c23).symm.trans hf
                refine lv_iconst (v := 0) hx hb dX11_ropes_45 (by decide) ?_
                refine lv_istore (lv' := [(5, .int 0), (0, .ref (h 0)), (1, .int p0), (2, .int y4), (3, .int y3), (4, .int y5)]) hx hb dX11_ropes_46 hl (by decide) rfl (fun ls hl => ?_)
                have K48 : ∀ (y8 : Int32) (H : Heap) (locs : List Loc) (ls : Array Slot), k_X11_ropes_48 M p0 y3 y5 y8 = some q32 → va_P (dC, dI) vwCl (wM tI tZ h M) H → va_D A (wM tI tZ h M) → va_S A s.heap H locs → lv_has ls 6 [(0, .ref (h 0)), (1, .int p0), (2, .int y8), (3, .int y3), (4, .int y5)] → W p l e RRX11_ropes s m args below meth c H locs 0 0 (MQ below (qcMi dC dI tI tZ A h r M') args s 0 0 A) (F0 m 111 ls []) := by
                  intro y8 H locs ls hf hP hD hS hl
                  unfold k_X11_ropes_48 at hf
                  refine lv_iload_n hx hb dX11_ropes_111 rfl (lv_at hl 2 rfl) ?_
                  refine lv_iload_n hx hb dX11_ropes_112 rfl (lv_at hl 1 rfl) ?_
                  refine lv_icmp_le (tgt := 124) hx hb dX11_ropes_113 (by decide) (fun c10 => ?_) (fun c10 => ?_)
                  · have hf := (if_pos c10).symm.trans hf
                    obtain ⟨x9, ex9, hf⟩ := bn hf
                    refine lv_iinc (v := x9) (lv' := [(4, .int x9), (0, .ref (h 0)), (1, .int p0), (2, .int y8), (3, .int y3)]) hx hb dX11_ropes_124 hl (k := 4) rfl (by rw [ex9]; rfl) (by decide) rfl (fun ls hl => ?_)
                    refine lv_goto (tgt := 32) hx hb dX11_ropes_127 (by decide) ?_
                    exact ih32 y8 x9 _ _ _ (lp_l hf hq32) hP hD hS (lv_sub hl [1, 2, 3, 4, 0] rfl)
                  · have hf := (if_neg c10).symm.trans hf
                    refine lv_bipush (v := 100) hx hb dX11_ropes_116 (by decide) ?_
                    refine lv_iload_n hx hb dX11_ropes_118 rfl (lv_at hl 3 rfl) ?_
                    refine lv_imul hx hb dX11_ropes_119 ?_
                    refine lv_iload hx hb dX11_ropes_120 (lv_at hl 4 rfl) ?_
                    refine lv_iadd hx hb dX11_ropes_122 ?_
                    have hf := lp_r hf hq32
                    have hf := lp_r hf hq23
                    exact rtMi hx hb hr hlocks hK hP hD hS hf dX11_ropes_123
                obtain ⟨z48, ez48, hz48⟩ := bd hf
                have L48 : ∀ (n : Nat) (y11 : Int32) (y12 : Int32) (H : Heap) (locs : List Loc) (ls : Array Slot), lp (fun s => b_X11_ropes_48 M y5 s.1 s.2) n (y11, y12) = some z48 → va_P (dC, dI) vwCl (wM tI tZ h M) H → va_D A (wM tI tZ h M) → va_S A s.heap H locs → lv_has ls 6 [(0, .ref (h 0)), (1, .int p0), (2, .int y11), (3, .int y3), (4, .int y5), (5, .int y12)] → W p l e RRX11_ropes s m args below meth c H locs 0 0 (MQ below (qcMi dC dI tI tZ A h r M') args s 0 0 A) (F0 m 48 ls []) := by
                  intro n
                  induction n with
                  | zero => intro y11 y12 H locs ls hf; exact lp_z hf
                  | succ n ih48 =>
                    intro y11 y12 H locs ls hf hP hD hS hl
                    obtain ⟨q48, hf, hq48⟩ := lp_i hf
                    have hf : b_X11_ropes_48 M y5 y11 y12 = some q48 := hf
                    unfold b_X11_ropes_48 at hf
                    refine lv_iload hx hb dX11_ropes_48 (lv_at hl 5 rfl) ?_
                    refine lv_aload_n hx hb dX11_ropes_50 rfl (lv_at hl 0 rfl) ?_
                    obtain ⟨r13, er13, hf⟩ := bd hf
                    refine klMi (rest := [.int y12]) (As := []) ⟨hx, hb, hml, hown, hts⟩ (c_X11_porters l dC dI tI tZ h H.size M r13 er13) (cwV 0 hts gX11_ropes_X11_porters rfl rfl rfl (by decide +kernel) ⟨Nat.le_of_ble_eq_true rfl, Nat.le_of_ble_eq_true rfl⟩) rfl hl.1 rfl (Nat.le_of_ble_eq_true rfl) dX11_ropes_51 ⟨Nat.zero_le _, Nat.zero_le _⟩ hK hP hD hS hA (fun H locs hP hD hS => ?_)
                    refine lv_icmp_ge (tgt := 111) hx hb dX11_ropes_54 (by decide) (fun c22 => ?_) (fun c22 => ?_)
                    · have hf := (if_pos c22).symm.trans hf
                      exact K48 y11 _ _ _ (lp_x (k := (fun s => k_X11_ropes_48 M p0 y3 y5 s)) (lp_r hf hq48) hz48) hP hD hS (lv_sub hl [0, 1, 2, 3, 4] rfl)
                    · have hf := (if_neg c22).symm.trans hf
                      refine lv_iload_n hx hb dX11_ropes_57 rfl (lv_at hl 2 rfl) ?_
                      refine lv_aload_n hx hb dX11_ropes_58 rfl (lv_at hl 0 rfl) ?_
                      refine geM hx hb hts hin hown hK hP 0 (by decide) lk7 rfl dX11_ropes_59 ?_
                      refine lv_bipush (v := 28) hx hb dX11_ropes_62 (by decide) ?_
                      refine lv_iconst (v := 2) hx hb dX11_ropes_64 (by decide) ?_
                      refine lv_iload hx hb dX11_ropes_65 (lv_at hl 4 rfl) ?_
                      refine lv_imul hx hb dX11_ropes_67 ?_
                      refine lv_iadd hx hb dX11_ropes_68 ?_
                      refine lv_iconst (v := 1) hx hb dX11_ropes_69 (by decide) ?_
                      refine lv_iadd hx hb dX11_ropes_70 ?_
                      obtain ⟨x14, hix14, ex14, hf⟩ := rd_b hf
                      refine va_iald hx hb hK hP 1 0 rfl rfl hix14 dX11_ropes_71 (kI ex14 ?_)
                      refine lv_iload hx hb dX11_ropes_72 (lv_at hl 5 rfl) ?_
                      refine lv_ishr hx hb dX11_ropes_74 ?_
                      refine lv_iconst (v := 1) hx hb dX11_ropes_75 (by decide) ?_
                      refine lv_iand hx hb dX11_ropes_76 ?_
                      refine lv_iconst (v := 1) hx hb dX11_ropes_77 (by decide) ?_
                      refine lv_icmp_ne (tgt := 102) hx hb dX11_ropes_78 (by decide) (fun c21 => ?_) (fun c21 => ?_)
                      · have hf := (if_neg c21).symm.trans hf
                        refine lv_iconst (v := 0) hx hb dX11_ropes_102 (by decide) ?_
                        refine lv_iadd hx hb dX11_ropes_103 ?_
                        refine lv_topi (fun x15 ex15 => ?_)
                        have hf := bs ex15 hf
                        refine lv_istore_n (lv' := [(2, .int x15), (0, .ref (h 0)), (1, .int p0), (3, .int y3), (4, .int y5), (5, .int y12)]) hx hb dX11_ropes_104 rfl hl (by decide) rfl (fun ls hl => ?_)
                        obtain ⟨x16, ex16, hf⟩ := bn hf
                        refine lv_iinc (v := x16) (lv' := [(5, .int x16), (2, .int x15), (0, .ref (h 0)), (1, .int p0), (3, .int y3), (4, .int y5)]) hx hb dX11_ropes_105 hl (k := 5) rfl (by rw [ex16]; rfl) (by decide) rfl (fun ls hl => ?_)
                        refine lv_goto (tgt := 48) hx hb dX11_ropes_108 (by decide) ?_
                        exact ih48 x15 x16 _ _ _ (lp_l hf hq48) hP hD hS (lv_sub hl [2, 3, 1, 4, 5, 0] rfl)
                      · have hf := (if_pos c21).symm.trans hf
                        refine lv_aload_n hx hb dX11_ropes_81 rfl (lv_at hl 0 rfl) ?_
                        refine lv_iload hx hb dX11_ropes_82 (lv_at hl 5 rfl) ?_
                        refine lv_aload_n hx hb dX11_ropes_84 rfl (lv_at hl 0 rfl) ?_
                        refine geM hx hb hts hin hown hK hP 0 (by decide) lk7 rfl dX11_ropes_85 ?_
                        refine lv_bipush (v := 28) hx hb dX11_ropes_88 (by decide) ?_
                        refine lv_iconst (v := 2) hx hb dX11_ropes_90 (by decide) ?_
                        refine lv_iload hx hb dX11_ropes_91 (lv_at hl 4 rfl) ?_
                        refine lv_imul hx hb dX11_ropes_93 ?_
                        refine lv_iadd hx hb dX11_ropes_94 ?_
                        obtain ⟨x17, hix17, ex17, hf⟩ := rd_b hf
                        refine va_iald hx hb hK hP 1 0 rfl rfl hix17 dX11_ropes_95 (kI ex17 ?_)
                        obtain ⟨r18, er18, hf⟩ := bd hf
                        refine klMi (rest := [.int y11]) (As := [.int y12, .int x17]) ⟨hx, hb, hml, hown, hts⟩ (c_X11_weightOf l dC dI tI tZ h H.size M y12 x17 r18 er18) (cwV 2 hts gX11_ropes_X11_weightOf rfl rfl rfl (by decide +kernel) ⟨Nat.le_of_ble_eq_true rfl, Nat.le_of_ble_eq_true rfl⟩) rfl hl.1 rfl (Nat.le_of_ble_eq_true rfl) dX11_ropes_96 ⟨Nat.zero_le _, Nat.zero_le _⟩ hK hP hD hS hA (fun H locs hP hD hS => ?_)
                        refine lv_goto (tgt := 103) hx hb dX11_ropes_99 (by decide) ?_
                        refine lv_iadd hx hb dX11_ropes_103 ?_
                        refine lv_topi (fun x19 ex19 => ?_)
                        have hf := bs ex19 hf
                        refine lv_istore_n (lv' := [(2, .int x19), (0, .ref (h 0)), (1, .int p0), (3, .int y3), (4, .int y5), (5, .int y12)]) hx hb dX11_ropes_104 rfl hl (by decide) rfl (fun ls hl => ?_)
                        obtain ⟨x20, ex20, hf⟩ := bn hf
                        refine lv_iinc (v := x20) (lv' := [(5, .int x20), (2, .int x19), (0, .ref (h 0)), (1, .int p0), (3, .int y3), (4, .int y5)]) hx hb dX11_ropes_105 hl (k := 5) rfl (by rw [ex20]; rfl) (by decide) rfl (fun ls hl => ?_)
                        refine lv_goto (tgt := 48) hx hb dX11_ropes_108 (by decide) ?_
                        exact ih48 x19 x20 _ _ _ (lp_l hf hq48) hP hD hS (lv_sub hl [2, 3, 1, 4, 5, 0] rfl)
                exact L48 FU y4 0 _ _ _ ez48 hP hD hS (lv_sub hl [1, 2, 3, 4, 5, 0] rfl)
          exact L32 FU y2 0 _ _ _ hf hP hD hS (lv_sub hl [1, 2, 3, 4, 0] rfl)
    exact L23 FU 0 0 _ _ _ hf hP hD hS (lv_sub hl [2, 3, 1, 0] rfl)
  · have hf := (if_pos c27).symm.trans hf
    refine lv_aload_n hx hb dX11_ropes_12 rfl (lv_at hl 0 rfl) ?_
    refine lv_bipush (v := (-2)) hx hb dX11_ropes_13 (by decide) ?_
    obtain ⟨r25, M26, er25, hf⟩ := b2 hf
    refine klMi (rest := []) (As := [.int (-2)]) ⟨hx, hb, hml, hown, hts⟩ (c_X11_bad l dC dI tI tZ h H.size M (-2) r25 M26 er25) (cwV 1 hts gX11_ropes_X11_bad rfl rfl rfl (by decide +kernel) ⟨Nat.le_of_ble_eq_true rfl, Nat.le_of_ble_eq_true rfl⟩) rfl hl.1 rfl (Nat.le_of_ble_eq_true rfl) dX11_ropes_15 ⟨Nat.zero_le _, Nat.zero_le _⟩ hK hP hD hS hA (fun H locs hP hD hS => ?_)
    exact rtMi hx hb hr hlocks hK hP hD hS hf dX11_ropes_18

def k_X11_image_19 (p0 : Int32) (M2 : MS) : Option (Int32 × MS) :=
  Option.bind (wrM M2 2 2 p0 (vp_nar .boolean 1)) (fun M3 => some ((1, M3)))
def b_X11_image_19 (p0 : Int32) (y4 : Int32) (M5 : MS) : Option ((Int32 × MS) ⊕ MS) :=
  (if 277 ≤ y4 then (some (Sum.inr M5)) else (Option.bind (rdI 277 (M5 0) y4) (fun x6 => Option.bind (wrM M5 1 554 ((277 * p0) + y4) x6) (fun M7 => Option.bind (some (y4 + 1)) (fun x8 => some (Sum.inl (x8, M7)))))))
def f_X11_image (M : MS) (p0 : Int32) : Option (Int32 × MS) :=
  Option.bind (f_X11_in (Int32.toInt64 p0) 0 1) (fun r1 => (if r1 = 0 then (bi2 (f_X11_bad M (-2)) (fun r10 M11 => some ((r10, M11)))) else (Option.bind (lp (fun s => b_X11_image_19 p0 s.1 s.2) FU (0, M)) (fun s => k_X11_image_19 p0 s))))
def rmX11_image : Room := { frames := 1, cells := 0, slots := 0, locals := 25 }
abbrev RRX11_image : Room := (headSpec wsX11_image rmX11_image).room
theorem inX11_image : ∀ w ∈ wsX110, w ∈ wsX11_image := by decide +kernel
set_option maxHeartbeats 4000000 in
set_option maxRecDepth 100000 in
theorem c_X11_image (l : Launch) (dC : Nat → ClassId) (dI : Nat → Nat → Nat) (tI tZ : ClassId) (h : Nat → Nat) (sz : Nat) (M : MS) (p0 : Int32) (r : Int32) (M' : MS) (hf : f_X11_image M p0 = some (r, M')) : cMi l yX11_image wsX11_image rmX11_image dC dI tI tZ h sz [.ref (h 0), .int p0] M r M' := by
  refine Met.ofW (cc := cX11_image) (maxL := 3) (ret := (some .int)) (by decide) rfl ?_
  intro p e s m args below meth c s₁ B hml hv
  obtain ⟨hargs, hsz, hP, hK, hD0⟩ := hv
  have hx := B.exec
  have hb := B.bytes
  have hr := B.returns
  have hts := atoms_spec (ws := wsX11_image) B.pre
  have hown : s.vm.findClass RX11 = some m.cls := findClass_of_methodNamed B.named
  have hlocks := B.notSynchronized
  have hin := inX11_image
  have hsz : s.heap.size = sz := hsz
  subst hsz
  have lk7 : Cond.fieldLink RX11 7 (TX11 0).1 (TX11 0).2.1 (TX11 0).2.2.1 ∈ wsX11_image := by decide +kernel
  have lk13 : Cond.fieldLink RX11 13 (TX11 1).1 (TX11 1).2.1 (TX11 1).2.2.1 ∈ wsX11_image := by decide +kernel
  have lk16 : Cond.fieldLink RX11 16 (TX11 2).1 (TX11 2).2.1 (TX11 2).2.2.1 ∈ wsX11_image := by decide +kernel
  have hD := hD0.self (sz := s.heap.size)
  generalize hAe : va_A (wM tI tZ h M) s.heap.size = A at hD ⊢
  have hA : ∀ q : Nat, s.heap.size ≤ q → A q := fun q h => by rw [← hAe]; exact Or.inr h
  have hS : va_S A s.heap s.heap [] := va_S.rf
  have hl := lv_entry ([.ref (h 0), .int p0]) (n := 3) (Nat.le_of_ble_eq_true rfl)
  rw [show entryFrame m args 3 = entryFrame m ([.ref (h 0), .int p0] : List Value).toArray 3 from by rw [hargs], lg_entry_eq]
  generalize (lg_sl ([.ref (h 0), .int p0]) ++ List.replicate (3 - (lg_sl ([.ref (h 0), .int p0])).length) Slot.unset).toArray = ls at hl ⊢
  have hl : lv_has ls 3 [(0, .ref (h 0)), (1, .int p0)] := hl
  unfold f_X11_image at hf
  refine lv_iload_n hx hb dX11_image_0 rfl (lv_at hl 1 rfl) ?_
  refine lv_i2l hx hb dX11_image_1 rfl ?_
  refine lv_lconst (v := 0) hx hb dX11_image_2 (by decide) ?_
  refine lv_lconst (v := 1) hx hb dX11_image_3 (by decide) ?_
  obtain ⟨r1, er1, hf⟩ := bd hf
  refine klEi (rest := []) (As := [.long (Int32.toInt64 p0), .long 0, .long 1]) ⟨hx, hb, hml, hown, hts⟩ (c_X11_in l s.heap.size (Int32.toInt64 p0) 0 1 r1 er1) (va_cwS 3 hts gX11_image_X11_in rfl rfl rfl (by decide +kernel) ⟨Nat.le_of_ble_eq_true rfl, Nat.le_of_ble_eq_true rfl⟩) rfl hl.1 rfl (Nat.le_of_ble_eq_true rfl) dX11_image_4 ⟨Nat.zero_le _, Nat.zero_le _⟩ hS hA (fun H2 locs hk hS => ?_)
  have hP := kpP hP hk
  generalize H2 = H at hP hS ⊢
  refine lv_if_ne (tgt := 17) hx hb dX11_image_7 (by decide) (fun c12 => ?_) (fun c12 => ?_)
  · have hf := (if_neg c12).symm.trans hf
    refine lv_iconst (v := 0) hx hb dX11_image_17 (by decide) ?_
    refine lv_istore_n (lv' := [(2, .int 0), (0, .ref (h 0)), (1, .int p0)]) hx hb dX11_image_18 rfl hl (by decide) rfl (fun ls hl => ?_)
    have K19 : ∀ (M2 : MS) (H : Heap) (locs : List Loc) (ls : Array Slot), k_X11_image_19 p0 M2 = some (r, M') → va_P (dC, dI) vwCl (wM tI tZ h M2) H → va_D A (wM tI tZ h M2) → va_S A s.heap H locs → lv_has ls 3 [(0, .ref (h 0)), (1, .int p0)] → W p l e RRX11_image s m args below meth c H locs 0 0 (MQ below (qcMi dC dI tI tZ A h r M') args s 0 0 A) (F0 m 50 ls []) := by
      intro M2 H locs ls hf hP hD hS hl
      unfold k_X11_image_19 at hf
      refine lv_aload_n hx hb dX11_image_50 rfl (lv_at hl 0 rfl) ?_
      refine geM hx hb hts hin hown hK hP 2 (by decide) lk16 rfl dX11_image_51 ?_
      refine lv_iload_n hx hb dX11_image_54 rfl (lv_at hl 1 rfl) ?_
      refine lv_iconst (v := 1) hx hb dX11_image_55 (by decide) ?_
      obtain ⟨M3, hiM3, eM3, hf⟩ := wr_b hf
      refine va_zast hx hb hK hP hD hS 3 1 rfl rfl hiM3 dX11_image_56 (fun H locs hP hD hS => ?_)
      have hP : va_P (dC, dI) vwCl (wM tI tZ h M3) H := by rw [eM3]; exact hP
      have hD : va_D A (wM tI tZ h M3) := by rw [eM3]; exact hD
      refine lv_iconst (v := 1) hx hb dX11_image_57 (by decide) ?_
      exact rtMi hx hb hr hlocks hK hP hD hS hf dX11_image_58
    obtain ⟨z19, ez19, hz19⟩ := bd hf
    have L19 : ∀ (n : Nat) (y4 : Int32) (M5 : MS) (H : Heap) (locs : List Loc) (ls : Array Slot), lp (fun s => b_X11_image_19 p0 s.1 s.2) n (y4, M5) = some z19 → va_P (dC, dI) vwCl (wM tI tZ h M5) H → va_D A (wM tI tZ h M5) → va_S A s.heap H locs → lv_has ls 3 [(0, .ref (h 0)), (1, .int p0), (2, .int y4)] → W p l e RRX11_image s m args below meth c H locs 0 0 (MQ below (qcMi dC dI tI tZ A h r M') args s 0 0 A) (F0 m 19 ls []) := by
      intro n
      induction n with
      | zero => intro y4 M5 H locs ls hf; exact lp_z hf
      | succ n ih19 =>
        intro y4 M5 H locs ls hf hP hD hS hl
        obtain ⟨q19, hf, hq19⟩ := lp_i hf
        have hf : b_X11_image_19 p0 y4 M5 = some q19 := hf
        unfold b_X11_image_19 at hf
        refine lv_iload_n hx hb dX11_image_19 rfl (lv_at hl 2 rfl) ?_
        refine lv_sipush (v := 277) hx hb dX11_image_20 (by decide) ?_
        refine lv_icmp_ge (tgt := 50) hx hb dX11_image_23 (by decide) (fun c9 => ?_) (fun c9 => ?_)
        · have hf := (if_pos c9).symm.trans hf
          exact K19 M5 _ _ _ (lp_x (k := (fun s => k_X11_image_19 p0 s)) (lp_r hf hq19) hz19) hP hD hS (lv_sub hl [0, 1] rfl)
        · have hf := (if_neg c9).symm.trans hf
          refine lv_aload_n hx hb dX11_image_26 rfl (lv_at hl 0 rfl) ?_
          refine geM hx hb hts hin hown hK hP 1 (by decide) lk13 rfl dX11_image_27 ?_
          refine lv_sipush (v := 277) hx hb dX11_image_30 (by decide) ?_
          refine lv_iload_n hx hb dX11_image_33 rfl (lv_at hl 1 rfl) ?_
          refine lv_imul hx hb dX11_image_34 ?_
          refine lv_iload_n hx hb dX11_image_35 rfl (lv_at hl 2 rfl) ?_
          refine lv_iadd hx hb dX11_image_36 ?_
          refine lv_aload_n hx hb dX11_image_37 rfl (lv_at hl 0 rfl) ?_
          refine geM hx hb hts hin hown hK hP 0 (by decide) lk7 rfl dX11_image_38 ?_
          refine lv_iload_n hx hb dX11_image_41 rfl (lv_at hl 2 rfl) ?_
          obtain ⟨x6, hix6, ex6, hf⟩ := rd_b hf
          refine va_iald hx hb hK hP 1 0 rfl rfl hix6 dX11_image_42 (kI ex6 ?_)
          obtain ⟨M7, hiM7, eM7, hf⟩ := wr_b hf
          refine va_iast hx hb hK hP hD hS 2 0 rfl rfl hiM7 dX11_image_43 (fun H locs hP hD hS => ?_)
          have hP : va_P (dC, dI) vwCl (wM tI tZ h M7) H := by rw [eM7]; exact hP
          have hD : va_D A (wM tI tZ h M7) := by rw [eM7]; exact hD
          obtain ⟨x8, ex8, hf⟩ := bn hf
          refine lv_iinc (v := x8) (lv' := [(2, .int x8), (0, .ref (h 0)), (1, .int p0)]) hx hb dX11_image_44 hl (k := 2) rfl (by rw [ex8]; rfl) (by decide) rfl (fun ls hl => ?_)
          refine lv_goto (tgt := 19) hx hb dX11_image_47 (by decide) ?_
          exact ih19 x8 M7 _ _ _ (lp_l hf hq19) hP hD hS (lv_sub hl [1, 2, 0] rfl)
    exact L19 FU 0 M _ _ _ ez19 hP hD hS (lv_sub hl [1, 2, 0] rfl)
  · have hf := (if_pos c12).symm.trans hf
    refine lv_aload_n hx hb dX11_image_10 rfl (lv_at hl 0 rfl) ?_
    refine lv_bipush (v := (-2)) hx hb dX11_image_11 (by decide) ?_
    obtain ⟨r10, M11, er10, hf⟩ := b2 hf
    refine klMi (rest := []) (As := [.int (-2)]) ⟨hx, hb, hml, hown, hts⟩ (c_X11_bad l dC dI tI tZ h H.size M (-2) r10 M11 er10) (cwV 1 hts gX11_image_X11_bad rfl rfl rfl (by decide +kernel) ⟨Nat.le_of_ble_eq_true rfl, Nat.le_of_ble_eq_true rfl⟩) rfl hl.1 rfl (Nat.le_of_ble_eq_true rfl) dX11_image_13 ⟨Nat.zero_le _, Nat.zero_le _⟩ hK hP hD hS hA (fun H locs hP hD hS => ?_)
    exact rtMi hx hb hr hlocks hK hP hD hS hf dX11_image_16

def k_X11_from_35 (M3 : MS) : Option (Int32 × MS) :=
  some ((1, M3))
def b_X11_from_35 (p0 : Int32) (y4 : Int32) (M5 : MS) : Option ((Int32 × MS) ⊕ MS) :=
  (if 277 ≤ y4 then (some (Sum.inr M5)) else (Option.bind (rdI 554 (M5 1) ((277 * p0) + y4)) (fun x6 => Option.bind (wrM M5 0 277 y4 x6) (fun M7 => Option.bind (some (y4 + 1)) (fun x8 => some (Sum.inl (x8, M7)))))))
def f_X11_from (M : MS) (p0 : Int32) : Option (Int32 × MS) :=
  Option.bind (f_X11_in (Int32.toInt64 p0) 0 1) (fun r1 => (if r1 = 0 then (bi2 (f_X11_bad M (-2)) (fun r13 M14 => some ((r13, M14)))) else (Option.bind (rdI 2 (M 2) p0) (fun x2 => (if x2 = 0 then (bi2 (f_X11_no M (-3)) (fun r10 M11 => some ((r10, M11)))) else (Option.bind (lp (fun s => b_X11_from_35 p0 s.1 s.2) FU (0, M)) (fun s => k_X11_from_35 s)))))))
def rmX11_from : Room := { frames := 1, cells := 0, slots := 0, locals := 25 }
abbrev RRX11_from : Room := (headSpec wsX11_from rmX11_from).room
theorem inX11_from : ∀ w ∈ wsX110, w ∈ wsX11_from := by decide +kernel
set_option maxHeartbeats 4000000 in
set_option maxRecDepth 100000 in
theorem c_X11_from (l : Launch) (dC : Nat → ClassId) (dI : Nat → Nat → Nat) (tI tZ : ClassId) (h : Nat → Nat) (sz : Nat) (M : MS) (p0 : Int32) (r : Int32) (M' : MS) (hf : f_X11_from M p0 = some (r, M')) : cMi l yX11_from wsX11_from rmX11_from dC dI tI tZ h sz [.ref (h 0), .int p0] M r M' := by
  refine Met.ofW (cc := cX11_from) (maxL := 3) (ret := (some .int)) (by decide) rfl ?_
  intro p e s m args below meth c s₁ B hml hv
  obtain ⟨hargs, hsz, hP, hK, hD0⟩ := hv
  have hx := B.exec
  have hb := B.bytes
  have hr := B.returns
  have hts := atoms_spec (ws := wsX11_from) B.pre
  have hown : s.vm.findClass RX11 = some m.cls := findClass_of_methodNamed B.named
  have hlocks := B.notSynchronized
  have hin := inX11_from
  have hsz : s.heap.size = sz := hsz
  subst hsz
  have lk7 : Cond.fieldLink RX11 7 (TX11 0).1 (TX11 0).2.1 (TX11 0).2.2.1 ∈ wsX11_from := by decide +kernel
  have lk13 : Cond.fieldLink RX11 13 (TX11 1).1 (TX11 1).2.1 (TX11 1).2.2.1 ∈ wsX11_from := by decide +kernel
  have lk16 : Cond.fieldLink RX11 16 (TX11 2).1 (TX11 2).2.1 (TX11 2).2.2.1 ∈ wsX11_from := by decide +kernel
  have hD := hD0.self (sz := s.heap.size)
  generalize hAe : va_A (wM tI tZ h M) s.heap.size = A at hD ⊢
  have hA : ∀ q : Nat, s.heap.size ≤ q → A q := fun q h => by rw [← hAe]; exact Or.inr h
  have hS : va_S A s.heap s.heap [] := va_S.rf
  have hl := lv_entry ([.ref (h 0), .int p0]) (n := 3) (Nat.le_of_ble_eq_true rfl)
  rw [show entryFrame m args 3 = entryFrame m ([.ref (h 0), .int p0] : List Value).toArray 3 from by rw [hargs], lg_entry_eq]
  generalize (lg_sl ([.ref (h 0), .int p0]) ++ List.replicate (3 - (lg_sl ([.ref (h 0), .int p0])).length) Slot.unset).toArray = ls at hl ⊢
  have hl : lv_has ls 3 [(0, .ref (h 0)), (1, .int p0)] := hl
  unfold f_X11_from at hf
  refine lv_iload_n hx hb dX11_from_0 rfl (lv_at hl 1 rfl) ?_
  refine lv_i2l hx hb dX11_from_1 rfl ?_
  refine lv_lconst (v := 0) hx hb dX11_from_2 (by decide) ?_
  refine lv_lconst (v := 1) hx hb dX11_from_3 (by decide) ?_
  obtain ⟨r1, er1, hf⟩ := bd hf
  refine klEi (rest := []) (As := [.long (Int32.toInt64 p0), .long 0, .long 1]) ⟨hx, hb, hml, hown, hts⟩ (c_X11_in l s.heap.size (Int32.toInt64 p0) 0 1 r1 er1) (va_cwS 3 hts gX11_from_X11_in rfl rfl rfl (by decide +kernel) ⟨Nat.le_of_ble_eq_true rfl, Nat.le_of_ble_eq_true rfl⟩) rfl hl.1 rfl (Nat.le_of_ble_eq_true rfl) dX11_from_4 ⟨Nat.zero_le _, Nat.zero_le _⟩ hS hA (fun H2 locs hk hS => ?_)
  have hP := kpP hP hk
  generalize H2 = H at hP hS ⊢
  refine lv_if_ne (tgt := 17) hx hb dX11_from_7 (by decide) (fun c15 => ?_) (fun c15 => ?_)
  · have hf := (if_neg c15).symm.trans hf
    refine lv_aload_n hx hb dX11_from_17 rfl (lv_at hl 0 rfl) ?_
    refine geM hx hb hts hin hown hK hP 2 (by decide) lk16 rfl dX11_from_18 ?_
    refine lv_iload_n hx hb dX11_from_21 rfl (lv_at hl 1 rfl) ?_
    obtain ⟨x2, hix2, ex2, hf⟩ := rd_b hf
    refine va_zald hx hb hK hP 3 1 rfl rfl hix2 dX11_from_22 (kI ex2 ?_)
    refine lv_if_ne (tgt := 33) hx hb dX11_from_23 (by decide) (fun c12 => ?_) (fun c12 => ?_)
    · have hf := (if_neg c12).symm.trans hf
      refine lv_iconst (v := 0) hx hb dX11_from_33 (by decide) ?_
      refine lv_istore_n (lv' := [(2, .int 0), (0, .ref (h 0)), (1, .int p0)]) hx hb dX11_from_34 rfl hl (by decide) rfl (fun ls hl => ?_)
      have K35 : ∀ (M3 : MS) (H : Heap) (locs : List Loc) (ls : Array Slot), k_X11_from_35 M3 = some (r, M') → va_P (dC, dI) vwCl (wM tI tZ h M3) H → va_D A (wM tI tZ h M3) → va_S A s.heap H locs → lv_has ls 3 [] → W p l e RRX11_from s m args below meth c H locs 0 0 (MQ below (qcMi dC dI tI tZ A h r M') args s 0 0 A) (F0 m 66 ls []) := by
        intro M3 H locs ls hf hP hD hS hl
        unfold k_X11_from_35 at hf
        refine lv_iconst (v := 1) hx hb dX11_from_66 (by decide) ?_
        exact rtMi hx hb hr hlocks hK hP hD hS hf dX11_from_67
      obtain ⟨z35, ez35, hz35⟩ := bd hf
      have L35 : ∀ (n : Nat) (y4 : Int32) (M5 : MS) (H : Heap) (locs : List Loc) (ls : Array Slot), lp (fun s => b_X11_from_35 p0 s.1 s.2) n (y4, M5) = some z35 → va_P (dC, dI) vwCl (wM tI tZ h M5) H → va_D A (wM tI tZ h M5) → va_S A s.heap H locs → lv_has ls 3 [(0, .ref (h 0)), (1, .int p0), (2, .int y4)] → W p l e RRX11_from s m args below meth c H locs 0 0 (MQ below (qcMi dC dI tI tZ A h r M') args s 0 0 A) (F0 m 35 ls []) := by
        intro n
        induction n with
        | zero => intro y4 M5 H locs ls hf; exact lp_z hf
        | succ n ih35 =>
          intro y4 M5 H locs ls hf hP hD hS hl
          obtain ⟨q35, hf, hq35⟩ := lp_i hf
          have hf : b_X11_from_35 p0 y4 M5 = some q35 := hf
          unfold b_X11_from_35 at hf
          refine lv_iload_n hx hb dX11_from_35 rfl (lv_at hl 2 rfl) ?_
          refine lv_sipush (v := 277) hx hb dX11_from_36 (by decide) ?_
          refine lv_icmp_ge (tgt := 66) hx hb dX11_from_39 (by decide) (fun c9 => ?_) (fun c9 => ?_)
          · have hf := (if_pos c9).symm.trans hf
            exact K35 M5 _ _ _ (lp_x (k := (fun s => k_X11_from_35 s)) (lp_r hf hq35) hz35) hP hD hS (lv_sub hl [] rfl)
          · have hf := (if_neg c9).symm.trans hf
            refine lv_aload_n hx hb dX11_from_42 rfl (lv_at hl 0 rfl) ?_
            refine geM hx hb hts hin hown hK hP 0 (by decide) lk7 rfl dX11_from_43 ?_
            refine lv_iload_n hx hb dX11_from_46 rfl (lv_at hl 2 rfl) ?_
            refine lv_aload_n hx hb dX11_from_47 rfl (lv_at hl 0 rfl) ?_
            refine geM hx hb hts hin hown hK hP 1 (by decide) lk13 rfl dX11_from_48 ?_
            refine lv_sipush (v := 277) hx hb dX11_from_51 (by decide) ?_
            refine lv_iload_n hx hb dX11_from_54 rfl (lv_at hl 1 rfl) ?_
            refine lv_imul hx hb dX11_from_55 ?_
            refine lv_iload_n hx hb dX11_from_56 rfl (lv_at hl 2 rfl) ?_
            refine lv_iadd hx hb dX11_from_57 ?_
            obtain ⟨x6, hix6, ex6, hf⟩ := rd_b hf
            refine va_iald hx hb hK hP 2 0 rfl rfl hix6 dX11_from_58 (kI ex6 ?_)
            obtain ⟨M7, hiM7, eM7, hf⟩ := wr_b hf
            refine va_iast hx hb hK hP hD hS 1 0 rfl rfl hiM7 dX11_from_59 (fun H locs hP hD hS => ?_)
            have hP : va_P (dC, dI) vwCl (wM tI tZ h M7) H := by rw [eM7]; exact hP
            have hD : va_D A (wM tI tZ h M7) := by rw [eM7]; exact hD
            obtain ⟨x8, ex8, hf⟩ := bn hf
            refine lv_iinc (v := x8) (lv' := [(2, .int x8), (0, .ref (h 0)), (1, .int p0)]) hx hb dX11_from_60 hl (k := 2) rfl (by rw [ex8]; rfl) (by decide) rfl (fun ls hl => ?_)
            refine lv_goto (tgt := 35) hx hb dX11_from_63 (by decide) ?_
            exact ih35 x8 M7 _ _ _ (lp_l hf hq35) hP hD hS (lv_sub hl [1, 2, 0] rfl)
      exact L35 FU 0 M _ _ _ ez35 hP hD hS (lv_sub hl [1, 2, 0] rfl)
    · have hf := (if_pos c12).symm.trans hf
      refine lv_aload_n hx hb dX11_from_26 rfl (lv_at hl 0 rfl) ?_
      refine lv_bipush (v := (-3)) hx hb dX11_from_27 (by decide) ?_
      obtain ⟨r10, M11, er10, hf⟩ := b2 hf
      refine klMi (rest := []) (As := [.int (-3)]) ⟨hx, hb, hml, hown, hts⟩ (c_X11_no l dC dI tI tZ h H.size M (-3) r10 M11 er10) (cwV 1 hts gX11_from_X11_no rfl rfl rfl (by decide +kernel) ⟨Nat.le_of_ble_eq_true rfl, Nat.le_of_ble_eq_true rfl⟩) rfl hl.1 rfl (Nat.le_of_ble_eq_true rfl) dX11_from_29 ⟨Nat.zero_le _, Nat.zero_le _⟩ hK hP hD hS hA (fun H locs hP hD hS => ?_)
      exact rtMi hx hb hr hlocks hK hP hD hS hf dX11_from_32
  · have hf := (if_pos c15).symm.trans hf
    refine lv_aload_n hx hb dX11_from_10 rfl (lv_at hl 0 rfl) ?_
    refine lv_bipush (v := (-2)) hx hb dX11_from_11 (by decide) ?_
    obtain ⟨r13, M14, er13, hf⟩ := b2 hf
    refine klMi (rest := []) (As := [.int (-2)]) ⟨hx, hb, hml, hown, hts⟩ (c_X11_bad l dC dI tI tZ h H.size M (-2) r13 M14 er13) (cwV 1 hts gX11_from_X11_bad rfl rfl rfl (by decide +kernel) ⟨Nat.le_of_ble_eq_true rfl, Nat.le_of_ble_eq_true rfl⟩) rfl hl.1 rfl (Nat.le_of_ble_eq_true rfl) dX11_from_13 ⟨Nat.zero_le _, Nat.zero_le _⟩ hK hP hD hS hA (fun H locs hP hD hS => ?_)
    exact rtMi hx hb hr hlocks hK hP hD hS hf dX11_from_16

def f_X11_status (M : MS) (p0 : Int32) : Option (Int32 × MS) :=
  Option.bind (f_X11_in (Int32.toInt64 p0) 0 2) (fun r1 => (if r1 = 0 then (bi2 (f_X11_bad M (-1)) (fun r2 M3 => some ((r2, M3)))) else (Option.bind (rdI 3 (M 3) p0) (fun x4 => some ((x4, M))))))
def rmX11_status : Room := { frames := 1, cells := 0, slots := 0, locals := 25 }
abbrev RRX11_status : Room := (headSpec wsX11_status rmX11_status).room
theorem inX11_status : ∀ w ∈ wsX110, w ∈ wsX11_status := by decide +kernel
set_option maxHeartbeats 4000000 in
set_option maxRecDepth 100000 in
theorem c_X11_status (l : Launch) (dC : Nat → ClassId) (dI : Nat → Nat → Nat) (tI tZ : ClassId) (h : Nat → Nat) (sz : Nat) (M : MS) (p0 : Int32) (r : Int32) (M' : MS) (hf : f_X11_status M p0 = some (r, M')) : cMi l yX11_status wsX11_status rmX11_status dC dI tI tZ h sz [.ref (h 0), .int p0] M r M' := by
  refine Met.ofW (cc := cX11_status) (maxL := 2) (ret := (some .int)) (by decide) rfl ?_
  intro p e s m args below meth c s₁ B hml hv
  obtain ⟨hargs, hsz, hP, hK, hD0⟩ := hv
  have hx := B.exec
  have hb := B.bytes
  have hr := B.returns
  have hts := atoms_spec (ws := wsX11_status) B.pre
  have hown : s.vm.findClass RX11 = some m.cls := findClass_of_methodNamed B.named
  have hlocks := B.notSynchronized
  have hin := inX11_status
  have hsz : s.heap.size = sz := hsz
  subst hsz
  have lk20 : Cond.fieldLink RX11 20 (TX11 3).1 (TX11 3).2.1 (TX11 3).2.2.1 ∈ wsX11_status := by decide +kernel
  have hD := hD0.self (sz := s.heap.size)
  generalize hAe : va_A (wM tI tZ h M) s.heap.size = A at hD ⊢
  have hA : ∀ q : Nat, s.heap.size ≤ q → A q := fun q h => by rw [← hAe]; exact Or.inr h
  have hS : va_S A s.heap s.heap [] := va_S.rf
  have hl := lv_entry ([.ref (h 0), .int p0]) (n := 2) (Nat.le_of_ble_eq_true rfl)
  rw [show entryFrame m args 2 = entryFrame m ([.ref (h 0), .int p0] : List Value).toArray 2 from by rw [hargs], lg_entry_eq]
  generalize (lg_sl ([.ref (h 0), .int p0]) ++ List.replicate (2 - (lg_sl ([.ref (h 0), .int p0])).length) Slot.unset).toArray = ls at hl ⊢
  have hl : lv_has ls 2 [(0, .ref (h 0)), (1, .int p0)] := hl
  unfold f_X11_status at hf
  refine lv_iload_n hx hb dX11_status_0 rfl (lv_at hl 1 rfl) ?_
  refine lv_i2l hx hb dX11_status_1 rfl ?_
  refine lv_lconst (v := 0) hx hb dX11_status_2 (by decide) ?_
  refine lv_ldc2 (v := 2) hx hb hown (hts (.constantLong RX11 253 (2)) (by decide +kernel)) dX11_status_3 ?_
  obtain ⟨r1, er1, hf⟩ := bd hf
  refine klEi (rest := []) (As := [.long (Int32.toInt64 p0), .long 0, .long 2]) ⟨hx, hb, hml, hown, hts⟩ (c_X11_in l s.heap.size (Int32.toInt64 p0) 0 2 r1 er1) (va_cwS 3 hts gX11_status_X11_in rfl rfl rfl (by decide +kernel) ⟨Nat.le_of_ble_eq_true rfl, Nat.le_of_ble_eq_true rfl⟩) rfl hl.1 rfl (Nat.le_of_ble_eq_true rfl) dX11_status_6 ⟨Nat.zero_le _, Nat.zero_le _⟩ hS hA (fun H2 locs hk hS => ?_)
  have hP := kpP hP hk
  generalize H2 = H at hP hS ⊢
  refine lv_if_eq (tgt := 21) hx hb dX11_status_9 (by decide) (fun c5 => ?_) (fun c5 => ?_)
  · have hf := (if_pos c5).symm.trans hf
    refine lv_aload_n hx hb dX11_status_21 rfl (lv_at hl 0 rfl) ?_
    refine lv_iconst (v := (-1)) hx hb dX11_status_22 (by decide) ?_
    obtain ⟨r2, M3, er2, hf⟩ := b2 hf
    refine klMi (rest := []) (As := [.int (-1)]) ⟨hx, hb, hml, hown, hts⟩ (c_X11_bad l dC dI tI tZ h H.size M (-1) r2 M3 er2) (cwV 1 hts gX11_status_X11_bad rfl rfl rfl (by decide +kernel) ⟨Nat.le_of_ble_eq_true rfl, Nat.le_of_ble_eq_true rfl⟩) rfl hl.1 rfl (Nat.le_of_ble_eq_true rfl) dX11_status_23 ⟨Nat.zero_le _, Nat.zero_le _⟩ hK hP hD hS hA (fun H locs hP hD hS => ?_)
    exact rtMi hx hb hr hlocks hK hP hD hS hf dX11_status_26
  · have hf := (if_neg c5).symm.trans hf
    refine lv_aload_n hx hb dX11_status_12 rfl (lv_at hl 0 rfl) ?_
    refine geM hx hb hts hin hown hK hP 3 (by decide) lk20 rfl dX11_status_13 ?_
    refine lv_iload_n hx hb dX11_status_16 rfl (lv_at hl 1 rfl) ?_
    obtain ⟨x4, hix4, ex4, hf⟩ := rd_b hf
    refine va_iald hx hb hK hP 4 0 rfl rfl hix4 dX11_status_17 (kI ex4 ?_)
    refine lv_goto (tgt := 26) hx hb dX11_status_18 (by decide) ?_
    exact rtMi hx hb hr hlocks hK hP hD hS hf dX11_status_26

def f_X11_counted (M : MS) (p0 : Int32) : Option Int32 :=
  (if p0 = 2 then (Option.bind (f_X11_textLong M) (fun r4 => some r4)) else ((if p0 = 3 then (Option.bind (rdI 277 (M 0) 276) (fun x2 => some x2)) else (Option.bind (rdI 277 (M 0) (274 + p0)) (fun x1 => some x1)))))
def rmX11_counted : Room := { frames := 1, cells := 0, slots := 0, locals := 20 }
abbrev RRX11_counted : Room := (headSpec wsX11_counted rmX11_counted).room
theorem inX11_counted : ∀ w ∈ wsX110, w ∈ wsX11_counted := by decide +kernel
set_option maxHeartbeats 4000000 in
set_option maxRecDepth 100000 in
theorem c_X11_counted (l : Launch) (dC : Nat → ClassId) (dI : Nat → Nat → Nat) (tI tZ : ClassId) (h : Nat → Nat) (sz : Nat) (M : MS) (p0 : Int32) (r : Int32) (hf : f_X11_counted M p0 = some r) : cMi l yX11_counted wsX11_counted rmX11_counted dC dI tI tZ h sz [.ref (h 0), .int p0] M r M := by
  refine Met.ofW (cc := cX11_counted) (maxL := 2) (ret := (some .int)) (by decide) rfl ?_
  intro p e s m args below meth c s₁ B hml hv
  obtain ⟨hargs, hsz, hP, hK, hD0⟩ := hv
  have hx := B.exec
  have hb := B.bytes
  have hr := B.returns
  have hts := atoms_spec (ws := wsX11_counted) B.pre
  have hown : s.vm.findClass RX11 = some m.cls := findClass_of_methodNamed B.named
  have hlocks := B.notSynchronized
  have hin := inX11_counted
  have hsz : s.heap.size = sz := hsz
  subst hsz
  have lk7 : Cond.fieldLink RX11 7 (TX11 0).1 (TX11 0).2.1 (TX11 0).2.2.1 ∈ wsX11_counted := by decide +kernel
  have hD := hD0.self (sz := s.heap.size)
  generalize hAe : va_A (wM tI tZ h M) s.heap.size = A at hD ⊢
  have hA : ∀ q : Nat, s.heap.size ≤ q → A q := fun q h => by rw [← hAe]; exact Or.inr h
  have hS : va_S A s.heap s.heap [] := va_S.rf
  have hl := lv_entry ([.ref (h 0), .int p0]) (n := 2) (Nat.le_of_ble_eq_true rfl)
  rw [show entryFrame m args 2 = entryFrame m ([.ref (h 0), .int p0] : List Value).toArray 2 from by rw [hargs], lg_entry_eq]
  generalize (lg_sl ([.ref (h 0), .int p0]) ++ List.replicate (2 - (lg_sl ([.ref (h 0), .int p0])).length) Slot.unset).toArray = ls at hl ⊢
  have hl : lv_has ls 2 [(0, .ref (h 0)), (1, .int p0)] := hl
  unfold f_X11_counted at hf
  refine lv_iload_n hx hb dX11_counted_0 rfl (lv_at hl 1 rfl) ?_
  refine lv_iconst (v := 2) hx hb dX11_counted_1 (by decide) ?_
  refine lv_icmp_ne (tgt := 12) hx hb dX11_counted_2 (by decide) (fun c5 => ?_) (fun c5 => ?_)
  · have hf := (if_neg c5).symm.trans hf
    refine lv_iload_n hx hb dX11_counted_12 rfl (lv_at hl 1 rfl) ?_
    refine lv_iconst (v := 3) hx hb dX11_counted_13 (by decide) ?_
    refine lv_icmp_ne (tgt := 28) hx hb dX11_counted_14 (by decide) (fun c3 => ?_) (fun c3 => ?_)
    · have hf := (if_neg c3).symm.trans hf
      refine lv_aload_n hx hb dX11_counted_28 rfl (lv_at hl 0 rfl) ?_
      refine geM hx hb hts hin hown hK hP 0 (by decide) lk7 rfl dX11_counted_29 ?_
      refine lv_sipush (v := 274) hx hb dX11_counted_32 (by decide) ?_
      refine lv_iload_n hx hb dX11_counted_35 rfl (lv_at hl 1 rfl) ?_
      refine lv_iadd hx hb dX11_counted_36 ?_
      obtain ⟨x1, hix1, ex1, hf⟩ := rd_b hf
      refine va_iald hx hb hK hP 1 0 rfl rfl hix1 dX11_counted_37 (kI ex1 ?_)
      exact rtMi hx hb hr hlocks hK hP hD hS (congrArg (fun z => some (z, M)) (Option.some.inj hf)) dX11_counted_38
    · have hf := (if_pos c3).symm.trans hf
      refine lv_aload_n hx hb dX11_counted_17 rfl (lv_at hl 0 rfl) ?_
      refine geM hx hb hts hin hown hK hP 0 (by decide) lk7 rfl dX11_counted_18 ?_
      refine lv_sipush (v := 276) hx hb dX11_counted_21 (by decide) ?_
      obtain ⟨x2, hix2, ex2, hf⟩ := rd_b hf
      refine va_iald hx hb hK hP 1 0 rfl rfl hix2 dX11_counted_24 (kI ex2 ?_)
      refine lv_goto (tgt := 38) hx hb dX11_counted_25 (by decide) ?_
      exact rtMi hx hb hr hlocks hK hP hD hS (congrArg (fun z => some (z, M)) (Option.some.inj hf)) dX11_counted_38
  · have hf := (if_pos c5).symm.trans hf
    refine lv_aload_n hx hb dX11_counted_5 rfl (lv_at hl 0 rfl) ?_
    obtain ⟨r4, er4, hf⟩ := bd hf
    refine klMi (rest := []) (As := []) ⟨hx, hb, hml, hown, hts⟩ (c_X11_textLong l dC dI tI tZ h s.heap.size M r4 er4) (cwV 0 hts gX11_counted_X11_textLong rfl rfl rfl (by decide +kernel) ⟨Nat.le_of_ble_eq_true rfl, Nat.le_of_ble_eq_true rfl⟩) rfl hl.1 rfl (Nat.le_of_ble_eq_true rfl) dX11_counted_6 ⟨Nat.zero_le _, Nat.zero_le _⟩ hK hP hD hS hA (fun H locs hP hD hS => ?_)
    refine lv_goto (tgt := 38) hx hb dX11_counted_9 (by decide) ?_
    exact rtMi hx hb hr hlocks hK hP hD hS (congrArg (fun z => some (z, M)) (Option.some.inj hf)) dX11_counted_38

def f_X11_count (M : MS) (p0 : Int32) : Option (Int32 × MS) :=
  Option.bind (f_X11_in (Int32.toInt64 p0) 0 3) (fun r1 => (if r1 = 0 then (bi2 (f_X11_bad M (-2)) (fun r2 M3 => some ((r2, M3)))) else (Option.bind (f_X11_counted M p0) (fun r4 => some ((r4, M))))))
def rmX11_count : Room := { frames := 2, cells := 0, slots := 0, locals := 41 }
abbrev RRX11_count : Room := (headSpec wsX11_count rmX11_count).room
theorem inX11_count : ∀ w ∈ wsX110, w ∈ wsX11_count := by decide +kernel
set_option maxHeartbeats 4000000 in
set_option maxRecDepth 100000 in
theorem c_X11_count (l : Launch) (dC : Nat → ClassId) (dI : Nat → Nat → Nat) (tI tZ : ClassId) (h : Nat → Nat) (sz : Nat) (M : MS) (p0 : Int32) (r : Int32) (M' : MS) (hf : f_X11_count M p0 = some (r, M')) : cMi l yX11_count wsX11_count rmX11_count dC dI tI tZ h sz [.ref (h 0), .int p0] M r M' := by
  refine Met.ofW (cc := cX11_count) (maxL := 2) (ret := (some .int)) (by decide) rfl ?_
  intro p e s m args below meth c s₁ B hml hv
  obtain ⟨hargs, hsz, hP, hK, hD0⟩ := hv
  have hx := B.exec
  have hb := B.bytes
  have hr := B.returns
  have hts := atoms_spec (ws := wsX11_count) B.pre
  have hown : s.vm.findClass RX11 = some m.cls := findClass_of_methodNamed B.named
  have hlocks := B.notSynchronized
  have hin := inX11_count
  have hsz : s.heap.size = sz := hsz
  subst hsz
  have hD := hD0.self (sz := s.heap.size)
  generalize hAe : va_A (wM tI tZ h M) s.heap.size = A at hD ⊢
  have hA : ∀ q : Nat, s.heap.size ≤ q → A q := fun q h => by rw [← hAe]; exact Or.inr h
  have hS : va_S A s.heap s.heap [] := va_S.rf
  have hl := lv_entry ([.ref (h 0), .int p0]) (n := 2) (Nat.le_of_ble_eq_true rfl)
  rw [show entryFrame m args 2 = entryFrame m ([.ref (h 0), .int p0] : List Value).toArray 2 from by rw [hargs], lg_entry_eq]
  generalize (lg_sl ([.ref (h 0), .int p0]) ++ List.replicate (2 - (lg_sl ([.ref (h 0), .int p0])).length) Slot.unset).toArray = ls at hl ⊢
  have hl : lv_has ls 2 [(0, .ref (h 0)), (1, .int p0)] := hl
  unfold f_X11_count at hf
  refine lv_iload_n hx hb dX11_count_0 rfl (lv_at hl 1 rfl) ?_
  refine lv_i2l hx hb dX11_count_1 rfl ?_
  refine lv_lconst (v := 0) hx hb dX11_count_2 (by decide) ?_
  refine lv_ldc2 (v := 3) hx hb hown (hts (.constantLong RX11 80 (3)) (by decide +kernel)) dX11_count_3 ?_
  obtain ⟨r1, er1, hf⟩ := bd hf
  refine klEi (rest := []) (As := [.long (Int32.toInt64 p0), .long 0, .long 3]) ⟨hx, hb, hml, hown, hts⟩ (c_X11_in l s.heap.size (Int32.toInt64 p0) 0 3 r1 er1) (va_cwS 3 hts gX11_count_X11_in rfl rfl rfl (by decide +kernel) ⟨Nat.le_of_ble_eq_true rfl, Nat.le_of_ble_eq_true rfl⟩) rfl hl.1 rfl (Nat.le_of_ble_eq_true rfl) dX11_count_6 ⟨Nat.zero_le _, Nat.zero_le _⟩ hS hA (fun H2 locs hk hS => ?_)
  have hP := kpP hP hk
  generalize H2 = H at hP hS ⊢
  refine lv_if_eq (tgt := 20) hx hb dX11_count_9 (by decide) (fun c5 => ?_) (fun c5 => ?_)
  · have hf := (if_pos c5).symm.trans hf
    refine lv_aload_n hx hb dX11_count_20 rfl (lv_at hl 0 rfl) ?_
    refine lv_bipush (v := (-2)) hx hb dX11_count_21 (by decide) ?_
    obtain ⟨r2, M3, er2, hf⟩ := b2 hf
    refine klMi (rest := []) (As := [.int (-2)]) ⟨hx, hb, hml, hown, hts⟩ (c_X11_bad l dC dI tI tZ h H.size M (-2) r2 M3 er2) (cwV 1 hts gX11_count_X11_bad rfl rfl rfl (by decide +kernel) ⟨Nat.le_of_ble_eq_true rfl, Nat.le_of_ble_eq_true rfl⟩) rfl hl.1 rfl (Nat.le_of_ble_eq_true rfl) dX11_count_23 ⟨Nat.zero_le _, Nat.zero_le _⟩ hK hP hD hS hA (fun H locs hP hD hS => ?_)
    exact rtMi hx hb hr hlocks hK hP hD hS hf dX11_count_26
  · have hf := (if_neg c5).symm.trans hf
    refine lv_aload_n hx hb dX11_count_12 rfl (lv_at hl 0 rfl) ?_
    refine lv_iload_n hx hb dX11_count_13 rfl (lv_at hl 1 rfl) ?_
    obtain ⟨r4, er4, hf⟩ := bd hf
    refine klMi (rest := []) (As := [.int p0]) ⟨hx, hb, hml, hown, hts⟩ (c_X11_counted l dC dI tI tZ h H.size M p0 r4 er4) (cwV 1 hts gX11_count_X11_counted rfl rfl rfl (by decide +kernel) ⟨Nat.le_of_ble_eq_true rfl, Nat.le_of_ble_eq_true rfl⟩) rfl hl.1 rfl (Nat.le_of_ble_eq_true rfl) dX11_count_14 ⟨Nat.zero_le _, Nat.zero_le _⟩ hK hP hD hS hA (fun H locs hP hD hS => ?_)
    refine lv_goto (tgt := 26) hx hb dX11_count_17 (by decide) ?_
    exact rtMi hx hb hr hlocks hK hP hD hS hf dX11_count_26

def k_X11_sums_6 (y1 : Int64) : Option Int64 :=
  some y1
def b_X11_sums_6 (M : MS) (p1 : Int32) (p2 : Int32) (y2 : Int64) (y3 : Int32) : Option ((Int64 × Int32) ⊕ Int64) :=
  (if p2 ≤ y3 then (some (Sum.inr y2)) else (Option.bind (rdI 277 (M 0) (p1 + y3)) (fun x4 => Option.bind (some ((31 * y2) + (Int32.toInt64 x4))) (fun x5 => Option.bind (some (y3 + 1)) (fun x6 => some (Sum.inl (x5, x6)))))))
def f_X11_sums (M : MS) (p0 : Int64) (p1 : Int32) (p2 : Int32) : Option Int64 :=
  Option.bind (lp (fun s => b_X11_sums_6 M p1 p2 s.1 s.2) FU (p0, 0)) (fun s => k_X11_sums_6 s)
def rmX11_sums : Room := { frames := 0, cells := 0, slots := 0, locals := 0 }
abbrev RRX11_sums : Room := (headSpec wsX11_sums rmX11_sums).room
theorem inX11_sums : ∀ w ∈ wsX110, w ∈ wsX11_sums := by decide +kernel
set_option maxHeartbeats 4000000 in
set_option maxRecDepth 100000 in
theorem c_X11_sums (l : Launch) (dC : Nat → ClassId) (dI : Nat → Nat → Nat) (tI tZ : ClassId) (h : Nat → Nat) (sz : Nat) (M : MS) (p0 : Int64) (p1 : Int32) (p2 : Int32) (r : Int64) (hf : f_X11_sums M p0 p1 p2 = some r) : cMl l yX11_sums wsX11_sums rmX11_sums dC dI tI tZ h sz [.ref (h 0), .long p0, .int p1, .int p2] M r M := by
  refine Met.ofW (cc := cX11_sums) (maxL := 8) (ret := (some .long)) (by decide) rfl ?_
  intro p e s m args below meth c s₁ B hml hv
  obtain ⟨hargs, hsz, hP, hK, hD0⟩ := hv
  have hx := B.exec
  have hb := B.bytes
  have hr := B.returns
  have hts := atoms_spec (ws := wsX11_sums) B.pre
  have hown : s.vm.findClass RX11 = some m.cls := findClass_of_methodNamed B.named
  have hlocks := B.notSynchronized
  have hin := inX11_sums
  have hsz : s.heap.size = sz := hsz
  subst hsz
  have lk7 : Cond.fieldLink RX11 7 (TX11 0).1 (TX11 0).2.1 (TX11 0).2.2.1 ∈ wsX11_sums := by decide +kernel
  have hD := hD0.self (sz := s.heap.size)
  generalize hAe : va_A (wM tI tZ h M) s.heap.size = A at hD ⊢
  have hA : ∀ q : Nat, s.heap.size ≤ q → A q := fun q h => by rw [← hAe]; exact Or.inr h
  have hS : va_S A s.heap s.heap [] := va_S.rf
  have hl := lv_entry ([.ref (h 0), .long p0, .int p1, .int p2]) (n := 8) (Nat.le_of_ble_eq_true rfl)
  rw [show entryFrame m args 8 = entryFrame m ([.ref (h 0), .long p0, .int p1, .int p2] : List Value).toArray 8 from by rw [hargs], lg_entry_eq]
  generalize (lg_sl ([.ref (h 0), .long p0, .int p1, .int p2]) ++ List.replicate (8 - (lg_sl ([.ref (h 0), .long p0, .int p1, .int p2])).length) Slot.unset).toArray = ls at hl ⊢
  have hl : lv_has ls 8 [(0, .ref (h 0)), (1, .long p0), (3, .int p1), (4, .int p2)] := hl
  unfold f_X11_sums at hf
  refine lv_lload_n hx hb dX11_sums_0 rfl (lv_at hl 1 rfl) ?_
  refine lv_lstore (lv' := [(5, .long p0), (0, .ref (h 0)), (1, .long p0), (3, .int p1), (4, .int p2)]) hx hb dX11_sums_1 hl (by decide) rfl (fun ls hl => ?_)
  refine lv_iconst (v := 0) hx hb dX11_sums_3 (by decide) ?_
  refine lv_istore (lv' := [(7, .int 0), (5, .long p0), (0, .ref (h 0)), (1, .long p0), (3, .int p1), (4, .int p2)]) hx hb dX11_sums_4 hl (by decide) rfl (fun ls hl => ?_)
  have K6 : ∀ (y1 : Int64) (H : Heap) (locs : List Loc) (ls : Array Slot), k_X11_sums_6 y1 = some r → va_P (dC, dI) vwCl (wM tI tZ h M) H → va_D A (wM tI tZ h M) → va_S A s.heap H locs → lv_has ls 8 [(5, .long y1)] → W p l e RRX11_sums s m args below meth c H locs 0 0 (MQ below (qcMl dC dI tI tZ A h r M) args s 0 0 A) (F0 m 38 ls []) := by
    intro y1 H locs ls hf hP hD hS hl
    unfold k_X11_sums_6 at hf
    refine lv_lload hx hb dX11_sums_38 (lv_at hl 0 rfl) ?_
    exact rtMl hx hb hr hlocks hK hP hD hS (congrArg (fun z => some (z, M)) (Option.some.inj hf)) dX11_sums_40
  obtain ⟨z6, ez6, hz6⟩ := bd hf
  have L6 : ∀ (n : Nat) (y2 : Int64) (y3 : Int32) (H : Heap) (locs : List Loc) (ls : Array Slot), lp (fun s => b_X11_sums_6 M p1 p2 s.1 s.2) n (y2, y3) = some z6 → va_P (dC, dI) vwCl (wM tI tZ h M) H → va_D A (wM tI tZ h M) → va_S A s.heap H locs → lv_has ls 8 [(0, .ref (h 0)), (3, .int p1), (4, .int p2), (5, .long y2), (7, .int y3)] → W p l e RRX11_sums s m args below meth c H locs 0 0 (MQ below (qcMl dC dI tI tZ A h r M) args s 0 0 A) (F0 m 6 ls []) := by
    intro n
    induction n with
    | zero => intro y2 y3 H locs ls hf; exact lp_z hf
    | succ n ih6 =>
      intro y2 y3 H locs ls hf hP hD hS hl
      obtain ⟨q6, hf, hq6⟩ := lp_i hf
      have hf : b_X11_sums_6 M p1 p2 y2 y3 = some q6 := hf
      unfold b_X11_sums_6 at hf
      refine lv_iload hx hb dX11_sums_6 (lv_at hl 4 rfl) ?_
      refine lv_iload hx hb dX11_sums_8 (lv_at hl 2 rfl) ?_
      refine lv_icmp_ge (tgt := 38) hx hb dX11_sums_10 (by decide) (fun c7 => ?_) (fun c7 => ?_)
      · have hf := (if_pos c7).symm.trans hf
        exact K6 y2 _ _ _ (lp_x (k := (fun s => k_X11_sums_6 s)) (lp_r hf hq6) hz6) hP hD hS (lv_sub hl [3] rfl)
      · have hf := (if_neg c7).symm.trans hf
        refine lv_ldc2 (v := 31) hx hb hown (hts (.constantLong RX11 282 (31)) (by decide +kernel)) dX11_sums_13 ?_
        refine lv_lload hx hb dX11_sums_16 (lv_at hl 3 rfl) ?_
        refine lv_lmul hx hb dX11_sums_18 ?_
        refine lv_aload_n hx hb dX11_sums_19 rfl (lv_at hl 0 rfl) ?_
        refine geM hx hb hts hin hown hK hP 0 (by decide) lk7 rfl dX11_sums_20 ?_
        refine lv_iload_n hx hb dX11_sums_23 rfl (lv_at hl 1 rfl) ?_
        refine lv_iload hx hb dX11_sums_24 (lv_at hl 4 rfl) ?_
        refine lv_iadd hx hb dX11_sums_26 ?_
        obtain ⟨x4, hix4, ex4, hf⟩ := rd_b hf
        refine va_iald hx hb hK hP 1 0 rfl rfl hix4 dX11_sums_27 (kI ex4 ?_)
        refine lv_i2l hx hb dX11_sums_28 rfl ?_
        refine lv_ladd hx hb dX11_sums_29 ?_
        refine lv_topl (fun x5 ex5 => ?_)
        have hf := bs ex5 hf
        refine lv_lstore (lv' := [(5, .long x5), (0, .ref (h 0)), (3, .int p1), (4, .int p2), (7, .int y3)]) hx hb dX11_sums_30 hl (by decide) rfl (fun ls hl => ?_)
        obtain ⟨x6, ex6, hf⟩ := bn hf
        refine lv_iinc (v := x6) (lv' := [(7, .int x6), (5, .long x5), (0, .ref (h 0)), (3, .int p1), (4, .int p2)]) hx hb dX11_sums_32 hl (k := 4) rfl (by rw [ex6]; rfl) (by decide) rfl (fun ls hl => ?_)
        refine lv_goto (tgt := 6) hx hb dX11_sums_35 (by decide) ?_
        exact ih6 x5 x6 _ _ _ (lp_l hf hq6) hP hD hS (lv_sub hl [2, 3, 4, 1, 0] rfl)
  exact L6 FU p0 0 _ _ _ ez6 hP hD hS (lv_sub hl [2, 4, 5, 1, 0] rfl)

def k_X11_digest_6 (M : MS) (y1 : Int64) : Option Int64 :=
  Option.bind (f_X11_porters M) (fun r2 => Option.bind (f_X11_sums M y1 0 (4 * r2)) (fun r3 => Option.bind (f_X11_sums M r3 24 4) (fun r4 => Option.bind (rdI 277 (M 0) 275) (fun x5 => Option.bind (f_X11_sums M r4 28 (2 * x5)) (fun r6 => Option.bind (f_X11_textLong M) (fun r7 => Option.bind (f_X11_sums M r6 74 r7) (fun r8 => Option.bind (rdI 277 (M 0) 276) (fun x9 => Option.bind (f_X11_sums M r8 68 x9) (fun r10 => some r10)))))))))
def b_X11_digest_6 (M : MS) (y11 : Int64) (y12 : Int32) : Option ((Int64 × Int32) ⊕ Int64) :=
  (if 4 ≤ y12 then (some (Sum.inr y11)) else (Option.bind (f_X11_counted M y12) (fun r13 => Option.bind (some ((31 * y11) + (Int32.toInt64 r13))) (fun x14 => Option.bind (some (y12 + 1)) (fun x15 => some (Sum.inl (x14, x15)))))))
def f_X11_digest (M : MS)  : Option Int64 :=
  Option.bind (lp (fun s => b_X11_digest_6 M s.1 s.2) FU (631, 0)) (fun s => k_X11_digest_6 M s)
def rmX11_digest : Room := { frames := 2, cells := 0, slots := 0, locals := 41 }
abbrev RRX11_digest : Room := (headSpec wsX11_digest rmX11_digest).room
theorem inX11_digest : ∀ w ∈ wsX110, w ∈ wsX11_digest := by decide +kernel
set_option maxHeartbeats 4000000 in
set_option maxRecDepth 100000 in
theorem c_X11_digest (l : Launch) (dC : Nat → ClassId) (dI : Nat → Nat → Nat) (tI tZ : ClassId) (h : Nat → Nat) (sz : Nat) (M : MS)  (r : Int64) (hf : f_X11_digest M  = some r) : cMl l yX11_digest wsX11_digest rmX11_digest dC dI tI tZ h sz [.ref (h 0)] M r M := by
  refine Met.ofW (cc := cX11_digest) (maxL := 4) (ret := (some .long)) (by decide) rfl ?_
  intro p e s m args below meth c s₁ B hml hv
  obtain ⟨hargs, hsz, hP, hK, hD0⟩ := hv
  have hx := B.exec
  have hb := B.bytes
  have hr := B.returns
  have hts := atoms_spec (ws := wsX11_digest) B.pre
  have hown : s.vm.findClass RX11 = some m.cls := findClass_of_methodNamed B.named
  have hlocks := B.notSynchronized
  have hin := inX11_digest
  have hsz : s.heap.size = sz := hsz
  subst hsz
  have lk7 : Cond.fieldLink RX11 7 (TX11 0).1 (TX11 0).2.1 (TX11 0).2.2.1 ∈ wsX11_digest := by decide +kernel
  have hD := hD0.self (sz := s.heap.size)
  generalize hAe : va_A (wM tI tZ h M) s.heap.size = A at hD ⊢
  have hA : ∀ q : Nat, s.heap.size ≤ q → A q := fun q h => by rw [← hAe]; exact Or.inr h
  have hS : va_S A s.heap s.heap [] := va_S.rf
  have hl := lv_entry ([.ref (h 0)]) (n := 4) (Nat.le_of_ble_eq_true rfl)
  rw [show entryFrame m args 4 = entryFrame m ([.ref (h 0)] : List Value).toArray 4 from by rw [hargs], lg_entry_eq]
  generalize (lg_sl ([.ref (h 0)]) ++ List.replicate (4 - (lg_sl ([.ref (h 0)])).length) Slot.unset).toArray = ls at hl ⊢
  have hl : lv_has ls 4 [(0, .ref (h 0))] := hl
  unfold f_X11_digest at hf
  refine lv_ldc2 (v := 631) hx hb hown (hts (.constantLong RX11 284 (631)) (by decide +kernel)) dX11_digest_0 ?_
  refine lv_lstore_n (lv' := [(1, .long 631), (0, .ref (h 0))]) hx hb dX11_digest_3 rfl hl (by decide) rfl (fun ls hl => ?_)
  refine lv_iconst (v := 0) hx hb dX11_digest_4 (by decide) ?_
  refine lv_istore_n (lv' := [(3, .int 0), (1, .long 631), (0, .ref (h 0))]) hx hb dX11_digest_5 rfl hl (by decide) rfl (fun ls hl => ?_)
  have K6 : ∀ (y1 : Int64) (H : Heap) (locs : List Loc) (ls : Array Slot), k_X11_digest_6 M y1 = some r → va_P (dC, dI) vwCl (wM tI tZ h M) H → va_D A (wM tI tZ h M) → va_S A s.heap H locs → lv_has ls 4 [(0, .ref (h 0)), (1, .long y1)] → W p l e RRX11_digest s m args below meth c H locs 0 0 (MQ below (qcMl dC dI tI tZ A h r M) args s 0 0 A) (F0 m 30 ls []) := by
    intro y1 H locs ls hf hP hD hS hl
    unfold k_X11_digest_6 at hf
    refine lv_aload_n hx hb dX11_digest_30 rfl (lv_at hl 0 rfl) ?_
    refine lv_lload_n hx hb dX11_digest_31 rfl (lv_at hl 1 rfl) ?_
    refine lv_iconst (v := 0) hx hb dX11_digest_32 (by decide) ?_
    refine lv_iconst (v := 4) hx hb dX11_digest_33 (by decide) ?_
    refine lv_aload_n hx hb dX11_digest_34 rfl (lv_at hl 0 rfl) ?_
    obtain ⟨r2, er2, hf⟩ := bd hf
    refine klMi (rest := [.int 4, .int 0, .long y1, .ref (h 0)]) (As := []) ⟨hx, hb, hml, hown, hts⟩ (c_X11_porters l dC dI tI tZ h H.size M r2 er2) (cwV 0 hts gX11_digest_X11_porters rfl rfl rfl (by decide +kernel) ⟨Nat.le_of_ble_eq_true rfl, Nat.le_of_ble_eq_true rfl⟩) rfl hl.1 rfl (Nat.le_of_ble_eq_true rfl) dX11_digest_35 ⟨Nat.zero_le _, Nat.zero_le _⟩ hK hP hD hS hA (fun H locs hP hD hS => ?_)
    refine lv_imul hx hb dX11_digest_38 ?_
    obtain ⟨r3, er3, hf⟩ := bd hf
    refine klMl (rest := []) (As := [.long y1, .int 0, .int (4 * r2)]) ⟨hx, hb, hml, hown, hts⟩ (c_X11_sums l dC dI tI tZ h H.size M y1 0 (4 * r2) r3 er3) (cwV 3 hts gX11_digest_X11_sums rfl rfl rfl (by decide +kernel) ⟨Nat.le_of_ble_eq_true rfl, Nat.le_of_ble_eq_true rfl⟩) rfl hl.1 rfl (Nat.le_of_ble_eq_true rfl) dX11_digest_39 ⟨Nat.zero_le _, Nat.zero_le _⟩ hK hP hD hS hA (fun H locs hP hD hS => ?_)
    refine lv_lstore_n (lv' := [(1, .long r3), (0, .ref (h 0))]) hx hb dX11_digest_42 rfl hl (by decide) rfl (fun ls hl => ?_)
    refine lv_aload_n hx hb dX11_digest_43 rfl (lv_at hl 1 rfl) ?_
    refine lv_lload_n hx hb dX11_digest_44 rfl (lv_at hl 0 rfl) ?_
    refine lv_bipush (v := 24) hx hb dX11_digest_45 (by decide) ?_
    refine lv_iconst (v := 4) hx hb dX11_digest_47 (by decide) ?_
    obtain ⟨r4, er4, hf⟩ := bd hf
    refine klMl (rest := []) (As := [.long r3, .int 24, .int 4]) ⟨hx, hb, hml, hown, hts⟩ (c_X11_sums l dC dI tI tZ h H.size M r3 24 4 r4 er4) (cwV 3 hts gX11_digest_X11_sums rfl rfl rfl (by decide +kernel) ⟨Nat.le_of_ble_eq_true rfl, Nat.le_of_ble_eq_true rfl⟩) rfl hl.1 rfl (Nat.le_of_ble_eq_true rfl) dX11_digest_48 ⟨Nat.zero_le _, Nat.zero_le _⟩ hK hP hD hS hA (fun H locs hP hD hS => ?_)
    refine lv_lstore_n (lv' := [(1, .long r4), (0, .ref (h 0))]) hx hb dX11_digest_51 rfl hl (by decide) rfl (fun ls hl => ?_)
    refine lv_aload_n hx hb dX11_digest_52 rfl (lv_at hl 1 rfl) ?_
    refine lv_lload_n hx hb dX11_digest_53 rfl (lv_at hl 0 rfl) ?_
    refine lv_bipush (v := 28) hx hb dX11_digest_54 (by decide) ?_
    refine lv_iconst (v := 2) hx hb dX11_digest_56 (by decide) ?_
    refine lv_aload_n hx hb dX11_digest_57 rfl (lv_at hl 1 rfl) ?_
    refine geM hx hb hts hin hown hK hP 0 (by decide) lk7 rfl dX11_digest_58 ?_
    refine lv_sipush (v := 275) hx hb dX11_digest_61 (by decide) ?_
    obtain ⟨x5, hix5, ex5, hf⟩ := rd_b hf
    refine va_iald hx hb hK hP 1 0 rfl rfl hix5 dX11_digest_64 (kI ex5 ?_)
    refine lv_imul hx hb dX11_digest_65 ?_
    obtain ⟨r6, er6, hf⟩ := bd hf
    refine klMl (rest := []) (As := [.long r4, .int 28, .int (2 * x5)]) ⟨hx, hb, hml, hown, hts⟩ (c_X11_sums l dC dI tI tZ h H.size M r4 28 (2 * x5) r6 er6) (cwV 3 hts gX11_digest_X11_sums rfl rfl rfl (by decide +kernel) ⟨Nat.le_of_ble_eq_true rfl, Nat.le_of_ble_eq_true rfl⟩) rfl hl.1 rfl (Nat.le_of_ble_eq_true rfl) dX11_digest_66 ⟨Nat.zero_le _, Nat.zero_le _⟩ hK hP hD hS hA (fun H locs hP hD hS => ?_)
    refine lv_lstore_n (lv' := [(1, .long r6), (0, .ref (h 0))]) hx hb dX11_digest_69 rfl hl (by decide) rfl (fun ls hl => ?_)
    refine lv_aload_n hx hb dX11_digest_70 rfl (lv_at hl 1 rfl) ?_
    refine lv_lload_n hx hb dX11_digest_71 rfl (lv_at hl 0 rfl) ?_
    refine lv_bipush (v := 74) hx hb dX11_digest_72 (by decide) ?_
    refine lv_aload_n hx hb dX11_digest_74 rfl (lv_at hl 1 rfl) ?_
    obtain ⟨r7, er7, hf⟩ := bd hf
    refine klMi (rest := [.int 74, .long r6, .ref (h 0)]) (As := []) ⟨hx, hb, hml, hown, hts⟩ (c_X11_textLong l dC dI tI tZ h H.size M r7 er7) (cwV 0 hts gX11_digest_X11_textLong rfl rfl rfl (by decide +kernel) ⟨Nat.le_of_ble_eq_true rfl, Nat.le_of_ble_eq_true rfl⟩) rfl hl.1 rfl (Nat.le_of_ble_eq_true rfl) dX11_digest_75 ⟨Nat.zero_le _, Nat.zero_le _⟩ hK hP hD hS hA (fun H locs hP hD hS => ?_)
    obtain ⟨r8, er8, hf⟩ := bd hf
    refine klMl (rest := []) (As := [.long r6, .int 74, .int r7]) ⟨hx, hb, hml, hown, hts⟩ (c_X11_sums l dC dI tI tZ h H.size M r6 74 r7 r8 er8) (cwV 3 hts gX11_digest_X11_sums rfl rfl rfl (by decide +kernel) ⟨Nat.le_of_ble_eq_true rfl, Nat.le_of_ble_eq_true rfl⟩) rfl hl.1 rfl (Nat.le_of_ble_eq_true rfl) dX11_digest_78 ⟨Nat.zero_le _, Nat.zero_le _⟩ hK hP hD hS hA (fun H locs hP hD hS => ?_)
    refine lv_lstore_n (lv' := [(1, .long r8), (0, .ref (h 0))]) hx hb dX11_digest_81 rfl hl (by decide) rfl (fun ls hl => ?_)
    refine lv_aload_n hx hb dX11_digest_82 rfl (lv_at hl 1 rfl) ?_
    refine lv_lload_n hx hb dX11_digest_83 rfl (lv_at hl 0 rfl) ?_
    refine lv_bipush (v := 68) hx hb dX11_digest_84 (by decide) ?_
    refine lv_aload_n hx hb dX11_digest_86 rfl (lv_at hl 1 rfl) ?_
    refine geM hx hb hts hin hown hK hP 0 (by decide) lk7 rfl dX11_digest_87 ?_
    refine lv_sipush (v := 276) hx hb dX11_digest_90 (by decide) ?_
    obtain ⟨x9, hix9, ex9, hf⟩ := rd_b hf
    refine va_iald hx hb hK hP 1 0 rfl rfl hix9 dX11_digest_93 (kI ex9 ?_)
    obtain ⟨r10, er10, hf⟩ := bd hf
    refine klMl (rest := []) (As := [.long r8, .int 68, .int x9]) ⟨hx, hb, hml, hown, hts⟩ (c_X11_sums l dC dI tI tZ h H.size M r8 68 x9 r10 er10) (cwV 3 hts gX11_digest_X11_sums rfl rfl rfl (by decide +kernel) ⟨Nat.le_of_ble_eq_true rfl, Nat.le_of_ble_eq_true rfl⟩) rfl hl.1 rfl (Nat.le_of_ble_eq_true rfl) dX11_digest_94 ⟨Nat.zero_le _, Nat.zero_le _⟩ hK hP hD hS hA (fun H locs hP hD hS => ?_)
    exact rtMl hx hb hr hlocks hK hP hD hS (congrArg (fun z => some (z, M)) (Option.some.inj hf)) dX11_digest_97
  obtain ⟨z6, ez6, hz6⟩ := bd hf
  have L6 : ∀ (n : Nat) (y11 : Int64) (y12 : Int32) (H : Heap) (locs : List Loc) (ls : Array Slot), lp (fun s => b_X11_digest_6 M s.1 s.2) n (y11, y12) = some z6 → va_P (dC, dI) vwCl (wM tI tZ h M) H → va_D A (wM tI tZ h M) → va_S A s.heap H locs → lv_has ls 4 [(0, .ref (h 0)), (1, .long y11), (3, .int y12)] → W p l e RRX11_digest s m args below meth c H locs 0 0 (MQ below (qcMl dC dI tI tZ A h r M) args s 0 0 A) (F0 m 6 ls []) := by
    intro n
    induction n with
    | zero => intro y11 y12 H locs ls hf; exact lp_z hf
    | succ n ih6 =>
      intro y11 y12 H locs ls hf hP hD hS hl
      obtain ⟨q6, hf, hq6⟩ := lp_i hf
      have hf : b_X11_digest_6 M y11 y12 = some q6 := hf
      unfold b_X11_digest_6 at hf
      refine lv_iload_n hx hb dX11_digest_6 rfl (lv_at hl 2 rfl) ?_
      refine lv_iconst (v := 4) hx hb dX11_digest_7 (by decide) ?_
      refine lv_icmp_ge (tgt := 30) hx hb dX11_digest_8 (by decide) (fun c16 => ?_) (fun c16 => ?_)
      · have hf := (if_pos c16).symm.trans hf
        exact K6 y11 _ _ _ (lp_x (k := (fun s => k_X11_digest_6 M s)) (lp_r hf hq6) hz6) hP hD hS (lv_sub hl [0, 1] rfl)
      · have hf := (if_neg c16).symm.trans hf
        refine lv_ldc2 (v := 31) hx hb hown (hts (.constantLong RX11 282 (31)) (by decide +kernel)) dX11_digest_11 ?_
        refine lv_lload_n hx hb dX11_digest_14 rfl (lv_at hl 1 rfl) ?_
        refine lv_lmul hx hb dX11_digest_15 ?_
        refine lv_aload_n hx hb dX11_digest_16 rfl (lv_at hl 0 rfl) ?_
        refine lv_iload_n hx hb dX11_digest_17 rfl (lv_at hl 2 rfl) ?_
        obtain ⟨r13, er13, hf⟩ := bd hf
        refine klMi (rest := [.long (31 * y11)]) (As := [.int y12]) ⟨hx, hb, hml, hown, hts⟩ (c_X11_counted l dC dI tI tZ h H.size M y12 r13 er13) (cwV 1 hts gX11_digest_X11_counted rfl rfl rfl (by decide +kernel) ⟨Nat.le_of_ble_eq_true rfl, Nat.le_of_ble_eq_true rfl⟩) rfl hl.1 rfl (Nat.le_of_ble_eq_true rfl) dX11_digest_18 ⟨Nat.zero_le _, Nat.zero_le _⟩ hK hP hD hS hA (fun H locs hP hD hS => ?_)
        refine lv_i2l hx hb dX11_digest_21 rfl ?_
        refine lv_ladd hx hb dX11_digest_22 ?_
        refine lv_topl (fun x14 ex14 => ?_)
        have hf := bs ex14 hf
        refine lv_lstore_n (lv' := [(1, .long x14), (0, .ref (h 0)), (3, .int y12)]) hx hb dX11_digest_23 rfl hl (by decide) rfl (fun ls hl => ?_)
        obtain ⟨x15, ex15, hf⟩ := bn hf
        refine lv_iinc (v := x15) (lv' := [(3, .int x15), (1, .long x14), (0, .ref (h 0))]) hx hb dX11_digest_24 hl (k := 2) rfl (by rw [ex15]; rfl) (by decide) rfl (fun ls hl => ?_)
        refine lv_goto (tgt := 6) hx hb dX11_digest_27 (by decide) ?_
        exact ih6 x14 x15 _ _ _ (lp_l hf hq6) hP hD hS (lv_sub hl [2, 1, 0] rfl)
  exact L6 FU 631 0 _ _ _ ez6 hP hD hS (lv_sub hl [2, 1, 0] rfl)
