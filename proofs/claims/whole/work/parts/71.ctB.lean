def nwCa (tI tP : ClassId) (k : Nat → Nat) (g : Nat → Option Nat) : va_W := [(k 0, .inr (1, [.ref (k 1), .ref (k 2), .ref (k 3), .ref (k 4), .ref (k 5), .ref (k 6), .int 0, .int 0, .int 0, .int 0])), (k 1, .inl (tP, 6, .inr (.inr (.inr (.inr g))))), (k 2, .inl (tI, (4, .inl (va_cpy (ssI 2) (fun _ => 0) 0 0 4)))), (k 3, .inl (tI, (20, .inl (fun _ => 0)))), (k 4, .inl (tI, (20, .inl (fun _ => 0)))), (k 5, .inl (tI, (200, .inl (fun _ => 0)))), (k 6, .inl (tI, (5, .inl (fun _ => 0)))), (k 7, .inr (6, [.int 1, .int 1, .int 0, .int 0]))]
def rmX1_init : Room := { frames := 2, cells := 7, slots := 259, locals := 60 }
set_option maxHeartbeats 8000000 in
set_option maxRecDepth 100000 in
theorem c_X1_init (l : Launch) (dC : Nat → ClassId) (dI : Nat → Nat → Nat) (ts aK aV : Nat → Nat) (sz a : Nat) : cN l yX1_init wsX1_init rmX1_init dC dI ts aK aV sz 1 a [.null, .null, .null, .null, .null, .null, .int 0, .int 0, .int 0, .int 0] (fun A U => ∃ (k : Nat → Nat) (tI tP : ClassId) (g : Nat → Option Nat) , k 0 = a ∧ (∀ j, j < 6 → g j = some (k 7)) ∧ va_P (dC, dI) vwCl (nwCa tI tP k g) U.heap ∧ va_D A (nwCa tI tP k g) ∧ va_K (dC, dI) vwCl [(tI, .int), (tP, .object "OnlyTwo$Plain")] U) := by
  refine Met.ofW (cc := cX1_init) (maxL := 3) (ret := none) (by decide) rfl ?_
  intro p e s m args below meth c s₁ B hml hv
  obtain ⟨hargs, hsz, hE, hO, hP, hK⟩ := hv
  have hx := B.exec
  have hb := B.bytes
  have hr := B.returns
  have hts := atoms_spec (ws := wsX1_init) B.pre
  have hown : s.vm.findClass RX1 = some m.cls := findClass_of_methodNamed B.named
  have hlocks := B.notSynchronized
  have hin : meth.name = "<init>" := (name_of_methodNamed B.named B.method).1
  have hsz : s.heap.size = sz := hsz
  subst hsz
  obtain ⟨A, hAe⟩ : ∃ A : Nat → Prop, A = fun q => q = a ∨ s.heap.size ≤ q := ⟨_, rfl⟩
  rw [← hAe] at hE ⊢
  have hA : ∀ q : Nat, s.heap.size ≤ q → A q := fun q h => by rw [hAe]; exact Or.inr h
  have hAa : A a := by rw [hAe]; exact Or.inl rfl
  have hS : va_S A s.heap s.heap [] := va_S.rf
  have hD : va_D A [(a, .inr (1, [.null, .null, .null, .null, .null, .null, .int 0, .int 0, .int 0, .int 0]))] := va_D1 hAa
  have hin1 : ∀ w ∈ wsX10, w ∈ wsX1_init := by decide +kernel
  have hin6 : ∀ w ∈ wsX60, w ∈ wsX1_init := by decide +kernel
  have hl := lv_entry ([.ref a]) (n := 3) (Nat.le_of_ble_eq_true rfl)
  rw [show entryFrame m args 3 = entryFrame m ([.ref a] : List Value).toArray 3 from by rw [hargs], lg_entry_eq]
  generalize (lg_sl ([.ref a]) ++ List.replicate (3 - (lg_sl ([.ref a])).length) Slot.unset).toArray = ls at hl ⊢
  have hl : lv_has ls 3 [(0, .ref a)] := hl
  have hP : va_P (dC, dI) vwCl [(a, .inr (1, [.null, .null, .null, .null, .null, .null, .int 0, .int 0, .int 0, .int 0]))] s.heap := hP
  refine lv_aload_n hx hb dX1_init_0 rfl (lv_at hl 0 rfl) ?_
  refine W.objInit hx hb hown (hts (.methodLink RX1 3 objectInit) (by decide +kernel)) (hts (.instanceMethod objectInit) (by decide +kernel)) (hts _ (List.mem_of_getElem? (i := 3) rfl)) rfl (by rw [hml]; exact hl.1) rfl dX1_init_1 (Nat.le_of_ble_eq_true rfl) (Nat.le_of_ble_eq_true rfl) ?_
  refine W.eq (g2 := F0 m 4 ls []) rfl ?_
  refine lv_aload_n hx hb dX1_init_4 rfl (lv_at hl 0 rfl) ?_
  refine lv_bipush (v := 6) hx hb dX1_init_5 (by decide) ?_
  refine va_newq (N' := 6) hx hb hown (hts (.classLink RX1 9 RX6) (by decide +kernel)) hO.2 hK hP hD hS hA (by decide) (by decide) (by decide) (Nat.le_of_ble_eq_true rfl) (Nat.le_of_ble_eq_true rfl) dX1_init_7 (fun q1 c2 H hK hP hD hS => ?_)
  have hK : va_K (dC, dI) vwCl [(c2, .object "OnlyTwo$Plain")] s := hK
  have hP : va_P (dC, dI) vwCl [(a, .inr (1, [.null, .null, .null, .null, .null, .null, .int 0, .int 0, .int 0, .int 0])), (q1, .inl (c2, 6, .inr (.inr (.inr (.inr (fun _ => none))))))] H := hP
  have hD : va_D A [(a, .inr (1, [.null, .null, .null, .null, .null, .null, .int 0, .int 0, .int 0, .int 0])), (q1, .inl (c2, 6, .inr (.inr (.inr (.inr (fun _ => none))))))] := hD
  refine W.widen (k := 1) (n := 6) (Nat.le_of_ble_eq_true rfl) (Nat.le_of_ble_eq_true rfl) ?_
  refine va_putF (D := (dC, dI)) (ci := 1) (v := .ref q1) (ty := .array (.object "OnlyTwo$Plain")) (C := RX1) (T := TX1) (N := 10) hx hb hts hin1 tyX1 tyX1_ok nmX1 hown hK hP hD hS 0 rfl rfl 0 (by decide) (hts (.fieldLink RX1 11 "OnlyTwo$Camp" "porters" "[LOnlyTwo$Plain;") (by decide +kernel)) (fun _ h9 => h9) rfl hin rfl (by decide +kernel) rfl rfl (Nat.le_of_ble_eq_true rfl) dX1_init_10 (fun H locs hP hD hS => ?_)
  have hP : va_P (dC, dI) vwCl [(a, .inr (1, [.ref q1, .null, .null, .null, .null, .null, .int 0, .int 0, .int 0, .int 0])), (q1, .inl (c2, 6, .inr (.inr (.inr (.inr (fun _ => none))))))] H := hP
  have hD : va_D A [(a, .inr (1, [.ref q1, .null, .null, .null, .null, .null, .int 0, .int 0, .int 0, .int 0])), (q1, .inl (c2, 6, .inr (.inr (.inr (.inr (fun _ => none))))))] := hD
  refine lv_aload_n hx hb dX1_init_13 rfl (lv_at hl 0 rfl) ?_
  refine lv_iconst (v := 4) hx hb dX1_init_14 (by decide) ?_
  refine va_newa (atype := .int) (ty := .int) (N' := 4) (a0 := (4, .inl (fun _ => 0))) hx hb (hts (.arrayClass .int) (by decide +kernel)) rfl hK hP hD hS hA (fun _ => rfl) (by decide) (by decide) (by decide) (Nat.le_of_ble_eq_true rfl) (Nat.le_of_ble_eq_true rfl) dX1_init_15 (fun q3 c4 H hK hP hD hS => ?_)
  have hK : va_K (dC, dI) vwCl [(c2, .object "OnlyTwo$Plain"), (c4, .int)] s := hK
  have hP : va_P (dC, dI) vwCl [(a, .inr (1, [.ref q1, .null, .null, .null, .null, .null, .int 0, .int 0, .int 0, .int 0])), (q1, .inl (c2, 6, .inr (.inr (.inr (.inr (fun _ => none)))))), (q3, .inl (c4, (4, .inl (fun _ => 0))))] H := hP
  have hD : va_D A [(a, .inr (1, [.ref q1, .null, .null, .null, .null, .null, .int 0, .int 0, .int 0, .int 0])), (q1, .inl (c2, 6, .inr (.inr (.inr (.inr (fun _ => none)))))), (q3, .inl (c4, (4, .inl (fun _ => 0))))] := hD
  refine W.widen (k := 2) (n := 10) (Nat.le_of_ble_eq_true rfl) (Nat.le_of_ble_eq_true rfl) ?_
  refine va_putF (D := (dC, dI)) (ci := 1) (v := .ref q3) (ty := .array .int) (C := RX1) (T := TX1) (N := 10) hx hb hts hin1 tyX1 tyX1_ok nmX1 hown hK hP hD hS 0 rfl rfl 1 (by decide) (hts (.fieldLink RX1 17 "OnlyTwo$Camp" "numbers" "[I") (by decide +kernel)) (fun _ h9 => h9) rfl hin rfl (by decide +kernel) rfl rfl (Nat.le_of_ble_eq_true rfl) dX1_init_17 (fun H locs hP hD hS => ?_)
  have hP : va_P (dC, dI) vwCl [(a, .inr (1, [.ref q1, .ref q3, .null, .null, .null, .null, .int 0, .int 0, .int 0, .int 0])), (q1, .inl (c2, 6, .inr (.inr (.inr (.inr (fun _ => none)))))), (q3, .inl (c4, (4, .inl (fun _ => 0))))] H := hP
  have hD : va_D A [(a, .inr (1, [.ref q1, .ref q3, .null, .null, .null, .null, .int 0, .int 0, .int 0, .int 0])), (q1, .inl (c2, 6, .inr (.inr (.inr (.inr (fun _ => none)))))), (q3, .inl (c4, (4, .inl (fun _ => 0))))] := hD
  refine lv_aload_n hx hb dX1_init_20 rfl (lv_at hl 0 rfl) ?_
  refine lv_bipush (v := 20) hx hb dX1_init_21 (by decide) ?_
  refine va_newa (atype := .int) (ty := .int) (N' := 20) (a0 := (20, .inl (fun _ => 0))) hx hb (hts (.arrayClass .int) (by decide +kernel)) rfl hK hP hD hS hA (fun _ => rfl) (by decide) (by decide) (by decide) (Nat.le_of_ble_eq_true rfl) (Nat.le_of_ble_eq_true rfl) dX1_init_23 (fun q5 c6 H hK hP hD hS => ?_)
  have hK : va_K (dC, dI) vwCl [(c2, .object "OnlyTwo$Plain"), (c4, .int), (c6, .int)] s := hK
  obtain rfl : c4 = c6 := (kEqI hK 1 2 rfl rfl).symm
  have hP : va_P (dC, dI) vwCl [(a, .inr (1, [.ref q1, .ref q3, .null, .null, .null, .null, .int 0, .int 0, .int 0, .int 0])), (q1, .inl (c2, 6, .inr (.inr (.inr (.inr (fun _ => none)))))), (q3, .inl (c4, (4, .inl (fun _ => 0)))), (q5, .inl (c4, (20, .inl (fun _ => 0))))] H := hP
  have hD : va_D A [(a, .inr (1, [.ref q1, .ref q3, .null, .null, .null, .null, .int 0, .int 0, .int 0, .int 0])), (q1, .inl (c2, 6, .inr (.inr (.inr (.inr (fun _ => none)))))), (q3, .inl (c4, (4, .inl (fun _ => 0)))), (q5, .inl (c4, (20, .inl (fun _ => 0))))] := hD
  refine W.widen (k := 3) (n := 30) (Nat.le_of_ble_eq_true rfl) (Nat.le_of_ble_eq_true rfl) ?_
  refine va_putF (D := (dC, dI)) (ci := 1) (v := .ref q5) (ty := .array .int) (C := RX1) (T := TX1) (N := 10) hx hb hts hin1 tyX1 tyX1_ok nmX1 hown hK hP hD hS 0 rfl rfl 2 (by decide) (hts (.fieldLink RX1 21 "OnlyTwo$Camp" "goMinutes" "[I") (by decide +kernel)) (fun _ h9 => h9) rfl hin rfl (by decide +kernel) rfl rfl (Nat.le_of_ble_eq_true rfl) dX1_init_25 (fun H locs hP hD hS => ?_)
  have hP : va_P (dC, dI) vwCl [(a, .inr (1, [.ref q1, .ref q3, .ref q5, .null, .null, .null, .int 0, .int 0, .int 0, .int 0])), (q1, .inl (c2, 6, .inr (.inr (.inr (.inr (fun _ => none)))))), (q3, .inl (c4, (4, .inl (fun _ => 0)))), (q5, .inl (c4, (20, .inl (fun _ => 0))))] H := hP
  have hD : va_D A [(a, .inr (1, [.ref q1, .ref q3, .ref q5, .null, .null, .null, .int 0, .int 0, .int 0, .int 0])), (q1, .inl (c2, 6, .inr (.inr (.inr (.inr (fun _ => none)))))), (q3, .inl (c4, (4, .inl (fun _ => 0)))), (q5, .inl (c4, (20, .inl (fun _ => 0))))] := hD
  refine lv_aload_n hx hb dX1_init_28 rfl (lv_at hl 0 rfl) ?_
  refine lv_bipush (v := 20) hx hb dX1_init_29 (by decide) ?_
  refine va_newa (atype := .int) (ty := .int) (N' := 20) (a0 := (20, .inl (fun _ => 0))) hx hb (hts (.arrayClass .int) (by decide +kernel)) rfl hK hP hD hS hA (fun _ => rfl) (by decide) (by decide) (by decide) (Nat.le_of_ble_eq_true rfl) (Nat.le_of_ble_eq_true rfl) dX1_init_31 (fun q7 c8 H hK hP hD hS => ?_)
  have hK : va_K (dC, dI) vwCl [(c2, .object "OnlyTwo$Plain"), (c4, .int), (c4, .int), (c8, .int)] s := hK
  obtain rfl : c4 = c8 := (kEqI hK 1 3 rfl rfl).symm
  have hP : va_P (dC, dI) vwCl [(a, .inr (1, [.ref q1, .ref q3, .ref q5, .null, .null, .null, .int 0, .int 0, .int 0, .int 0])), (q1, .inl (c2, 6, .inr (.inr (.inr (.inr (fun _ => none)))))), (q3, .inl (c4, (4, .inl (fun _ => 0)))), (q5, .inl (c4, (20, .inl (fun _ => 0)))), (q7, .inl (c4, (20, .inl (fun _ => 0))))] H := hP
  have hD : va_D A [(a, .inr (1, [.ref q1, .ref q3, .ref q5, .null, .null, .null, .int 0, .int 0, .int 0, .int 0])), (q1, .inl (c2, 6, .inr (.inr (.inr (.inr (fun _ => none)))))), (q3, .inl (c4, (4, .inl (fun _ => 0)))), (q5, .inl (c4, (20, .inl (fun _ => 0)))), (q7, .inl (c4, (20, .inl (fun _ => 0))))] := hD
  refine W.widen (k := 4) (n := 50) (Nat.le_of_ble_eq_true rfl) (Nat.le_of_ble_eq_true rfl) ?_
  refine va_putF (D := (dC, dI)) (ci := 1) (v := .ref q7) (ty := .array .int) (C := RX1) (T := TX1) (N := 10) hx hb hts hin1 tyX1 tyX1_ok nmX1 hown hK hP hD hS 0 rfl rfl 3 (by decide) (hts (.fieldLink RX1 24 "OnlyTwo$Camp" "goSets" "[I") (by decide +kernel)) (fun _ h9 => h9) rfl hin rfl (by decide +kernel) rfl rfl (Nat.le_of_ble_eq_true rfl) dX1_init_33 (fun H locs hP hD hS => ?_)
  have hP : va_P (dC, dI) vwCl [(a, .inr (1, [.ref q1, .ref q3, .ref q5, .ref q7, .null, .null, .int 0, .int 0, .int 0, .int 0])), (q1, .inl (c2, 6, .inr (.inr (.inr (.inr (fun _ => none)))))), (q3, .inl (c4, (4, .inl (fun _ => 0)))), (q5, .inl (c4, (20, .inl (fun _ => 0)))), (q7, .inl (c4, (20, .inl (fun _ => 0))))] H := hP
  have hD : va_D A [(a, .inr (1, [.ref q1, .ref q3, .ref q5, .ref q7, .null, .null, .int 0, .int 0, .int 0, .int 0])), (q1, .inl (c2, 6, .inr (.inr (.inr (.inr (fun _ => none)))))), (q3, .inl (c4, (4, .inl (fun _ => 0)))), (q5, .inl (c4, (20, .inl (fun _ => 0)))), (q7, .inl (c4, (20, .inl (fun _ => 0))))] := hD
  refine lv_aload_n hx hb dX1_init_36 rfl (lv_at hl 0 rfl) ?_
  refine lv_sipush (v := 200) hx hb dX1_init_37 (by decide) ?_
  refine va_newa (atype := .int) (ty := .int) (N' := 200) (a0 := (200, .inl (fun _ => 0))) hx hb (hts (.arrayClass .int) (by decide +kernel)) rfl hK hP hD hS hA (fun _ => rfl) (by decide) (by decide) (by decide) (Nat.le_of_ble_eq_true rfl) (Nat.le_of_ble_eq_true rfl) dX1_init_40 (fun q9 c10 H hK hP hD hS => ?_)
  have hK : va_K (dC, dI) vwCl [(c2, .object "OnlyTwo$Plain"), (c4, .int), (c4, .int), (c4, .int), (c10, .int)] s := hK
  obtain rfl : c4 = c10 := (kEqI hK 1 4 rfl rfl).symm
  have hP : va_P (dC, dI) vwCl [(a, .inr (1, [.ref q1, .ref q3, .ref q5, .ref q7, .null, .null, .int 0, .int 0, .int 0, .int 0])), (q1, .inl (c2, 6, .inr (.inr (.inr (.inr (fun _ => none)))))), (q3, .inl (c4, (4, .inl (fun _ => 0)))), (q5, .inl (c4, (20, .inl (fun _ => 0)))), (q7, .inl (c4, (20, .inl (fun _ => 0)))), (q9, .inl (c4, (200, .inl (fun _ => 0))))] H := hP
  have hD : va_D A [(a, .inr (1, [.ref q1, .ref q3, .ref q5, .ref q7, .null, .null, .int 0, .int 0, .int 0, .int 0])), (q1, .inl (c2, 6, .inr (.inr (.inr (.inr (fun _ => none)))))), (q3, .inl (c4, (4, .inl (fun _ => 0)))), (q5, .inl (c4, (20, .inl (fun _ => 0)))), (q7, .inl (c4, (20, .inl (fun _ => 0)))), (q9, .inl (c4, (200, .inl (fun _ => 0))))] := hD
  refine W.widen (k := 5) (n := 250) (Nat.le_of_ble_eq_true rfl) (Nat.le_of_ble_eq_true rfl) ?_
  refine va_putF (D := (dC, dI)) (ci := 1) (v := .ref q9) (ty := .array .int) (C := RX1) (T := TX1) (N := 10) hx hb hts hin1 tyX1 tyX1_ok nmX1 hown hK hP hD hS 0 rfl rfl 4 (by decide) (hts (.fieldLink RX1 27 "OnlyTwo$Camp" "text" "[I") (by decide +kernel)) (fun _ h9 => h9) rfl hin rfl (by decide +kernel) rfl rfl (Nat.le_of_ble_eq_true rfl) dX1_init_42 (fun H locs hP hD hS => ?_)
  have hP : va_P (dC, dI) vwCl [(a, .inr (1, [.ref q1, .ref q3, .ref q5, .ref q7, .ref q9, .null, .int 0, .int 0, .int 0, .int 0])), (q1, .inl (c2, 6, .inr (.inr (.inr (.inr (fun _ => none)))))), (q3, .inl (c4, (4, .inl (fun _ => 0)))), (q5, .inl (c4, (20, .inl (fun _ => 0)))), (q7, .inl (c4, (20, .inl (fun _ => 0)))), (q9, .inl (c4, (200, .inl (fun _ => 0))))] H := hP
  have hD : va_D A [(a, .inr (1, [.ref q1, .ref q3, .ref q5, .ref q7, .ref q9, .null, .int 0, .int 0, .int 0, .int 0])), (q1, .inl (c2, 6, .inr (.inr (.inr (.inr (fun _ => none)))))), (q3, .inl (c4, (4, .inl (fun _ => 0)))), (q5, .inl (c4, (20, .inl (fun _ => 0)))), (q7, .inl (c4, (20, .inl (fun _ => 0)))), (q9, .inl (c4, (200, .inl (fun _ => 0))))] := hD
  refine lv_aload_n hx hb dX1_init_45 rfl (lv_at hl 0 rfl) ?_
  refine lv_iconst (v := 5) hx hb dX1_init_46 (by decide) ?_
  refine va_newa (atype := .int) (ty := .int) (N' := 5) (a0 := (5, .inl (fun _ => 0))) hx hb (hts (.arrayClass .int) (by decide +kernel)) rfl hK hP hD hS hA (fun _ => rfl) (by decide) (by decide) (by decide) (Nat.le_of_ble_eq_true rfl) (Nat.le_of_ble_eq_true rfl) dX1_init_47 (fun q11 c12 H hK hP hD hS => ?_)
  have hK : va_K (dC, dI) vwCl [(c2, .object "OnlyTwo$Plain"), (c4, .int), (c4, .int), (c4, .int), (c4, .int), (c12, .int)] s := hK
  obtain rfl : c4 = c12 := (kEqI hK 1 5 rfl rfl).symm
  have hP : va_P (dC, dI) vwCl [(a, .inr (1, [.ref q1, .ref q3, .ref q5, .ref q7, .ref q9, .null, .int 0, .int 0, .int 0, .int 0])), (q1, .inl (c2, 6, .inr (.inr (.inr (.inr (fun _ => none)))))), (q3, .inl (c4, (4, .inl (fun _ => 0)))), (q5, .inl (c4, (20, .inl (fun _ => 0)))), (q7, .inl (c4, (20, .inl (fun _ => 0)))), (q9, .inl (c4, (200, .inl (fun _ => 0)))), (q11, .inl (c4, (5, .inl (fun _ => 0))))] H := hP
  have hD : va_D A [(a, .inr (1, [.ref q1, .ref q3, .ref q5, .ref q7, .ref q9, .null, .int 0, .int 0, .int 0, .int 0])), (q1, .inl (c2, 6, .inr (.inr (.inr (.inr (fun _ => none)))))), (q3, .inl (c4, (4, .inl (fun _ => 0)))), (q5, .inl (c4, (20, .inl (fun _ => 0)))), (q7, .inl (c4, (20, .inl (fun _ => 0)))), (q9, .inl (c4, (200, .inl (fun _ => 0)))), (q11, .inl (c4, (5, .inl (fun _ => 0))))] := hD
  refine W.widen (k := 6) (n := 255) (Nat.le_of_ble_eq_true rfl) (Nat.le_of_ble_eq_true rfl) ?_
  refine va_putF (D := (dC, dI)) (ci := 1) (v := .ref q11) (ty := .array .int) (C := RX1) (T := TX1) (N := 10) hx hb hts hin1 tyX1 tyX1_ok nmX1 hown hK hP hD hS 0 rfl rfl 5 (by decide) (hts (.fieldLink RX1 30 "OnlyTwo$Camp" "loads" "[I") (by decide +kernel)) (fun _ h9 => h9) rfl hin rfl (by decide +kernel) rfl rfl (Nat.le_of_ble_eq_true rfl) dX1_init_49 (fun H locs hP hD hS => ?_)
  have hP : va_P (dC, dI) vwCl [(a, .inr (1, [.ref q1, .ref q3, .ref q5, .ref q7, .ref q9, .ref q11, .int 0, .int 0, .int 0, .int 0])), (q1, .inl (c2, 6, .inr (.inr (.inr (.inr (fun _ => none)))))), (q3, .inl (c4, (4, .inl (fun _ => 0)))), (q5, .inl (c4, (20, .inl (fun _ => 0)))), (q7, .inl (c4, (20, .inl (fun _ => 0)))), (q9, .inl (c4, (200, .inl (fun _ => 0)))), (q11, .inl (c4, (5, .inl (fun _ => 0))))] H := hP
  have hD : va_D A [(a, .inr (1, [.ref q1, .ref q3, .ref q5, .ref q7, .ref q9, .ref q11, .int 0, .int 0, .int 0, .int 0])), (q1, .inl (c2, 6, .inr (.inr (.inr (.inr (fun _ => none)))))), (q3, .inl (c4, (4, .inl (fun _ => 0)))), (q5, .inl (c4, (20, .inl (fun _ => 0)))), (q7, .inl (c4, (20, .inl (fun _ => 0)))), (q9, .inl (c4, (200, .inl (fun _ => 0)))), (q11, .inl (c4, (5, .inl (fun _ => 0))))] := hD
  refine va_new (ci := 6) (fs := [.int 0, .int 0, .int 0, .int 0]) (C := RX6) (T := TX6) (N := 4) hx hb hts hin6 tyX6 tyX6_ok hown (hts (.classLink RX1 9 RX6) (by decide +kernel)) (hts (.instantiable RX6 4) (by decide +kernel)) (hts (.initialized RX6) (by decide +kernel)) hK hP hD hS hA rfl (fun j hj => by rcases (show j = 0 ∨ j = 1 ∨ j = 2 ∨ j = 3 by omega) with rfl | rfl | rfl | rfl <;> rfl) (Nat.le_of_ble_eq_true rfl) (Nat.le_of_ble_eq_true rfl) dX1_init_52 (fun q13 H hP hD hS => ?_)
  have hP : va_P (dC, dI) vwCl [(a, .inr (1, [.ref q1, .ref q3, .ref q5, .ref q7, .ref q9, .ref q11, .int 0, .int 0, .int 0, .int 0])), (q1, .inl (c2, 6, .inr (.inr (.inr (.inr (fun _ => none)))))), (q3, .inl (c4, (4, .inl (fun _ => 0)))), (q5, .inl (c4, (20, .inl (fun _ => 0)))), (q7, .inl (c4, (20, .inl (fun _ => 0)))), (q9, .inl (c4, (200, .inl (fun _ => 0)))), (q11, .inl (c4, (5, .inl (fun _ => 0)))), (q13, .inr (6, [.int 0, .int 0, .int 0, .int 0]))] H := hP
  have hD : va_D A [(a, .inr (1, [.ref q1, .ref q3, .ref q5, .ref q7, .ref q9, .ref q11, .int 0, .int 0, .int 0, .int 0])), (q1, .inl (c2, 6, .inr (.inr (.inr (.inr (fun _ => none)))))), (q3, .inl (c4, (4, .inl (fun _ => 0)))), (q5, .inl (c4, (20, .inl (fun _ => 0)))), (q7, .inl (c4, (20, .inl (fun _ => 0)))), (q9, .inl (c4, (200, .inl (fun _ => 0)))), (q11, .inl (c4, (5, .inl (fun _ => 0)))), (q13, .inr (6, [.int 0, .int 0, .int 0, .int 0]))] := hD
  refine W.widen (k := 7) (n := 259) (Nat.le_of_ble_eq_true rfl) (Nat.le_of_ble_eq_true rfl) ?_
  refine lv_dup hx hb dX1_init_55 rfl ?_
  refine lv_iconst (v := 1) hx hb dX1_init_56 (by decide) ?_
  refine lv_iconst (v := 1) hx hb dX1_init_57 (by decide) ?_
  refine lv_iconst (v := 0) hx hb dX1_init_58 (by decide) ?_
  refine lv_iconst (v := 0) hx hb dX1_init_59 (by decide) ?_
  have hPa : va_P (dC, dI) vwCl [(q13, .inr (6, [.int 0, .int 0, .int 0, .int 0]))] H := hP.by (fun _ => 7) (fun i x hx => by match i, hx with | 0, hx => cases hx; rfl)
  have hz0 : s.heap.size ≤ H.size := hS.1
  refine klI (rest := [.ref q13]) (As := [.int 1, .int 1, .int 0, .int 0]) ⟨hx, hb, hml, hown, hts⟩ (c_X6_init_6 l dC dI H.size q13 1 1 0 0) (cwI 4 hts gX1_init_X6_init rfl rfl rfl (hts (.initialized RX6) (by decide +kernel)) (hts (.methodLink RX1 33 yX6_init) (by decide +kernel)) (hts (.instanceMethod yX6_init) (by decide +kernel)) rfl (by decide +kernel) ⟨(Nat.le_of_ble_eq_true rfl), (Nat.le_of_ble_eq_true rfl)⟩) rfl hl.1 rfl (Nat.le_of_ble_eq_true rfl) dX1_init_60 ⟨(Nat.le_of_ble_eq_true rfl), (Nat.le_of_ble_eq_true rfl)⟩ (hK.sub [] rfl) hPa hS (hD.2 7 _ rfl) hA (fun H1 locs hP1 ho hS => ?_)
  obtain ⟨hP, hD⟩ := jnN (wr := [(a, .inr (1, [.ref q1, .ref q3, .ref q5, .ref q7, .ref q9, .ref q11, .int 0, .int 0, .int 0, .int 0])), (q1, .inl (c2, 6, .inr (.inr (.inr (.inr (fun _ => none)))))), (q3, .inl (c4, (4, .inl (fun _ => 0)))), (q5, .inl (c4, (20, .inl (fun _ => 0)))), (q7, .inl (c4, (20, .inl (fun _ => 0)))), (q9, .inl (c4, (200, .inl (fun _ => 0)))), (q11, .inl (c4, (5, .inl (fun _ => 0))))]) (w1 := [(q13, .inr (6, pdV (1, 1, 0, 0)))]) hP hD (q0 := 7) rfl [0, 1, 2, 3, 4, 5, 6] rfl (by decide) (by decide) (fun x h1 h2 => ho x h1 (fun h => h2 (Or.inl h))) (fun x hx => hx.elim (fun h => h ▸ hD.2 7 _ rfl) (fun h => hA x (Nat.le_trans hz0 h))) hP1 (va_D1 (Or.inl rfl))
  generalize H1 = H at hP hS ⊢
  have hP : va_P (dC, dI) vwCl [(a, .inr (1, [.ref q1, .ref q3, .ref q5, .ref q7, .ref q9, .ref q11, .int 0, .int 0, .int 0, .int 0])), (q1, .inl (c2, 6, .inr (.inr (.inr (.inr (fun _ => none)))))), (q3, .inl (c4, (4, .inl (fun _ => 0)))), (q5, .inl (c4, (20, .inl (fun _ => 0)))), (q7, .inl (c4, (20, .inl (fun _ => 0)))), (q9, .inl (c4, (200, .inl (fun _ => 0)))), (q11, .inl (c4, (5, .inl (fun _ => 0)))), (q13, .inr (6, [.int 1, .int 1, .int 0, .int 0]))] H := hP
  have hD : va_D A [(a, .inr (1, [.ref q1, .ref q3, .ref q5, .ref q7, .ref q9, .ref q11, .int 0, .int 0, .int 0, .int 0])), (q1, .inl (c2, 6, .inr (.inr (.inr (.inr (fun _ => none)))))), (q3, .inl (c4, (4, .inl (fun _ => 0)))), (q5, .inl (c4, (20, .inl (fun _ => 0)))), (q7, .inl (c4, (20, .inl (fun _ => 0)))), (q9, .inl (c4, (200, .inl (fun _ => 0)))), (q11, .inl (c4, (5, .inl (fun _ => 0)))), (q13, .inr (6, [.int 1, .int 1, .int 0, .int 0]))] := hD
  refine lv_astore_n (lv' := [(1, .ref q13), (0, .ref a)]) hx hb dX1_init_63 rfl hl (by decide) rfl (fun ls hl => ?_)
  refine lv_iconst (v := 0) hx hb dX1_init_64 (by decide) ?_
  refine lv_istore_n (lv' := [(2, .int 0), (1, .ref q13), (0, .ref a)]) hx hb dX1_init_65 rfl hl (by decide) rfl (fun ls hl => ?_)
  refine lv_iload_n hx hb dX1_init_66 rfl (lv_at hl 0 rfl) ?_
  refine lv_bipush (v := 6) hx hb dX1_init_67 (by decide) ?_
  refine lv_icmp_ge (tgt := 85) hx hb dX1_init_69 (by decide) (fun c9 => absurd c9 (by decide)) (fun _ => ?_)
  refine lv_aload_n hx hb dX1_init_72 rfl (lv_at hl 2 rfl) ?_
  refine va_get (D := (dC, dI)) (ci := 1) (v := .ref q1) (C := RX1) (T := TX1) (N := 10) hx hb hts hin1 hown hK hP 0 rfl rfl 0 (by decide) (hts (.fieldLink RX1 11 "OnlyTwo$Camp" "porters" "[LOnlyTwo$Plain;") (by decide +kernel)) (fun _ h9 => h9) rfl dX1_init_73 ?_
  refine lv_iload_n hx hb dX1_init_76 rfl (lv_at hl 0 rfl) ?_
  refine lv_aload_n hx hb dX1_init_77 rfl (lv_at hl 1 rfl) ?_
  refine va_astq (r := (RX6, TX6, 4)) hx hb hK hP hD hS 1 0 7 6 rfl rfl rfl rfl (show vp_in 0 6 from by unfold vp_in; decide) dX1_init_78 (fun H locs hP hD hS => ?_)
  have hP : va_P (dC, dI) vwCl [(a, .inr (1, [.ref q1, .ref q3, .ref q5, .ref q7, .ref q9, .ref q11, .int 0, .int 0, .int 0, .int 0])), (q1, .inl (c2, 6, .inr (.inr (.inr (.inr (va_up (fun _ => none) (0 : Int32).toNatClampNeg (some q13))))))), (q3, .inl (c4, (4, .inl (fun _ => 0)))), (q5, .inl (c4, (20, .inl (fun _ => 0)))), (q7, .inl (c4, (20, .inl (fun _ => 0)))), (q9, .inl (c4, (200, .inl (fun _ => 0)))), (q11, .inl (c4, (5, .inl (fun _ => 0)))), (q13, .inr (6, [.int 1, .int 1, .int 0, .int 0]))] H := hP
  have hD : va_D A [(a, .inr (1, [.ref q1, .ref q3, .ref q5, .ref q7, .ref q9, .ref q11, .int 0, .int 0, .int 0, .int 0])), (q1, .inl (c2, 6, .inr (.inr (.inr (.inr (va_up (fun _ => none) (0 : Int32).toNatClampNeg (some q13))))))), (q3, .inl (c4, (4, .inl (fun _ => 0)))), (q5, .inl (c4, (20, .inl (fun _ => 0)))), (q7, .inl (c4, (20, .inl (fun _ => 0)))), (q9, .inl (c4, (200, .inl (fun _ => 0)))), (q11, .inl (c4, (5, .inl (fun _ => 0)))), (q13, .inr (6, [.int 1, .int 1, .int 0, .int 0]))] := hD
  refine lv_iinc (v := 1) (lv' := [(2, .int 1), (1, .ref q13), (0, .ref a)]) hx hb dX1_init_79 hl (k := 0) rfl (by decide) (by decide) rfl (fun ls hl => ?_)
  refine lv_goto (tgt := 66) hx hb dX1_init_82 (by decide) ?_
  refine lv_iload_n hx hb dX1_init_66 rfl (lv_at hl 0 rfl) ?_
  refine lv_bipush (v := 6) hx hb dX1_init_67 (by decide) ?_
  refine lv_icmp_ge (tgt := 85) hx hb dX1_init_69 (by decide) (fun c9 => absurd c9 (by decide)) (fun _ => ?_)
  refine lv_aload_n hx hb dX1_init_72 rfl (lv_at hl 2 rfl) ?_
  refine va_get (D := (dC, dI)) (ci := 1) (v := .ref q1) (C := RX1) (T := TX1) (N := 10) hx hb hts hin1 hown hK hP 0 rfl rfl 0 (by decide) (hts (.fieldLink RX1 11 "OnlyTwo$Camp" "porters" "[LOnlyTwo$Plain;") (by decide +kernel)) (fun _ h9 => h9) rfl dX1_init_73 ?_
  refine lv_iload_n hx hb dX1_init_76 rfl (lv_at hl 0 rfl) ?_
  refine lv_aload_n hx hb dX1_init_77 rfl (lv_at hl 1 rfl) ?_
  refine va_astq (r := (RX6, TX6, 4)) hx hb hK hP hD hS 1 0 7 6 rfl rfl rfl rfl (show vp_in 1 6 from by unfold vp_in; decide) dX1_init_78 (fun H locs hP hD hS => ?_)
  have hP : va_P (dC, dI) vwCl [(a, .inr (1, [.ref q1, .ref q3, .ref q5, .ref q7, .ref q9, .ref q11, .int 0, .int 0, .int 0, .int 0])), (q1, .inl (c2, 6, .inr (.inr (.inr (.inr (va_up (va_up (fun _ => none) (0 : Int32).toNatClampNeg (some q13)) (1 : Int32).toNatClampNeg (some q13))))))), (q3, .inl (c4, (4, .inl (fun _ => 0)))), (q5, .inl (c4, (20, .inl (fun _ => 0)))), (q7, .inl (c4, (20, .inl (fun _ => 0)))), (q9, .inl (c4, (200, .inl (fun _ => 0)))), (q11, .inl (c4, (5, .inl (fun _ => 0)))), (q13, .inr (6, [.int 1, .int 1, .int 0, .int 0]))] H := hP
  have hD : va_D A [(a, .inr (1, [.ref q1, .ref q3, .ref q5, .ref q7, .ref q9, .ref q11, .int 0, .int 0, .int 0, .int 0])), (q1, .inl (c2, 6, .inr (.inr (.inr (.inr (va_up (va_up (fun _ => none) (0 : Int32).toNatClampNeg (some q13)) (1 : Int32).toNatClampNeg (some q13))))))), (q3, .inl (c4, (4, .inl (fun _ => 0)))), (q5, .inl (c4, (20, .inl (fun _ => 0)))), (q7, .inl (c4, (20, .inl (fun _ => 0)))), (q9, .inl (c4, (200, .inl (fun _ => 0)))), (q11, .inl (c4, (5, .inl (fun _ => 0)))), (q13, .inr (6, [.int 1, .int 1, .int 0, .int 0]))] := hD
  refine lv_iinc (v := 2) (lv' := [(2, .int 2), (1, .ref q13), (0, .ref a)]) hx hb dX1_init_79 hl (k := 0) rfl (by decide) (by decide) rfl (fun ls hl => ?_)
  refine lv_goto (tgt := 66) hx hb dX1_init_82 (by decide) ?_
  refine lv_iload_n hx hb dX1_init_66 rfl (lv_at hl 0 rfl) ?_
  refine lv_bipush (v := 6) hx hb dX1_init_67 (by decide) ?_
  refine lv_icmp_ge (tgt := 85) hx hb dX1_init_69 (by decide) (fun c9 => absurd c9 (by decide)) (fun _ => ?_)
  refine lv_aload_n hx hb dX1_init_72 rfl (lv_at hl 2 rfl) ?_
  refine va_get (D := (dC, dI)) (ci := 1) (v := .ref q1) (C := RX1) (T := TX1) (N := 10) hx hb hts hin1 hown hK hP 0 rfl rfl 0 (by decide) (hts (.fieldLink RX1 11 "OnlyTwo$Camp" "porters" "[LOnlyTwo$Plain;") (by decide +kernel)) (fun _ h9 => h9) rfl dX1_init_73 ?_
  refine lv_iload_n hx hb dX1_init_76 rfl (lv_at hl 0 rfl) ?_
  refine lv_aload_n hx hb dX1_init_77 rfl (lv_at hl 1 rfl) ?_
  refine va_astq (r := (RX6, TX6, 4)) hx hb hK hP hD hS 1 0 7 6 rfl rfl rfl rfl (show vp_in 2 6 from by unfold vp_in; decide) dX1_init_78 (fun H locs hP hD hS => ?_)
  have hP : va_P (dC, dI) vwCl [(a, .inr (1, [.ref q1, .ref q3, .ref q5, .ref q7, .ref q9, .ref q11, .int 0, .int 0, .int 0, .int 0])), (q1, .inl (c2, 6, .inr (.inr (.inr (.inr (va_up (va_up (va_up (fun _ => none) (0 : Int32).toNatClampNeg (some q13)) (1 : Int32).toNatClampNeg (some q13)) (2 : Int32).toNatClampNeg (some q13))))))), (q3, .inl (c4, (4, .inl (fun _ => 0)))), (q5, .inl (c4, (20, .inl (fun _ => 0)))), (q7, .inl (c4, (20, .inl (fun _ => 0)))), (q9, .inl (c4, (200, .inl (fun _ => 0)))), (q11, .inl (c4, (5, .inl (fun _ => 0)))), (q13, .inr (6, [.int 1, .int 1, .int 0, .int 0]))] H := hP
  have hD : va_D A [(a, .inr (1, [.ref q1, .ref q3, .ref q5, .ref q7, .ref q9, .ref q11, .int 0, .int 0, .int 0, .int 0])), (q1, .inl (c2, 6, .inr (.inr (.inr (.inr (va_up (va_up (va_up (fun _ => none) (0 : Int32).toNatClampNeg (some q13)) (1 : Int32).toNatClampNeg (some q13)) (2 : Int32).toNatClampNeg (some q13))))))), (q3, .inl (c4, (4, .inl (fun _ => 0)))), (q5, .inl (c4, (20, .inl (fun _ => 0)))), (q7, .inl (c4, (20, .inl (fun _ => 0)))), (q9, .inl (c4, (200, .inl (fun _ => 0)))), (q11, .inl (c4, (5, .inl (fun _ => 0)))), (q13, .inr (6, [.int 1, .int 1, .int 0, .int 0]))] := hD
  refine lv_iinc (v := 3) (lv' := [(2, .int 3), (1, .ref q13), (0, .ref a)]) hx hb dX1_init_79 hl (k := 0) rfl (by decide) (by decide) rfl (fun ls hl => ?_)
  refine lv_goto (tgt := 66) hx hb dX1_init_82 (by decide) ?_
  refine lv_iload_n hx hb dX1_init_66 rfl (lv_at hl 0 rfl) ?_
  refine lv_bipush (v := 6) hx hb dX1_init_67 (by decide) ?_
  refine lv_icmp_ge (tgt := 85) hx hb dX1_init_69 (by decide) (fun c9 => absurd c9 (by decide)) (fun _ => ?_)
  refine lv_aload_n hx hb dX1_init_72 rfl (lv_at hl 2 rfl) ?_
  refine va_get (D := (dC, dI)) (ci := 1) (v := .ref q1) (C := RX1) (T := TX1) (N := 10) hx hb hts hin1 hown hK hP 0 rfl rfl 0 (by decide) (hts (.fieldLink RX1 11 "OnlyTwo$Camp" "porters" "[LOnlyTwo$Plain;") (by decide +kernel)) (fun _ h9 => h9) rfl dX1_init_73 ?_
  refine lv_iload_n hx hb dX1_init_76 rfl (lv_at hl 0 rfl) ?_
  refine lv_aload_n hx hb dX1_init_77 rfl (lv_at hl 1 rfl) ?_
  refine va_astq (r := (RX6, TX6, 4)) hx hb hK hP hD hS 1 0 7 6 rfl rfl rfl rfl (show vp_in 3 6 from by unfold vp_in; decide) dX1_init_78 (fun H locs hP hD hS => ?_)
  have hP : va_P (dC, dI) vwCl [(a, .inr (1, [.ref q1, .ref q3, .ref q5, .ref q7, .ref q9, .ref q11, .int 0, .int 0, .int 0, .int 0])), (q1, .inl (c2, 6, .inr (.inr (.inr (.inr (va_up (va_up (va_up (va_up (fun _ => none) (0 : Int32).toNatClampNeg (some q13)) (1 : Int32).toNatClampNeg (some q13)) (2 : Int32).toNatClampNeg (some q13)) (3 : Int32).toNatClampNeg (some q13))))))), (q3, .inl (c4, (4, .inl (fun _ => 0)))), (q5, .inl (c4, (20, .inl (fun _ => 0)))), (q7, .inl (c4, (20, .inl (fun _ => 0)))), (q9, .inl (c4, (200, .inl (fun _ => 0)))), (q11, .inl (c4, (5, .inl (fun _ => 0)))), (q13, .inr (6, [.int 1, .int 1, .int 0, .int 0]))] H := hP
  have hD : va_D A [(a, .inr (1, [.ref q1, .ref q3, .ref q5, .ref q7, .ref q9, .ref q11, .int 0, .int 0, .int 0, .int 0])), (q1, .inl (c2, 6, .inr (.inr (.inr (.inr (va_up (va_up (va_up (va_up (fun _ => none) (0 : Int32).toNatClampNeg (some q13)) (1 : Int32).toNatClampNeg (some q13)) (2 : Int32).toNatClampNeg (some q13)) (3 : Int32).toNatClampNeg (some q13))))))), (q3, .inl (c4, (4, .inl (fun _ => 0)))), (q5, .inl (c4, (20, .inl (fun _ => 0)))), (q7, .inl (c4, (20, .inl (fun _ => 0)))), (q9, .inl (c4, (200, .inl (fun _ => 0)))), (q11, .inl (c4, (5, .inl (fun _ => 0)))), (q13, .inr (6, [.int 1, .int 1, .int 0, .int 0]))] := hD
  refine lv_iinc (v := 4) (lv' := [(2, .int 4), (1, .ref q13), (0, .ref a)]) hx hb dX1_init_79 hl (k := 0) rfl (by decide) (by decide) rfl (fun ls hl => ?_)
  refine lv_goto (tgt := 66) hx hb dX1_init_82 (by decide) ?_
  refine lv_iload_n hx hb dX1_init_66 rfl (lv_at hl 0 rfl) ?_
  refine lv_bipush (v := 6) hx hb dX1_init_67 (by decide) ?_
  refine lv_icmp_ge (tgt := 85) hx hb dX1_init_69 (by decide) (fun c9 => absurd c9 (by decide)) (fun _ => ?_)
  refine lv_aload_n hx hb dX1_init_72 rfl (lv_at hl 2 rfl) ?_
  refine va_get (D := (dC, dI)) (ci := 1) (v := .ref q1) (C := RX1) (T := TX1) (N := 10) hx hb hts hin1 hown hK hP 0 rfl rfl 0 (by decide) (hts (.fieldLink RX1 11 "OnlyTwo$Camp" "porters" "[LOnlyTwo$Plain;") (by decide +kernel)) (fun _ h9 => h9) rfl dX1_init_73 ?_
  refine lv_iload_n hx hb dX1_init_76 rfl (lv_at hl 0 rfl) ?_
  refine lv_aload_n hx hb dX1_init_77 rfl (lv_at hl 1 rfl) ?_
  refine va_astq (r := (RX6, TX6, 4)) hx hb hK hP hD hS 1 0 7 6 rfl rfl rfl rfl (show vp_in 4 6 from by unfold vp_in; decide) dX1_init_78 (fun H locs hP hD hS => ?_)
  have hP : va_P (dC, dI) vwCl [(a, .inr (1, [.ref q1, .ref q3, .ref q5, .ref q7, .ref q9, .ref q11, .int 0, .int 0, .int 0, .int 0])), (q1, .inl (c2, 6, .inr (.inr (.inr (.inr (va_up (va_up (va_up (va_up (va_up (fun _ => none) (0 : Int32).toNatClampNeg (some q13)) (1 : Int32).toNatClampNeg (some q13)) (2 : Int32).toNatClampNeg (some q13)) (3 : Int32).toNatClampNeg (some q13)) (4 : Int32).toNatClampNeg (some q13))))))), (q3, .inl (c4, (4, .inl (fun _ => 0)))), (q5, .inl (c4, (20, .inl (fun _ => 0)))), (q7, .inl (c4, (20, .inl (fun _ => 0)))), (q9, .inl (c4, (200, .inl (fun _ => 0)))), (q11, .inl (c4, (5, .inl (fun _ => 0)))), (q13, .inr (6, [.int 1, .int 1, .int 0, .int 0]))] H := hP
  have hD : va_D A [(a, .inr (1, [.ref q1, .ref q3, .ref q5, .ref q7, .ref q9, .ref q11, .int 0, .int 0, .int 0, .int 0])), (q1, .inl (c2, 6, .inr (.inr (.inr (.inr (va_up (va_up (va_up (va_up (va_up (fun _ => none) (0 : Int32).toNatClampNeg (some q13)) (1 : Int32).toNatClampNeg (some q13)) (2 : Int32).toNatClampNeg (some q13)) (3 : Int32).toNatClampNeg (some q13)) (4 : Int32).toNatClampNeg (some q13))))))), (q3, .inl (c4, (4, .inl (fun _ => 0)))), (q5, .inl (c4, (20, .inl (fun _ => 0)))), (q7, .inl (c4, (20, .inl (fun _ => 0)))), (q9, .inl (c4, (200, .inl (fun _ => 0)))), (q11, .inl (c4, (5, .inl (fun _ => 0)))), (q13, .inr (6, [.int 1, .int 1, .int 0, .int 0]))] := hD
  refine lv_iinc (v := 5) (lv' := [(2, .int 5), (1, .ref q13), (0, .ref a)]) hx hb dX1_init_79 hl (k := 0) rfl (by decide) (by decide) rfl (fun ls hl => ?_)
  refine lv_goto (tgt := 66) hx hb dX1_init_82 (by decide) ?_
  refine lv_iload_n hx hb dX1_init_66 rfl (lv_at hl 0 rfl) ?_
  refine lv_bipush (v := 6) hx hb dX1_init_67 (by decide) ?_
  refine lv_icmp_ge (tgt := 85) hx hb dX1_init_69 (by decide) (fun c9 => absurd c9 (by decide)) (fun _ => ?_)
  refine lv_aload_n hx hb dX1_init_72 rfl (lv_at hl 2 rfl) ?_
  refine va_get (D := (dC, dI)) (ci := 1) (v := .ref q1) (C := RX1) (T := TX1) (N := 10) hx hb hts hin1 hown hK hP 0 rfl rfl 0 (by decide) (hts (.fieldLink RX1 11 "OnlyTwo$Camp" "porters" "[LOnlyTwo$Plain;") (by decide +kernel)) (fun _ h9 => h9) rfl dX1_init_73 ?_
  refine lv_iload_n hx hb dX1_init_76 rfl (lv_at hl 0 rfl) ?_
  refine lv_aload_n hx hb dX1_init_77 rfl (lv_at hl 1 rfl) ?_
  refine va_astq (r := (RX6, TX6, 4)) hx hb hK hP hD hS 1 0 7 6 rfl rfl rfl rfl (show vp_in 5 6 from by unfold vp_in; decide) dX1_init_78 (fun H locs hP hD hS => ?_)
  have hP : va_P (dC, dI) vwCl [(a, .inr (1, [.ref q1, .ref q3, .ref q5, .ref q7, .ref q9, .ref q11, .int 0, .int 0, .int 0, .int 0])), (q1, .inl (c2, 6, .inr (.inr (.inr (.inr (va_up (va_up (va_up (va_up (va_up (va_up (fun _ => none) (0 : Int32).toNatClampNeg (some q13)) (1 : Int32).toNatClampNeg (some q13)) (2 : Int32).toNatClampNeg (some q13)) (3 : Int32).toNatClampNeg (some q13)) (4 : Int32).toNatClampNeg (some q13)) (5 : Int32).toNatClampNeg (some q13))))))), (q3, .inl (c4, (4, .inl (fun _ => 0)))), (q5, .inl (c4, (20, .inl (fun _ => 0)))), (q7, .inl (c4, (20, .inl (fun _ => 0)))), (q9, .inl (c4, (200, .inl (fun _ => 0)))), (q11, .inl (c4, (5, .inl (fun _ => 0)))), (q13, .inr (6, [.int 1, .int 1, .int 0, .int 0]))] H := hP
  have hD : va_D A [(a, .inr (1, [.ref q1, .ref q3, .ref q5, .ref q7, .ref q9, .ref q11, .int 0, .int 0, .int 0, .int 0])), (q1, .inl (c2, 6, .inr (.inr (.inr (.inr (va_up (va_up (va_up (va_up (va_up (va_up (fun _ => none) (0 : Int32).toNatClampNeg (some q13)) (1 : Int32).toNatClampNeg (some q13)) (2 : Int32).toNatClampNeg (some q13)) (3 : Int32).toNatClampNeg (some q13)) (4 : Int32).toNatClampNeg (some q13)) (5 : Int32).toNatClampNeg (some q13))))))), (q3, .inl (c4, (4, .inl (fun _ => 0)))), (q5, .inl (c4, (20, .inl (fun _ => 0)))), (q7, .inl (c4, (20, .inl (fun _ => 0)))), (q9, .inl (c4, (200, .inl (fun _ => 0)))), (q11, .inl (c4, (5, .inl (fun _ => 0)))), (q13, .inr (6, [.int 1, .int 1, .int 0, .int 0]))] := hD
  refine lv_iinc (v := 6) (lv' := [(2, .int 6), (1, .ref q13), (0, .ref a)]) hx hb dX1_init_79 hl (k := 0) rfl (by decide) (by decide) rfl (fun ls hl => ?_)
  refine lv_goto (tgt := 66) hx hb dX1_init_82 (by decide) ?_
  refine lv_iload_n hx hb dX1_init_66 rfl (lv_at hl 0 rfl) ?_
  refine lv_bipush (v := 6) hx hb dX1_init_67 (by decide) ?_
  refine lv_icmp_ge (tgt := 85) hx hb dX1_init_69 (by decide) (fun _ => ?_) (fun c9 => absurd (by decide) c9)
  refine va_getsN hx hb hE.2.2.2.1.1 hS hown (va_Nw.use rfl (hE.1.2.1 ("OnlyTwo$Camp", 36, "OnlyTwo", "AT_FIRST", "[I", "OnlyTwo") (by decide +kernel))) (fun _ h9 => h9) dX1_init_85 ?_
  refine lv_iconst (v := 0) hx hb dX1_init_88 (by decide) ?_
  refine lv_aload_n hx hb dX1_init_89 rfl (lv_at hl 2 rfl) ?_
  refine va_get (D := (dC, dI)) (ci := 1) (v := .ref q3) (C := RX1) (T := TX1) (N := 10) hx hb hts hin1 hown hK hP 0 rfl rfl 1 (by decide) (hts (.fieldLink RX1 17 "OnlyTwo$Camp" "numbers" "[I") (by decide +kernel)) (fun _ h9 => h9) rfl dX1_init_90 ?_
  refine lv_iconst (v := 0) hx hb dX1_init_93 (by decide) ?_
  refine lv_iconst (v := 4) hx hb dX1_init_94 (by decide) ?_
  refine cpSt hx hb (by rw [hml]; exact hl.1.symm) hown (hts (.methodLink RX1 39 arraycopyName) (by decide +kernel)) (hts (.native arraycopyName) (by decide +kernel)) (hts (.static arraycopyName) (by decide +kernel)) (hts (.initialized "java/lang/System") (by decide +kernel)) hK hP hD hS hE.2.2.2.1.2 2 1 rfl rfl (by decide) (by decide) (by decide) (by decide) (by decide) (Nat.le_of_ble_eq_true rfl) (by decide +kernel) dX1_init_95 (fun H locs hP hD hS => ?_)
  have hP : va_P (dC, dI) vwCl [(a, .inr (1, [.ref q1, .ref q3, .ref q5, .ref q7, .ref q9, .ref q11, .int 0, .int 0, .int 0, .int 0])), (q1, .inl (c2, 6, .inr (.inr (.inr (.inr (va_up (va_up (va_up (va_up (va_up (va_up (fun _ => none) (0 : Int32).toNatClampNeg (some q13)) (1 : Int32).toNatClampNeg (some q13)) (2 : Int32).toNatClampNeg (some q13)) (3 : Int32).toNatClampNeg (some q13)) (4 : Int32).toNatClampNeg (some q13)) (5 : Int32).toNatClampNeg (some q13))))))), (q3, .inl (c4, (4, .inl (va_cpy (ssI 2) (fun _ => 0) 0 0 4)))), (q5, .inl (c4, (20, .inl (fun _ => 0)))), (q7, .inl (c4, (20, .inl (fun _ => 0)))), (q9, .inl (c4, (200, .inl (fun _ => 0)))), (q11, .inl (c4, (5, .inl (fun _ => 0)))), (q13, .inr (6, [.int 1, .int 1, .int 0, .int 0]))] H := hP
  have hD : va_D A [(a, .inr (1, [.ref q1, .ref q3, .ref q5, .ref q7, .ref q9, .ref q11, .int 0, .int 0, .int 0, .int 0])), (q1, .inl (c2, 6, .inr (.inr (.inr (.inr (va_up (va_up (va_up (va_up (va_up (va_up (fun _ => none) (0 : Int32).toNatClampNeg (some q13)) (1 : Int32).toNatClampNeg (some q13)) (2 : Int32).toNatClampNeg (some q13)) (3 : Int32).toNatClampNeg (some q13)) (4 : Int32).toNatClampNeg (some q13)) (5 : Int32).toNatClampNeg (some q13))))))), (q3, .inl (c4, (4, .inl (va_cpy (ssI 2) (fun _ => 0) 0 0 4)))), (q5, .inl (c4, (20, .inl (fun _ => 0)))), (q7, .inl (c4, (20, .inl (fun _ => 0)))), (q9, .inl (c4, (200, .inl (fun _ => 0)))), (q11, .inl (c4, (5, .inl (fun _ => 0)))), (q13, .inr (6, [.int 1, .int 1, .int 0, .int 0]))] := hD
  have hP : va_P (dC, dI) vwCl (nwCa c4 c2 (fun k => ([a, q1, q3, q5, q7, q9, q11, q13] : List Nat).getD k 0) (va_up (va_up (va_up (va_up (va_up (va_up (fun _ => none) (0 : Int32).toNatClampNeg (some q13)) (1 : Int32).toNatClampNeg (some q13)) (2 : Int32).toNatClampNeg (some q13)) (3 : Int32).toNatClampNeg (some q13)) (4 : Int32).toNatClampNeg (some q13)) (5 : Int32).toNatClampNeg (some q13))) H := hP
  have hD : va_D A (nwCa c4 c2 (fun k => ([a, q1, q3, q5, q7, q9, q11, q13] : List Nat).getD k 0) (va_up (va_up (va_up (va_up (va_up (va_up (fun _ => none) (0 : Int32).toNatClampNeg (some q13)) (1 : Int32).toNatClampNeg (some q13)) (2 : Int32).toNatClampNeg (some q13)) (3 : Int32).toNatClampNeg (some q13)) (4 : Int32).toNatClampNeg (some q13)) (5 : Int32).toNatClampNeg (some q13))) := hD
  have hK := hK.sub (tys' := [(c4, .int), (c2, .object "OnlyTwo$Plain")]) [1, 0] rfl
  exact rtN hx hb hr hlocks (fun U hU hW => ⟨(fun k => ([a, q1, q3, q5, q7, q9, q11, q13] : List Nat).getD k 0), c4, c2, va_up (va_up (va_up (va_up (va_up (va_up (fun _ => none) (0 : Int32).toNatClampNeg (some q13)) (1 : Int32).toNatClampNeg (some q13)) (2 : Int32).toNatClampNeg (some q13)) (3 : Int32).toNatClampNeg (some q13)) (4 : Int32).toNatClampNeg (some q13)) (5 : Int32).toNatClampNeg (some q13), rfl, (fun j hj => by rcases (show j = 0 ∨ j = 1 ∨ j = 2 ∨ j = 3 ∨ j = 4 ∨ j = 5 by omega) with rfl | rfl | rfl | rfl | rfl | rfl <;> rfl), by rw [hU]; exact hP, hD, va_K.moved hW.alike hK⟩) hS dX1_init_98

