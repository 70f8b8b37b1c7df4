def nwL (tI : ClassId) (k : Nat → Nat) : va_W := [(k 0, .inr (5, [.int 0, .int 0, .ref (k 1), .ref (k 2), .ref (k 3), .ref (k 4), .ref (k 5), .int 0, .int 0])), (k 1, .inl (tI, (5, .inl (fun _ => 0)))), (k 2, .inl (tI, (5, .inl (fun _ => 0)))), (k 3, .inl (tI, (6, .inl (fun _ => 0)))), (k 4, .inl (tI, (21, .inl (fun _ => 0)))), (k 5, .inl (tI, (21, .inl (fun _ => 0))))]
def rmX5_init : Room := { frames := 1, cells := 5, slots := 58, locals := 12 }
set_option maxHeartbeats 8000000 in
set_option maxRecDepth 100000 in
theorem c_X5_init (l : Launch) (dC : Nat → ClassId) (dI : Nat → Nat → Nat) (ts aK aV : Nat → Nat) (sz a : Nat) : cN l yX5_init wsX5_init rmX5_init dC dI ts aK aV sz 5 a [.int 0, .int 0, .null, .null, .null, .null, .null, .int 0, .int 0] (fun A U => ∃ (k : Nat → Nat) (tI : ClassId) , k 0 = a ∧ va_P (dC, dI) vwCl (nwL tI k) U.heap ∧ va_D A (nwL tI k) ∧ va_K (dC, dI) vwCl [(tI, .int)] U) := by
  refine Met.ofW (cc := cX5_init) (maxL := 1) (ret := none) (by decide) rfl ?_
  intro p e s m args below meth c s₁ B hml hv
  obtain ⟨hargs, hsz, hE, hO, hP, hK⟩ := hv
  have hx := B.exec
  have hb := B.bytes
  have hr := B.returns
  have hts := atoms_spec (ws := wsX5_init) B.pre
  have hown : s.vm.findClass RX5 = some m.cls := findClass_of_methodNamed B.named
  have hlocks := B.notSynchronized
  have hin : meth.name = "<init>" := (name_of_methodNamed B.named B.method).1
  have hsz : s.heap.size = sz := hsz
  subst hsz
  obtain ⟨A, hAe⟩ : ∃ A : Nat → Prop, A = fun q => q = a ∨ s.heap.size ≤ q := ⟨_, rfl⟩
  rw [← hAe] at hE ⊢
  have hA : ∀ q : Nat, s.heap.size ≤ q → A q := fun q h => by rw [hAe]; exact Or.inr h
  have hAa : A a := by rw [hAe]; exact Or.inl rfl
  have hS : va_S A s.heap s.heap [] := va_S.rf
  have hD : va_D A [(a, .inr (5, [.int 0, .int 0, .null, .null, .null, .null, .null, .int 0, .int 0]))] := va_D1 hAa
  have hin5 : ∀ w ∈ wsX50, w ∈ wsX5_init := by decide +kernel
  have hl := lv_entry ([.ref a]) (n := 1) (Nat.le_of_ble_eq_true rfl)
  rw [show entryFrame m args 1 = entryFrame m ([.ref a] : List Value).toArray 1 from by rw [hargs], lg_entry_eq]
  generalize (lg_sl ([.ref a]) ++ List.replicate (1 - (lg_sl ([.ref a])).length) Slot.unset).toArray = ls at hl ⊢
  have hl : lv_has ls 1 [(0, .ref a)] := hl
  have hP : va_P (dC, dI) vwCl [(a, .inr (5, [.int 0, .int 0, .null, .null, .null, .null, .null, .int 0, .int 0]))] s.heap := hP
  refine lv_aload_n hx hb dX5_init_0 rfl (lv_at hl 0 rfl) ?_
  refine W.objInit hx hb hown (hts (.methodLink RX5 3 objectInit) (by decide +kernel)) (hts (.instanceMethod objectInit) (by decide +kernel)) (hts _ (List.mem_of_getElem? (i := 3) rfl)) rfl (by rw [hml]; exact hl.1) rfl dX5_init_1 (Nat.le_of_ble_eq_true rfl) (Nat.le_of_ble_eq_true rfl) ?_
  refine W.eq (g2 := F0 m 4 ls []) rfl ?_
  refine lv_aload_n hx hb dX5_init_4 rfl (lv_at hl 0 rfl) ?_
  refine lv_iconst (v := 5) hx hb dX5_init_5 (by decide) ?_
  refine va_newa (atype := .int) (ty := .int) (N' := 5) (a0 := (5, .inl (fun _ => 0))) hx hb (hts (.arrayClass .int) (by decide +kernel)) rfl hK hP hD hS hA (fun _ => rfl) (by decide) (by decide) (by decide) (Nat.le_of_ble_eq_true rfl) (Nat.le_of_ble_eq_true rfl) dX5_init_6 (fun q1 c2 H hK hP hD hS => ?_)
  have hK : va_K (dC, dI) vwCl [(c2, .int)] s := hK
  have hP : va_P (dC, dI) vwCl [(a, .inr (5, [.int 0, .int 0, .null, .null, .null, .null, .null, .int 0, .int 0])), (q1, .inl (c2, (5, .inl (fun _ => 0))))] H := hP
  have hD : va_D A [(a, .inr (5, [.int 0, .int 0, .null, .null, .null, .null, .null, .int 0, .int 0])), (q1, .inl (c2, (5, .inl (fun _ => 0))))] := hD
  refine W.widen (k := 1) (n := 5) (Nat.le_of_ble_eq_true rfl) (Nat.le_of_ble_eq_true rfl) ?_
  refine va_putF (D := (dC, dI)) (ci := 5) (v := .ref q1) (ty := .array .int) (C := RX5) (T := TX5) (N := 9) hx hb hts hin5 tyX5 tyX5_ok nmX5 hown hK hP hD hS 0 rfl rfl 2 (by decide) (hts (.fieldLink RX5 9 "OnlyTwo$Loader" "carriers" "[I") (by decide +kernel)) (fun _ h9 => h9) rfl hin rfl (by decide +kernel) rfl rfl (Nat.le_of_ble_eq_true rfl) dX5_init_8 (fun H locs hP hD hS => ?_)
  have hP : va_P (dC, dI) vwCl [(a, .inr (5, [.int 0, .int 0, .ref q1, .null, .null, .null, .null, .int 0, .int 0])), (q1, .inl (c2, (5, .inl (fun _ => 0))))] H := hP
  have hD : va_D A [(a, .inr (5, [.int 0, .int 0, .ref q1, .null, .null, .null, .null, .int 0, .int 0])), (q1, .inl (c2, (5, .inl (fun _ => 0))))] := hD
  refine lv_aload_n hx hb dX5_init_11 rfl (lv_at hl 0 rfl) ?_
  refine lv_iconst (v := 5) hx hb dX5_init_12 (by decide) ?_
  refine va_newa (atype := .int) (ty := .int) (N' := 5) (a0 := (5, .inl (fun _ => 0))) hx hb (hts (.arrayClass .int) (by decide +kernel)) rfl hK hP hD hS hA (fun _ => rfl) (by decide) (by decide) (by decide) (Nat.le_of_ble_eq_true rfl) (Nat.le_of_ble_eq_true rfl) dX5_init_13 (fun q3 c4 H hK hP hD hS => ?_)
  have hK : va_K (dC, dI) vwCl [(c2, .int), (c4, .int)] s := hK
  obtain rfl : c2 = c4 := (kEqI hK 0 1 rfl rfl).symm
  have hP : va_P (dC, dI) vwCl [(a, .inr (5, [.int 0, .int 0, .ref q1, .null, .null, .null, .null, .int 0, .int 0])), (q1, .inl (c2, (5, .inl (fun _ => 0)))), (q3, .inl (c2, (5, .inl (fun _ => 0))))] H := hP
  have hD : va_D A [(a, .inr (5, [.int 0, .int 0, .ref q1, .null, .null, .null, .null, .int 0, .int 0])), (q1, .inl (c2, (5, .inl (fun _ => 0)))), (q3, .inl (c2, (5, .inl (fun _ => 0))))] := hD
  refine W.widen (k := 2) (n := 10) (Nat.le_of_ble_eq_true rfl) (Nat.le_of_ble_eq_true rfl) ?_
  refine va_putF (D := (dC, dI)) (ci := 5) (v := .ref q3) (ty := .array .int) (C := RX5) (T := TX5) (N := 9) hx hb hts hin5 tyX5 tyX5_ok nmX5 hown hK hP hD hS 0 rfl rfl 3 (by decide) (hts (.fieldLink RX5 15 "OnlyTwo$Loader" "trial" "[I") (by decide +kernel)) (fun _ h9 => h9) rfl hin rfl (by decide +kernel) rfl rfl (Nat.le_of_ble_eq_true rfl) dX5_init_15 (fun H locs hP hD hS => ?_)
  have hP : va_P (dC, dI) vwCl [(a, .inr (5, [.int 0, .int 0, .ref q1, .ref q3, .null, .null, .null, .int 0, .int 0])), (q1, .inl (c2, (5, .inl (fun _ => 0)))), (q3, .inl (c2, (5, .inl (fun _ => 0))))] H := hP
  have hD : va_D A [(a, .inr (5, [.int 0, .int 0, .ref q1, .ref q3, .null, .null, .null, .int 0, .int 0])), (q1, .inl (c2, (5, .inl (fun _ => 0)))), (q3, .inl (c2, (5, .inl (fun _ => 0))))] := hD
  refine lv_aload_n hx hb dX5_init_18 rfl (lv_at hl 0 rfl) ?_
  refine lv_bipush (v := 6) hx hb dX5_init_19 (by decide) ?_
  refine va_newa (atype := .int) (ty := .int) (N' := 6) (a0 := (6, .inl (fun _ => 0))) hx hb (hts (.arrayClass .int) (by decide +kernel)) rfl hK hP hD hS hA (fun _ => rfl) (by decide) (by decide) (by decide) (Nat.le_of_ble_eq_true rfl) (Nat.le_of_ble_eq_true rfl) dX5_init_21 (fun q5 c6 H hK hP hD hS => ?_)
  have hK : va_K (dC, dI) vwCl [(c2, .int), (c2, .int), (c6, .int)] s := hK
  obtain rfl : c2 = c6 := (kEqI hK 0 2 rfl rfl).symm
  have hP : va_P (dC, dI) vwCl [(a, .inr (5, [.int 0, .int 0, .ref q1, .ref q3, .null, .null, .null, .int 0, .int 0])), (q1, .inl (c2, (5, .inl (fun _ => 0)))), (q3, .inl (c2, (5, .inl (fun _ => 0)))), (q5, .inl (c2, (6, .inl (fun _ => 0))))] H := hP
  have hD : va_D A [(a, .inr (5, [.int 0, .int 0, .ref q1, .ref q3, .null, .null, .null, .int 0, .int 0])), (q1, .inl (c2, (5, .inl (fun _ => 0)))), (q3, .inl (c2, (5, .inl (fun _ => 0)))), (q5, .inl (c2, (6, .inl (fun _ => 0))))] := hD
  refine W.widen (k := 3) (n := 16) (Nat.le_of_ble_eq_true rfl) (Nat.le_of_ble_eq_true rfl) ?_
  refine va_putF (D := (dC, dI)) (ci := 5) (v := .ref q5) (ty := .array .int) (C := RX5) (T := TX5) (N := 9) hx hb hts hin5 tyX5 tyX5_ok nmX5 hown hK hP hD hS 0 rfl rfl 4 (by decide) (hts (.fieldLink RX5 18 "OnlyTwo$Loader" "weights" "[I") (by decide +kernel)) (fun _ h9 => h9) rfl hin rfl (by decide +kernel) rfl rfl (Nat.le_of_ble_eq_true rfl) dX5_init_23 (fun H locs hP hD hS => ?_)
  have hP : va_P (dC, dI) vwCl [(a, .inr (5, [.int 0, .int 0, .ref q1, .ref q3, .ref q5, .null, .null, .int 0, .int 0])), (q1, .inl (c2, (5, .inl (fun _ => 0)))), (q3, .inl (c2, (5, .inl (fun _ => 0)))), (q5, .inl (c2, (6, .inl (fun _ => 0))))] H := hP
  have hD : va_D A [(a, .inr (5, [.int 0, .int 0, .ref q1, .ref q3, .ref q5, .null, .null, .int 0, .int 0])), (q1, .inl (c2, (5, .inl (fun _ => 0)))), (q3, .inl (c2, (5, .inl (fun _ => 0)))), (q5, .inl (c2, (6, .inl (fun _ => 0))))] := hD
  refine lv_aload_n hx hb dX5_init_26 rfl (lv_at hl 0 rfl) ?_
  refine va_getsN hx hb hE.2.1.1 hS hown (va_Nw.use rfl (hE.1.2.1 ("OnlyTwo$Loader", 21, "OnlyTwo", "SMALL_SETS", "[I", "OnlyTwo") (by decide +kernel))) (fun _ h9 => h9) dX5_init_27 ?_
  refine va_tlen (v := 21) hx hb hE.2.1.2 hS (by decide) dX5_init_30 ?_
  refine va_newa (atype := .int) (ty := .int) (N' := 21) (a0 := (21, .inl (fun _ => 0))) hx hb (hts (.arrayClass .int) (by decide +kernel)) rfl hK hP hD hS hA (fun _ => rfl) (by decide) (by decide) (by decide) (Nat.le_of_ble_eq_true rfl) (Nat.le_of_ble_eq_true rfl) dX5_init_31 (fun q7 c8 H hK hP hD hS => ?_)
  have hK : va_K (dC, dI) vwCl [(c2, .int), (c2, .int), (c2, .int), (c8, .int)] s := hK
  obtain rfl : c2 = c8 := (kEqI hK 0 3 rfl rfl).symm
  have hP : va_P (dC, dI) vwCl [(a, .inr (5, [.int 0, .int 0, .ref q1, .ref q3, .ref q5, .null, .null, .int 0, .int 0])), (q1, .inl (c2, (5, .inl (fun _ => 0)))), (q3, .inl (c2, (5, .inl (fun _ => 0)))), (q5, .inl (c2, (6, .inl (fun _ => 0)))), (q7, .inl (c2, (21, .inl (fun _ => 0))))] H := hP
  have hD : va_D A [(a, .inr (5, [.int 0, .int 0, .ref q1, .ref q3, .ref q5, .null, .null, .int 0, .int 0])), (q1, .inl (c2, (5, .inl (fun _ => 0)))), (q3, .inl (c2, (5, .inl (fun _ => 0)))), (q5, .inl (c2, (6, .inl (fun _ => 0)))), (q7, .inl (c2, (21, .inl (fun _ => 0))))] := hD
  refine W.widen (k := 4) (n := 37) (Nat.le_of_ble_eq_true rfl) (Nat.le_of_ble_eq_true rfl) ?_
  refine va_putF (D := (dC, dI)) (ci := 5) (v := .ref q7) (ty := .array .int) (C := RX5) (T := TX5) (N := 9) hx hb hts hin5 tyX5 tyX5_ok nmX5 hown hK hP hD hS 0 rfl rfl 5 (by decide) (hts (.fieldLink RX5 24 "OnlyTwo$Loader" "lesser" "[I") (by decide +kernel)) (fun _ h9 => h9) rfl hin rfl (by decide +kernel) rfl rfl (Nat.le_of_ble_eq_true rfl) dX5_init_33 (fun H locs hP hD hS => ?_)
  have hP : va_P (dC, dI) vwCl [(a, .inr (5, [.int 0, .int 0, .ref q1, .ref q3, .ref q5, .ref q7, .null, .int 0, .int 0])), (q1, .inl (c2, (5, .inl (fun _ => 0)))), (q3, .inl (c2, (5, .inl (fun _ => 0)))), (q5, .inl (c2, (6, .inl (fun _ => 0)))), (q7, .inl (c2, (21, .inl (fun _ => 0))))] H := hP
  have hD : va_D A [(a, .inr (5, [.int 0, .int 0, .ref q1, .ref q3, .ref q5, .ref q7, .null, .int 0, .int 0])), (q1, .inl (c2, (5, .inl (fun _ => 0)))), (q3, .inl (c2, (5, .inl (fun _ => 0)))), (q5, .inl (c2, (6, .inl (fun _ => 0)))), (q7, .inl (c2, (21, .inl (fun _ => 0))))] := hD
  refine lv_aload_n hx hb dX5_init_36 rfl (lv_at hl 0 rfl) ?_
  refine va_getsN hx hb hE.2.1.1 hS hown (va_Nw.use rfl (hE.1.2.1 ("OnlyTwo$Loader", 21, "OnlyTwo", "SMALL_SETS", "[I", "OnlyTwo") (by decide +kernel))) (fun _ h9 => h9) dX5_init_37 ?_
  refine va_tlen (v := 21) hx hb hE.2.1.2 hS (by decide) dX5_init_40 ?_
  refine va_newa (atype := .int) (ty := .int) (N' := 21) (a0 := (21, .inl (fun _ => 0))) hx hb (hts (.arrayClass .int) (by decide +kernel)) rfl hK hP hD hS hA (fun _ => rfl) (by decide) (by decide) (by decide) (Nat.le_of_ble_eq_true rfl) (Nat.le_of_ble_eq_true rfl) dX5_init_41 (fun q9 c10 H hK hP hD hS => ?_)
  have hK : va_K (dC, dI) vwCl [(c2, .int), (c2, .int), (c2, .int), (c2, .int), (c10, .int)] s := hK
  obtain rfl : c2 = c10 := (kEqI hK 0 4 rfl rfl).symm
  have hP : va_P (dC, dI) vwCl [(a, .inr (5, [.int 0, .int 0, .ref q1, .ref q3, .ref q5, .ref q7, .null, .int 0, .int 0])), (q1, .inl (c2, (5, .inl (fun _ => 0)))), (q3, .inl (c2, (5, .inl (fun _ => 0)))), (q5, .inl (c2, (6, .inl (fun _ => 0)))), (q7, .inl (c2, (21, .inl (fun _ => 0)))), (q9, .inl (c2, (21, .inl (fun _ => 0))))] H := hP
  have hD : va_D A [(a, .inr (5, [.int 0, .int 0, .ref q1, .ref q3, .ref q5, .ref q7, .null, .int 0, .int 0])), (q1, .inl (c2, (5, .inl (fun _ => 0)))), (q3, .inl (c2, (5, .inl (fun _ => 0)))), (q5, .inl (c2, (6, .inl (fun _ => 0)))), (q7, .inl (c2, (21, .inl (fun _ => 0)))), (q9, .inl (c2, (21, .inl (fun _ => 0))))] := hD
  refine W.widen (k := 5) (n := 58) (Nat.le_of_ble_eq_true rfl) (Nat.le_of_ble_eq_true rfl) ?_
  refine va_putF (D := (dC, dI)) (ci := 5) (v := .ref q9) (ty := .array .int) (C := RX5) (T := TX5) (N := 9) hx hb hts hin5 tyX5 tyX5_ok nmX5 hown hK hP hD hS 0 rfl rfl 6 (by decide) (hts (.fieldLink RX5 27 "OnlyTwo$Loader" "other" "[I") (by decide +kernel)) (fun _ h9 => h9) rfl hin rfl (by decide +kernel) rfl rfl (Nat.le_of_ble_eq_true rfl) dX5_init_43 (fun H locs hP hD hS => ?_)
  have hP : va_P (dC, dI) vwCl [(a, .inr (5, [.int 0, .int 0, .ref q1, .ref q3, .ref q5, .ref q7, .ref q9, .int 0, .int 0])), (q1, .inl (c2, (5, .inl (fun _ => 0)))), (q3, .inl (c2, (5, .inl (fun _ => 0)))), (q5, .inl (c2, (6, .inl (fun _ => 0)))), (q7, .inl (c2, (21, .inl (fun _ => 0)))), (q9, .inl (c2, (21, .inl (fun _ => 0))))] H := hP
  have hD : va_D A [(a, .inr (5, [.int 0, .int 0, .ref q1, .ref q3, .ref q5, .ref q7, .ref q9, .int 0, .int 0])), (q1, .inl (c2, (5, .inl (fun _ => 0)))), (q3, .inl (c2, (5, .inl (fun _ => 0)))), (q5, .inl (c2, (6, .inl (fun _ => 0)))), (q7, .inl (c2, (21, .inl (fun _ => 0)))), (q9, .inl (c2, (21, .inl (fun _ => 0))))] := hD
  have hP : va_P (dC, dI) vwCl (nwL c2 (fun k => ([a, q1, q3, q5, q7, q9] : List Nat).getD k 0)) H := hP
  have hD : va_D A (nwL c2 (fun k => ([a, q1, q3, q5, q7, q9] : List Nat).getD k 0)) := hD
  have hK := hK.sub (tys' := [(c2, .int)]) [0] rfl
  exact rtN hx hb hr hlocks (fun U hU hW => ⟨(fun k => ([a, q1, q3, q5, q7, q9] : List Nat).getD k 0), c2, rfl, by rw [hU]; exact hP, hD, va_K.moved hW.alike hK⟩) hS dX5_init_46

def nwP (tI tJ : ClassId) (k : Nat → Nat) : va_W := [(k 0, .inr (7, [.int 0, .int 0, .int 0, .int 0, .ref (k 1), .int 0, .int 0, .ref (k 2), .ref (k 3), .ref (k 4), .ref (k 5), .ref (k 6)])), (k 1, .inl (tI, (240, .inl (fun _ => 0)))), (k 2, .inl (tJ, (240, .inr (.inl (fun _ => 0))))), (k 3, .inl (tJ, (241, .inr (.inl (fun _ => 0))))), (k 4, .inl (tI, (15424, .inl (fun _ => 0)))), (k 5, .inl (tI, (64, .inl (fun _ => 0)))), (k 6, .inl (tI, (64, .inl (fun _ => 0))))]
def rmX7_init : Room := { frames := 1, cells := 6, slots := 16273, locals := 12 }
set_option maxHeartbeats 8000000 in
set_option maxRecDepth 100000 in
theorem c_X7_init (l : Launch) (dC : Nat → ClassId) (dI : Nat → Nat → Nat) (ts aK aV : Nat → Nat) (sz a : Nat) : cN l yX7_init wsX7_init rmX7_init dC dI ts aK aV sz 7 a [.int 0, .int 0, .int 0, .int 0, .null, .int 0, .int 0, .null, .null, .null, .null, .null] (fun A U => ∃ (k : Nat → Nat) (tI tJ : ClassId) , k 0 = a ∧ va_P (dC, dI) vwCl (nwP tI tJ k) U.heap ∧ va_D A (nwP tI tJ k) ∧ va_K (dC, dI) vwCl [(tI, .int), (tJ, .long)] U) := by
  refine Met.ofW (cc := cX7_init) (maxL := 1) (ret := none) (by decide) rfl ?_
  intro p e s m args below meth c s₁ B hml hv
  obtain ⟨hargs, hsz, hE, hO, hP, hK⟩ := hv
  have hx := B.exec
  have hb := B.bytes
  have hr := B.returns
  have hts := atoms_spec (ws := wsX7_init) B.pre
  have hown : s.vm.findClass RX7 = some m.cls := findClass_of_methodNamed B.named
  have hlocks := B.notSynchronized
  have hin : meth.name = "<init>" := (name_of_methodNamed B.named B.method).1
  have hsz : s.heap.size = sz := hsz
  subst hsz
  obtain ⟨A, hAe⟩ : ∃ A : Nat → Prop, A = fun q => q = a ∨ s.heap.size ≤ q := ⟨_, rfl⟩
  rw [← hAe] at hE ⊢
  have hA : ∀ q : Nat, s.heap.size ≤ q → A q := fun q h => by rw [hAe]; exact Or.inr h
  have hAa : A a := by rw [hAe]; exact Or.inl rfl
  have hS : va_S A s.heap s.heap [] := va_S.rf
  have hD : va_D A [(a, .inr (7, [.int 0, .int 0, .int 0, .int 0, .null, .int 0, .int 0, .null, .null, .null, .null, .null]))] := va_D1 hAa
  have hin7 : ∀ w ∈ wsX70, w ∈ wsX7_init := by decide +kernel
  have hl := lv_entry ([.ref a]) (n := 1) (Nat.le_of_ble_eq_true rfl)
  rw [show entryFrame m args 1 = entryFrame m ([.ref a] : List Value).toArray 1 from by rw [hargs], lg_entry_eq]
  generalize (lg_sl ([.ref a]) ++ List.replicate (1 - (lg_sl ([.ref a])).length) Slot.unset).toArray = ls at hl ⊢
  have hl : lv_has ls 1 [(0, .ref a)] := hl
  have hP : va_P (dC, dI) vwCl [(a, .inr (7, [.int 0, .int 0, .int 0, .int 0, .null, .int 0, .int 0, .null, .null, .null, .null, .null]))] s.heap := hP
  refine lv_aload_n hx hb dX7_init_0 rfl (lv_at hl 0 rfl) ?_
  refine W.objInit hx hb hown (hts (.methodLink RX7 3 objectInit) (by decide +kernel)) (hts (.instanceMethod objectInit) (by decide +kernel)) (hts _ (List.mem_of_getElem? (i := 3) rfl)) rfl (by rw [hml]; exact hl.1) rfl dX7_init_1 (Nat.le_of_ble_eq_true rfl) (Nat.le_of_ble_eq_true rfl) ?_
  refine W.eq (g2 := F0 m 4 ls []) rfl ?_
  refine lv_aload_n hx hb dX7_init_4 rfl (lv_at hl 0 rfl) ?_
  refine lv_sipush (v := 240) hx hb dX7_init_5 (by decide) ?_
  refine va_newa (atype := .int) (ty := .int) (N' := 240) (a0 := (240, .inl (fun _ => 0))) hx hb (hts (.arrayClass .int) (by decide +kernel)) rfl hK hP hD hS hA (fun _ => rfl) (by decide) (by decide) (by decide) (Nat.le_of_ble_eq_true rfl) (Nat.le_of_ble_eq_true rfl) dX7_init_8 (fun q1 c2 H hK hP hD hS => ?_)
  have hK : va_K (dC, dI) vwCl [(c2, .int)] s := hK
  have hP : va_P (dC, dI) vwCl [(a, .inr (7, [.int 0, .int 0, .int 0, .int 0, .null, .int 0, .int 0, .null, .null, .null, .null, .null])), (q1, .inl (c2, (240, .inl (fun _ => 0))))] H := hP
  have hD : va_D A [(a, .inr (7, [.int 0, .int 0, .int 0, .int 0, .null, .int 0, .int 0, .null, .null, .null, .null, .null])), (q1, .inl (c2, (240, .inl (fun _ => 0))))] := hD
  refine W.widen (k := 1) (n := 240) (Nat.le_of_ble_eq_true rfl) (Nat.le_of_ble_eq_true rfl) ?_
  refine va_putF (D := (dC, dI)) (ci := 7) (v := .ref q1) (ty := .array .int) (C := RX7) (T := TX7) (N := 12) hx hb hts hin7 tyX7 tyX7_ok nmX7 hown hK hP hD hS 0 rfl rfl 4 (by decide) (hts (.fieldLink RX7 9 "OnlyTwo$Planner" "rowOfCrossings" "[I") (by decide +kernel)) (fun _ h9 => h9) rfl hin rfl (by decide +kernel) rfl rfl (Nat.le_of_ble_eq_true rfl) dX7_init_10 (fun H locs hP hD hS => ?_)
  have hP : va_P (dC, dI) vwCl [(a, .inr (7, [.int 0, .int 0, .int 0, .int 0, .ref q1, .int 0, .int 0, .null, .null, .null, .null, .null])), (q1, .inl (c2, (240, .inl (fun _ => 0))))] H := hP
  have hD : va_D A [(a, .inr (7, [.int 0, .int 0, .int 0, .int 0, .ref q1, .int 0, .int 0, .null, .null, .null, .null, .null])), (q1, .inl (c2, (240, .inl (fun _ => 0))))] := hD
  refine lv_aload_n hx hb dX7_init_13 rfl (lv_at hl 0 rfl) ?_
  refine lv_sipush (v := 240) hx hb dX7_init_14 (by decide) ?_
  refine va_newa (atype := .long) (ty := .long) (N' := 240) (a0 := (240, .inr (.inl (fun _ => 0)))) hx hb (hts (.arrayClass .long) (by decide +kernel)) rfl hK hP hD hS hA (fun _ => rfl) (by decide) (by decide) (by decide) (Nat.le_of_ble_eq_true rfl) (Nat.le_of_ble_eq_true rfl) dX7_init_17 (fun q3 c4 H hK hP hD hS => ?_)
  have hK : va_K (dC, dI) vwCl [(c2, .int), (c4, .long)] s := hK
  have hP : va_P (dC, dI) vwCl [(a, .inr (7, [.int 0, .int 0, .int 0, .int 0, .ref q1, .int 0, .int 0, .null, .null, .null, .null, .null])), (q1, .inl (c2, (240, .inl (fun _ => 0)))), (q3, .inl (c4, (240, .inr (.inl (fun _ => 0)))))] H := hP
  have hD : va_D A [(a, .inr (7, [.int 0, .int 0, .int 0, .int 0, .ref q1, .int 0, .int 0, .null, .null, .null, .null, .null])), (q1, .inl (c2, (240, .inl (fun _ => 0)))), (q3, .inl (c4, (240, .inr (.inl (fun _ => 0)))))] := hD
  refine W.widen (k := 2) (n := 480) (Nat.le_of_ble_eq_true rfl) (Nat.le_of_ble_eq_true rfl) ?_
  refine va_putF (D := (dC, dI)) (ci := 7) (v := .ref q3) (ty := .array .long) (C := RX7) (T := TX7) (N := 12) hx hb hts hin7 tyX7 tyX7_ok nmX7 hown hK hP hD hS 0 rfl rfl 7 (by decide) (hts (.fieldLink RX7 15 "OnlyTwo$Planner" "open" "[J") (by decide +kernel)) (fun _ h9 => h9) rfl hin rfl (by decide +kernel) rfl rfl (Nat.le_of_ble_eq_true rfl) dX7_init_19 (fun H locs hP hD hS => ?_)
  have hP : va_P (dC, dI) vwCl [(a, .inr (7, [.int 0, .int 0, .int 0, .int 0, .ref q1, .int 0, .int 0, .ref q3, .null, .null, .null, .null])), (q1, .inl (c2, (240, .inl (fun _ => 0)))), (q3, .inl (c4, (240, .inr (.inl (fun _ => 0)))))] H := hP
  have hD : va_D A [(a, .inr (7, [.int 0, .int 0, .int 0, .int 0, .ref q1, .int 0, .int 0, .ref q3, .null, .null, .null, .null])), (q1, .inl (c2, (240, .inl (fun _ => 0)))), (q3, .inl (c4, (240, .inr (.inl (fun _ => 0)))))] := hD
  refine lv_aload_n hx hb dX7_init_22 rfl (lv_at hl 0 rfl) ?_
  refine lv_sipush (v := 241) hx hb dX7_init_23 (by decide) ?_
  refine va_newa (atype := .long) (ty := .long) (N' := 241) (a0 := (241, .inr (.inl (fun _ => 0)))) hx hb (hts (.arrayClass .long) (by decide +kernel)) rfl hK hP hD hS hA (fun _ => rfl) (by decide) (by decide) (by decide) (Nat.le_of_ble_eq_true rfl) (Nat.le_of_ble_eq_true rfl) dX7_init_26 (fun q5 c6 H hK hP hD hS => ?_)
  have hK : va_K (dC, dI) vwCl [(c2, .int), (c4, .long), (c6, .long)] s := hK
  obtain rfl : c4 = c6 := (kEqJ hK 1 2 rfl rfl).symm
  have hP : va_P (dC, dI) vwCl [(a, .inr (7, [.int 0, .int 0, .int 0, .int 0, .ref q1, .int 0, .int 0, .ref q3, .null, .null, .null, .null])), (q1, .inl (c2, (240, .inl (fun _ => 0)))), (q3, .inl (c4, (240, .inr (.inl (fun _ => 0))))), (q5, .inl (c4, (241, .inr (.inl (fun _ => 0)))))] H := hP
  have hD : va_D A [(a, .inr (7, [.int 0, .int 0, .int 0, .int 0, .ref q1, .int 0, .int 0, .ref q3, .null, .null, .null, .null])), (q1, .inl (c2, (240, .inl (fun _ => 0)))), (q3, .inl (c4, (240, .inr (.inl (fun _ => 0))))), (q5, .inl (c4, (241, .inr (.inl (fun _ => 0)))))] := hD
  refine W.widen (k := 3) (n := 721) (Nat.le_of_ble_eq_true rfl) (Nat.le_of_ble_eq_true rfl) ?_
  refine va_putF (D := (dC, dI)) (ci := 7) (v := .ref q5) (ty := .array .long) (C := RX7) (T := TX7) (N := 12) hx hb hts hin7 tyX7 tyX7_ok nmX7 hown hK hP hD hS 0 rfl rfl 8 (by decide) (hts (.fieldLink RX7 19 "OnlyTwo$Planner" "reached" "[J") (by decide +kernel)) (fun _ h9 => h9) rfl hin rfl (by decide +kernel) rfl rfl (Nat.le_of_ble_eq_true rfl) dX7_init_28 (fun H locs hP hD hS => ?_)
  have hP : va_P (dC, dI) vwCl [(a, .inr (7, [.int 0, .int 0, .int 0, .int 0, .ref q1, .int 0, .int 0, .ref q3, .ref q5, .null, .null, .null])), (q1, .inl (c2, (240, .inl (fun _ => 0)))), (q3, .inl (c4, (240, .inr (.inl (fun _ => 0))))), (q5, .inl (c4, (241, .inr (.inl (fun _ => 0)))))] H := hP
  have hD : va_D A [(a, .inr (7, [.int 0, .int 0, .int 0, .int 0, .ref q1, .int 0, .int 0, .ref q3, .ref q5, .null, .null, .null])), (q1, .inl (c2, (240, .inl (fun _ => 0)))), (q3, .inl (c4, (240, .inr (.inl (fun _ => 0))))), (q5, .inl (c4, (241, .inr (.inl (fun _ => 0)))))] := hD
  refine lv_aload_n hx hb dX7_init_31 rfl (lv_at hl 0 rfl) ?_
  refine lv_sipush (v := 15424) hx hb dX7_init_32 (by decide) ?_
  refine va_newa (atype := .int) (ty := .int) (N' := 15424) (a0 := (15424, .inl (fun _ => 0))) hx hb (hts (.arrayClass .int) (by decide +kernel)) rfl hK hP hD hS hA (fun _ => rfl) (by decide) (by decide) (by decide) (Nat.le_of_ble_eq_true rfl) (Nat.le_of_ble_eq_true rfl) dX7_init_35 (fun q7 c8 H hK hP hD hS => ?_)
  have hK : va_K (dC, dI) vwCl [(c2, .int), (c4, .long), (c4, .long), (c8, .int)] s := hK
  obtain rfl : c2 = c8 := (kEqI hK 0 3 rfl rfl).symm
  have hP : va_P (dC, dI) vwCl [(a, .inr (7, [.int 0, .int 0, .int 0, .int 0, .ref q1, .int 0, .int 0, .ref q3, .ref q5, .null, .null, .null])), (q1, .inl (c2, (240, .inl (fun _ => 0)))), (q3, .inl (c4, (240, .inr (.inl (fun _ => 0))))), (q5, .inl (c4, (241, .inr (.inl (fun _ => 0))))), (q7, .inl (c2, (15424, .inl (fun _ => 0))))] H := hP
  have hD : va_D A [(a, .inr (7, [.int 0, .int 0, .int 0, .int 0, .ref q1, .int 0, .int 0, .ref q3, .ref q5, .null, .null, .null])), (q1, .inl (c2, (240, .inl (fun _ => 0)))), (q3, .inl (c4, (240, .inr (.inl (fun _ => 0))))), (q5, .inl (c4, (241, .inr (.inl (fun _ => 0))))), (q7, .inl (c2, (15424, .inl (fun _ => 0))))] := hD
  refine W.widen (k := 4) (n := 16145) (Nat.le_of_ble_eq_true rfl) (Nat.le_of_ble_eq_true rfl) ?_
  refine va_putF (D := (dC, dI)) (ci := 7) (v := .ref q7) (ty := .array .int) (C := RX7) (T := TX7) (N := 12) hx hb hts hin7 tyX7 tyX7_ok nmX7 hown hK hP hD hS 0 rfl rfl 9 (by decide) (hts (.fieldLink RX7 22 "OnlyTwo$Planner" "hires" "[I") (by decide +kernel)) (fun _ h9 => h9) rfl hin rfl (by decide +kernel) rfl rfl (Nat.le_of_ble_eq_true rfl) dX7_init_37 (fun H locs hP hD hS => ?_)
  have hP : va_P (dC, dI) vwCl [(a, .inr (7, [.int 0, .int 0, .int 0, .int 0, .ref q1, .int 0, .int 0, .ref q3, .ref q5, .ref q7, .null, .null])), (q1, .inl (c2, (240, .inl (fun _ => 0)))), (q3, .inl (c4, (240, .inr (.inl (fun _ => 0))))), (q5, .inl (c4, (241, .inr (.inl (fun _ => 0))))), (q7, .inl (c2, (15424, .inl (fun _ => 0))))] H := hP
  have hD : va_D A [(a, .inr (7, [.int 0, .int 0, .int 0, .int 0, .ref q1, .int 0, .int 0, .ref q3, .ref q5, .ref q7, .null, .null])), (q1, .inl (c2, (240, .inl (fun _ => 0)))), (q3, .inl (c4, (240, .inr (.inl (fun _ => 0))))), (q5, .inl (c4, (241, .inr (.inl (fun _ => 0))))), (q7, .inl (c2, (15424, .inl (fun _ => 0))))] := hD
  refine lv_aload_n hx hb dX7_init_40 rfl (lv_at hl 0 rfl) ?_
  refine lv_bipush (v := 64) hx hb dX7_init_41 (by decide) ?_
  refine va_newa (atype := .int) (ty := .int) (N' := 64) (a0 := (64, .inl (fun _ => 0))) hx hb (hts (.arrayClass .int) (by decide +kernel)) rfl hK hP hD hS hA (fun _ => rfl) (by decide) (by decide) (by decide) (Nat.le_of_ble_eq_true rfl) (Nat.le_of_ble_eq_true rfl) dX7_init_43 (fun q9 c10 H hK hP hD hS => ?_)
  have hK : va_K (dC, dI) vwCl [(c2, .int), (c4, .long), (c4, .long), (c2, .int), (c10, .int)] s := hK
  obtain rfl : c2 = c10 := (kEqI hK 0 4 rfl rfl).symm
  have hP : va_P (dC, dI) vwCl [(a, .inr (7, [.int 0, .int 0, .int 0, .int 0, .ref q1, .int 0, .int 0, .ref q3, .ref q5, .ref q7, .null, .null])), (q1, .inl (c2, (240, .inl (fun _ => 0)))), (q3, .inl (c4, (240, .inr (.inl (fun _ => 0))))), (q5, .inl (c4, (241, .inr (.inl (fun _ => 0))))), (q7, .inl (c2, (15424, .inl (fun _ => 0)))), (q9, .inl (c2, (64, .inl (fun _ => 0))))] H := hP
  have hD : va_D A [(a, .inr (7, [.int 0, .int 0, .int 0, .int 0, .ref q1, .int 0, .int 0, .ref q3, .ref q5, .ref q7, .null, .null])), (q1, .inl (c2, (240, .inl (fun _ => 0)))), (q3, .inl (c4, (240, .inr (.inl (fun _ => 0))))), (q5, .inl (c4, (241, .inr (.inl (fun _ => 0))))), (q7, .inl (c2, (15424, .inl (fun _ => 0)))), (q9, .inl (c2, (64, .inl (fun _ => 0))))] := hD
  refine W.widen (k := 5) (n := 16209) (Nat.le_of_ble_eq_true rfl) (Nat.le_of_ble_eq_true rfl) ?_
  refine va_putF (D := (dC, dI)) (ci := 7) (v := .ref q9) (ty := .array .int) (C := RX7) (T := TX7) (N := 12) hx hb hts hin7 tyX7 tyX7_ok nmX7 hown hK hP hD hS 0 rfl rfl 10 (by decide) (hts (.fieldLink RX7 25 "OnlyTwo$Planner" "minutesOf" "[I") (by decide +kernel)) (fun _ h9 => h9) rfl hin rfl (by decide +kernel) rfl rfl (Nat.le_of_ble_eq_true rfl) dX7_init_45 (fun H locs hP hD hS => ?_)
  have hP : va_P (dC, dI) vwCl [(a, .inr (7, [.int 0, .int 0, .int 0, .int 0, .ref q1, .int 0, .int 0, .ref q3, .ref q5, .ref q7, .ref q9, .null])), (q1, .inl (c2, (240, .inl (fun _ => 0)))), (q3, .inl (c4, (240, .inr (.inl (fun _ => 0))))), (q5, .inl (c4, (241, .inr (.inl (fun _ => 0))))), (q7, .inl (c2, (15424, .inl (fun _ => 0)))), (q9, .inl (c2, (64, .inl (fun _ => 0))))] H := hP
  have hD : va_D A [(a, .inr (7, [.int 0, .int 0, .int 0, .int 0, .ref q1, .int 0, .int 0, .ref q3, .ref q5, .ref q7, .ref q9, .null])), (q1, .inl (c2, (240, .inl (fun _ => 0)))), (q3, .inl (c4, (240, .inr (.inl (fun _ => 0))))), (q5, .inl (c4, (241, .inr (.inl (fun _ => 0))))), (q7, .inl (c2, (15424, .inl (fun _ => 0)))), (q9, .inl (c2, (64, .inl (fun _ => 0))))] := hD
  refine lv_aload_n hx hb dX7_init_48 rfl (lv_at hl 0 rfl) ?_
  refine lv_bipush (v := 64) hx hb dX7_init_49 (by decide) ?_
  refine va_newa (atype := .int) (ty := .int) (N' := 64) (a0 := (64, .inl (fun _ => 0))) hx hb (hts (.arrayClass .int) (by decide +kernel)) rfl hK hP hD hS hA (fun _ => rfl) (by decide) (by decide) (by decide) (Nat.le_of_ble_eq_true rfl) (Nat.le_of_ble_eq_true rfl) dX7_init_51 (fun q11 c12 H hK hP hD hS => ?_)
  have hK : va_K (dC, dI) vwCl [(c2, .int), (c4, .long), (c4, .long), (c2, .int), (c2, .int), (c12, .int)] s := hK
  obtain rfl : c2 = c12 := (kEqI hK 0 5 rfl rfl).symm
  have hP : va_P (dC, dI) vwCl [(a, .inr (7, [.int 0, .int 0, .int 0, .int 0, .ref q1, .int 0, .int 0, .ref q3, .ref q5, .ref q7, .ref q9, .null])), (q1, .inl (c2, (240, .inl (fun _ => 0)))), (q3, .inl (c4, (240, .inr (.inl (fun _ => 0))))), (q5, .inl (c4, (241, .inr (.inl (fun _ => 0))))), (q7, .inl (c2, (15424, .inl (fun _ => 0)))), (q9, .inl (c2, (64, .inl (fun _ => 0)))), (q11, .inl (c2, (64, .inl (fun _ => 0))))] H := hP
  have hD : va_D A [(a, .inr (7, [.int 0, .int 0, .int 0, .int 0, .ref q1, .int 0, .int 0, .ref q3, .ref q5, .ref q7, .ref q9, .null])), (q1, .inl (c2, (240, .inl (fun _ => 0)))), (q3, .inl (c4, (240, .inr (.inl (fun _ => 0))))), (q5, .inl (c4, (241, .inr (.inl (fun _ => 0))))), (q7, .inl (c2, (15424, .inl (fun _ => 0)))), (q9, .inl (c2, (64, .inl (fun _ => 0)))), (q11, .inl (c2, (64, .inl (fun _ => 0))))] := hD
  refine W.widen (k := 6) (n := 16273) (Nat.le_of_ble_eq_true rfl) (Nat.le_of_ble_eq_true rfl) ?_
  refine va_putF (D := (dC, dI)) (ci := 7) (v := .ref q11) (ty := .array .int) (C := RX7) (T := TX7) (N := 12) hx hb hts hin7 tyX7 tyX7_ok nmX7 hown hK hP hD hS 0 rfl rfl 11 (by decide) (hts (.fieldLink RX7 28 "OnlyTwo$Planner" "hireOf" "[I") (by decide +kernel)) (fun _ h9 => h9) rfl hin rfl (by decide +kernel) rfl rfl (Nat.le_of_ble_eq_true rfl) dX7_init_53 (fun H locs hP hD hS => ?_)
  have hP : va_P (dC, dI) vwCl [(a, .inr (7, [.int 0, .int 0, .int 0, .int 0, .ref q1, .int 0, .int 0, .ref q3, .ref q5, .ref q7, .ref q9, .ref q11])), (q1, .inl (c2, (240, .inl (fun _ => 0)))), (q3, .inl (c4, (240, .inr (.inl (fun _ => 0))))), (q5, .inl (c4, (241, .inr (.inl (fun _ => 0))))), (q7, .inl (c2, (15424, .inl (fun _ => 0)))), (q9, .inl (c2, (64, .inl (fun _ => 0)))), (q11, .inl (c2, (64, .inl (fun _ => 0))))] H := hP
  have hD : va_D A [(a, .inr (7, [.int 0, .int 0, .int 0, .int 0, .ref q1, .int 0, .int 0, .ref q3, .ref q5, .ref q7, .ref q9, .ref q11])), (q1, .inl (c2, (240, .inl (fun _ => 0)))), (q3, .inl (c4, (240, .inr (.inl (fun _ => 0))))), (q5, .inl (c4, (241, .inr (.inl (fun _ => 0))))), (q7, .inl (c2, (15424, .inl (fun _ => 0)))), (q9, .inl (c2, (64, .inl (fun _ => 0)))), (q11, .inl (c2, (64, .inl (fun _ => 0))))] := hD
  have hP : va_P (dC, dI) vwCl (nwP c2 c4 (fun k => ([a, q1, q3, q5, q7, q9, q11] : List Nat).getD k 0)) H := hP
  have hD : va_D A (nwP c2 c4 (fun k => ([a, q1, q3, q5, q7, q9, q11] : List Nat).getD k 0)) := hD
  have hK := hK.sub (tys' := [(c2, .int), (c4, .long)]) [0, 1] rfl
  exact rtN hx hb hr hlocks (fun U hU hW => ⟨(fun k => ([a, q1, q3, q5, q7, q9, q11] : List Nat).getD k 0), c2, c4, rfl, by rw [hU]; exact hP, hD, va_K.moved hW.alike hK⟩) hS dX7_init_56

