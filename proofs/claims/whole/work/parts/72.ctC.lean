def nwR (tI tP : ClassId) (k : Nat → Nat) (g : Nat → Option Nat) : va_W := [(k 0, .inr (8, [.ref (k 1), .ref (k 9), .ref (k 6), .int 0, .int 0, .int 0, .int 0, .int 0, .int 0])), (k 1, .inr (1, [.ref (k 2), .ref (k 3), .ref (k 4), .ref (k 5), .ref (k 6), .ref (k 7), .int 0, .int 0, .int 0, .int 0])), (k 2, .inl (tP, 6, .inr (.inr (.inr (.inr g))))), (k 3, .inl (tI, (4, .inl (va_cpy (ssI 2) (fun _ => 0) 0 0 4)))), (k 4, .inl (tI, (20, .inl (fun _ => 0)))), (k 5, .inl (tI, (20, .inl (fun _ => 0)))), (k 6, .inl (tI, (200, .inl (fun _ => 0)))), (k 7, .inl (tI, (5, .inl (fun _ => 0)))), (k 8, .inr (6, [.int 1, .int 1, .int 0, .int 0])), (k 9, .inl (tI, (4, .inl (fun _ => 0))))]
def rmX8_init : Room := { frames := 3, cells := 9, slots := 273, locals := 82 }
set_option maxHeartbeats 8000000 in
set_option maxRecDepth 100000 in
theorem c_X8_init (l : Launch) (dC : Nat → ClassId) (dI : Nat → Nat → Nat) (ts aK aV : Nat → Nat) (sz a : Nat) : cN l yX8_init wsX8_init rmX8_init dC dI ts aK aV sz 8 a [.null, .null, .null, .int 0, .int 0, .int 0, .int 0, .int 0, .int 0] (fun A U => ∃ (k : Nat → Nat) (tI tP : ClassId) (g : Nat → Option Nat) , k 0 = a ∧ (∀ j, j < 6 → g j = some (k 8)) ∧ va_P (dC, dI) vwCl (nwR tI tP k g) U.heap ∧ va_D A (nwR tI tP k g) ∧ va_K (dC, dI) vwCl [(tI, .int), (tP, .object "OnlyTwo$Plain")] U) := by
  refine Met.ofW (cc := cX8_init) (maxL := 1) (ret := none) (by decide) rfl ?_
  intro p e s m args below meth c s₁ B hml hv
  obtain ⟨hargs, hsz, hE, hO, hP, hK⟩ := hv
  have hx := B.exec
  have hb := B.bytes
  have hr := B.returns
  have hts := atoms_spec (ws := wsX8_init) B.pre
  have hown : s.vm.findClass RX8 = some m.cls := findClass_of_methodNamed B.named
  have hlocks := B.notSynchronized
  have hin : meth.name = "<init>" := (name_of_methodNamed B.named B.method).1
  have hsz : s.heap.size = sz := hsz
  subst hsz
  obtain ⟨A, hAe⟩ : ∃ A : Nat → Prop, A = fun q => q = a ∨ s.heap.size ≤ q := ⟨_, rfl⟩
  rw [← hAe] at hE ⊢
  have hA : ∀ q : Nat, s.heap.size ≤ q → A q := fun q h => by rw [hAe]; exact Or.inr h
  have hAa : A a := by rw [hAe]; exact Or.inl rfl
  have hS : va_S A s.heap s.heap [] := va_S.rf
  have hD : va_D A [(a, .inr (8, [.null, .null, .null, .int 0, .int 0, .int 0, .int 0, .int 0, .int 0]))] := va_D1 hAa
  have hin1 : ∀ w ∈ wsX10, w ∈ wsX8_init := by decide +kernel
  have hin8 : ∀ w ∈ wsX80, w ∈ wsX8_init := by decide +kernel
  have hl := lv_entry ([.ref a]) (n := 1) (Nat.le_of_ble_eq_true rfl)
  rw [show entryFrame m args 1 = entryFrame m ([.ref a] : List Value).toArray 1 from by rw [hargs], lg_entry_eq]
  generalize (lg_sl ([.ref a]) ++ List.replicate (1 - (lg_sl ([.ref a])).length) Slot.unset).toArray = ls at hl ⊢
  have hl : lv_has ls 1 [(0, .ref a)] := hl
  have hP : va_P (dC, dI) vwCl [(a, .inr (8, [.null, .null, .null, .int 0, .int 0, .int 0, .int 0, .int 0, .int 0]))] s.heap := hP
  refine lv_aload_n hx hb dX8_init_0 rfl (lv_at hl 0 rfl) ?_
  refine W.objInit hx hb hown (hts (.methodLink RX8 3 objectInit) (by decide +kernel)) (hts (.instanceMethod objectInit) (by decide +kernel)) (hts _ (List.mem_of_getElem? (i := 3) rfl)) rfl (by rw [hml]; exact hl.1) rfl dX8_init_1 (Nat.le_of_ble_eq_true rfl) (Nat.le_of_ble_eq_true rfl) ?_
  refine W.eq (g2 := F0 m 4 ls []) rfl ?_
  refine lv_aload_n hx hb dX8_init_4 rfl (lv_at hl 0 rfl) ?_
  refine va_new (ci := 1) (fs := [.null, .null, .null, .null, .null, .null, .int 0, .int 0, .int 0, .int 0]) (C := RX1) (T := TX1) (N := 10) hx hb hts hin1 tyX1 tyX1_ok hown (hts (.classLink RX8 9 RX1) (by decide +kernel)) (hts (.instantiable RX1 10) (by decide +kernel)) (hts (.initialized RX1) (by decide +kernel)) hK hP hD hS hA rfl (fun j hj => by rcases (show j = 0 ∨ j = 1 ∨ j = 2 ∨ j = 3 ∨ j = 4 ∨ j = 5 ∨ j = 6 ∨ j = 7 ∨ j = 8 ∨ j = 9 by omega) with rfl | rfl | rfl | rfl | rfl | rfl | rfl | rfl | rfl | rfl <;> rfl) (Nat.le_of_ble_eq_true rfl) (Nat.le_of_ble_eq_true rfl) dX8_init_5 (fun q1 H hP hD hS => ?_)
  have hP : va_P (dC, dI) vwCl [(a, .inr (8, [.null, .null, .null, .int 0, .int 0, .int 0, .int 0, .int 0, .int 0])), (q1, .inr (1, [.null, .null, .null, .null, .null, .null, .int 0, .int 0, .int 0, .int 0]))] H := hP
  have hD : va_D A [(a, .inr (8, [.null, .null, .null, .int 0, .int 0, .int 0, .int 0, .int 0, .int 0])), (q1, .inr (1, [.null, .null, .null, .null, .null, .null, .int 0, .int 0, .int 0, .int 0]))] := hD
  refine W.widen (k := 1) (n := 10) (Nat.le_of_ble_eq_true rfl) (Nat.le_of_ble_eq_true rfl) ?_
  refine lv_dup hx hb dX8_init_8 rfl ?_
  refine klN (rest := [.ref q1, .ref a]) (q0 := 1) ⟨hx, hb, hml, hown, hts⟩ (c_X1_init l dC dI ts aK aV H.size q1) (cwI 0 hts gX8_init_X1_init rfl rfl rfl (hts (.initialized RX1) (by decide +kernel)) (hts (.methodLink RX8 11 yX1_init) (by decide +kernel)) (hts (.instanceMethod yX1_init) (by decide +kernel)) rfl (by decide +kernel) ⟨(Nat.le_of_ble_eq_true rfl), (Nat.le_of_ble_eq_true rfl)⟩) hl.1 rfl (Nat.le_of_ble_eq_true rfl) dX8_init_9 ⟨(Nat.le_of_ble_eq_true rfl), (Nat.le_of_ble_eq_true rfl)⟩ hE hO hK hP hD rfl hS hA (fun U H1 locs ht hvm hB hk1 hFc hS => ?_)
  obtain ⟨k2, t3, t4, g5, ekk2, egg5, hP1, hD1, hK1⟩ := hB
  rw [ht] at hP1
  have hK1 := va_K.moved hvm.symm hK1
  obtain ⟨hPn, hDn⟩ := jnN (wr := [(a, .inr (8, [.null, .null, .null, .int 0, .int 0, .int 0, .int 0, .int 0, .int 0]))]) hP hD (q0 := 1) rfl [0] rfl (by decide) (by decide) hk1 hFc hP1 hD1
  subst ekk2
  generalize H1 = H at hPn hS ⊢
  have hK := hK.app hK1
  have hK : va_K (dC, dI) vwCl [(t3, .int), (t4, .object "OnlyTwo$Plain")] s := hK
  have hP : va_P (dC, dI) vwCl [(a, .inr (8, [.null, .null, .null, .int 0, .int 0, .int 0, .int 0, .int 0, .int 0])), (k2 0, .inr (1, [.ref (k2 1), .ref (k2 2), .ref (k2 3), .ref (k2 4), .ref (k2 5), .ref (k2 6), .int 0, .int 0, .int 0, .int 0])), (k2 1, .inl (t4, 6, .inr (.inr (.inr (.inr (g5)))))), (k2 2, .inl (t3, (4, .inl (va_cpy (ssI 2) (fun _ => 0) 0 0 4)))), (k2 3, .inl (t3, (20, .inl (fun _ => 0)))), (k2 4, .inl (t3, (20, .inl (fun _ => 0)))), (k2 5, .inl (t3, (200, .inl (fun _ => 0)))), (k2 6, .inl (t3, (5, .inl (fun _ => 0)))), (k2 7, .inr (6, [.int 1, .int 1, .int 0, .int 0]))] H := hPn
  have hD : va_D A [(a, .inr (8, [.null, .null, .null, .int 0, .int 0, .int 0, .int 0, .int 0, .int 0])), (k2 0, .inr (1, [.ref (k2 1), .ref (k2 2), .ref (k2 3), .ref (k2 4), .ref (k2 5), .ref (k2 6), .int 0, .int 0, .int 0, .int 0])), (k2 1, .inl (t4, 6, .inr (.inr (.inr (.inr (g5)))))), (k2 2, .inl (t3, (4, .inl (va_cpy (ssI 2) (fun _ => 0) 0 0 4)))), (k2 3, .inl (t3, (20, .inl (fun _ => 0)))), (k2 4, .inl (t3, (20, .inl (fun _ => 0)))), (k2 5, .inl (t3, (200, .inl (fun _ => 0)))), (k2 6, .inl (t3, (5, .inl (fun _ => 0)))), (k2 7, .inr (6, [.int 1, .int 1, .int 0, .int 0]))] := hDn
  refine W.widen (k := 8) (n := 269) (Nat.le_of_ble_eq_true rfl) (Nat.le_of_ble_eq_true rfl) ?_
  refine va_putF (D := (dC, dI)) (ci := 8) (v := .ref (k2 0)) (ty := .object "OnlyTwo$Camp") (C := RX8) (T := TX8) (N := 9) hx hb hts hin8 tyX8 tyX8_ok nmX8 hown hK hP hD hS 0 rfl rfl 0 (by decide) (hts (.fieldLink RX8 12 "OnlyTwo$Reader" "draft" "LOnlyTwo$Camp;") (by decide +kernel)) (fun _ h9 => h9) rfl hin rfl (by decide +kernel) rfl rfl (Nat.le_of_ble_eq_true rfl) dX8_init_12 (fun H locs hP hD hS => ?_)
  have hP : va_P (dC, dI) vwCl [(a, .inr (8, [.ref (k2 0), .null, .null, .int 0, .int 0, .int 0, .int 0, .int 0, .int 0])), (k2 0, .inr (1, [.ref (k2 1), .ref (k2 2), .ref (k2 3), .ref (k2 4), .ref (k2 5), .ref (k2 6), .int 0, .int 0, .int 0, .int 0])), (k2 1, .inl (t4, 6, .inr (.inr (.inr (.inr (g5)))))), (k2 2, .inl (t3, (4, .inl (va_cpy (ssI 2) (fun _ => 0) 0 0 4)))), (k2 3, .inl (t3, (20, .inl (fun _ => 0)))), (k2 4, .inl (t3, (20, .inl (fun _ => 0)))), (k2 5, .inl (t3, (200, .inl (fun _ => 0)))), (k2 6, .inl (t3, (5, .inl (fun _ => 0)))), (k2 7, .inr (6, [.int 1, .int 1, .int 0, .int 0]))] H := hP
  have hD : va_D A [(a, .inr (8, [.ref (k2 0), .null, .null, .int 0, .int 0, .int 0, .int 0, .int 0, .int 0])), (k2 0, .inr (1, [.ref (k2 1), .ref (k2 2), .ref (k2 3), .ref (k2 4), .ref (k2 5), .ref (k2 6), .int 0, .int 0, .int 0, .int 0])), (k2 1, .inl (t4, 6, .inr (.inr (.inr (.inr (g5)))))), (k2 2, .inl (t3, (4, .inl (va_cpy (ssI 2) (fun _ => 0) 0 0 4)))), (k2 3, .inl (t3, (20, .inl (fun _ => 0)))), (k2 4, .inl (t3, (20, .inl (fun _ => 0)))), (k2 5, .inl (t3, (200, .inl (fun _ => 0)))), (k2 6, .inl (t3, (5, .inl (fun _ => 0)))), (k2 7, .inr (6, [.int 1, .int 1, .int 0, .int 0]))] := hD
  refine lv_aload_n hx hb dX8_init_15 rfl (lv_at hl 0 rfl) ?_
  refine va_getsN hx hb hE.2.2.2.2.2.1.1 hS hown (va_Nw.use rfl (hE.1.2.1 ("OnlyTwo$Reader", 18, "OnlyTwo", "LOWEST_OF_PORTER", "[I", "OnlyTwo") (by decide +kernel))) (fun _ h9 => h9) dX8_init_16 ?_
  refine va_tlen (v := 4) hx hb hE.2.2.2.2.2.1.2 hS (by decide) dX8_init_19 ?_
  refine va_newa (atype := .int) (ty := .int) (N' := 4) (a0 := (4, .inl (fun _ => 0))) hx hb (hts (.arrayClass .int) (by decide +kernel)) rfl hK hP hD hS hA (fun _ => rfl) (by decide) (by decide) (by decide) (Nat.le_of_ble_eq_true rfl) (Nat.le_of_ble_eq_true rfl) dX8_init_20 (fun q6 c7 H hK hP hD hS => ?_)
  have hK : va_K (dC, dI) vwCl [(t3, .int), (t4, .object "OnlyTwo$Plain"), (c7, .int)] s := hK
  obtain rfl : t3 = c7 := (kEqI hK 0 2 rfl rfl).symm
  have hP : va_P (dC, dI) vwCl [(a, .inr (8, [.ref (k2 0), .null, .null, .int 0, .int 0, .int 0, .int 0, .int 0, .int 0])), (k2 0, .inr (1, [.ref (k2 1), .ref (k2 2), .ref (k2 3), .ref (k2 4), .ref (k2 5), .ref (k2 6), .int 0, .int 0, .int 0, .int 0])), (k2 1, .inl (t4, 6, .inr (.inr (.inr (.inr (g5)))))), (k2 2, .inl (t3, (4, .inl (va_cpy (ssI 2) (fun _ => 0) 0 0 4)))), (k2 3, .inl (t3, (20, .inl (fun _ => 0)))), (k2 4, .inl (t3, (20, .inl (fun _ => 0)))), (k2 5, .inl (t3, (200, .inl (fun _ => 0)))), (k2 6, .inl (t3, (5, .inl (fun _ => 0)))), (k2 7, .inr (6, [.int 1, .int 1, .int 0, .int 0])), (q6, .inl (t3, (4, .inl (fun _ => 0))))] H := hP
  have hD : va_D A [(a, .inr (8, [.ref (k2 0), .null, .null, .int 0, .int 0, .int 0, .int 0, .int 0, .int 0])), (k2 0, .inr (1, [.ref (k2 1), .ref (k2 2), .ref (k2 3), .ref (k2 4), .ref (k2 5), .ref (k2 6), .int 0, .int 0, .int 0, .int 0])), (k2 1, .inl (t4, 6, .inr (.inr (.inr (.inr (g5)))))), (k2 2, .inl (t3, (4, .inl (va_cpy (ssI 2) (fun _ => 0) 0 0 4)))), (k2 3, .inl (t3, (20, .inl (fun _ => 0)))), (k2 4, .inl (t3, (20, .inl (fun _ => 0)))), (k2 5, .inl (t3, (200, .inl (fun _ => 0)))), (k2 6, .inl (t3, (5, .inl (fun _ => 0)))), (k2 7, .inr (6, [.int 1, .int 1, .int 0, .int 0])), (q6, .inl (t3, (4, .inl (fun _ => 0))))] := hD
  refine W.widen (k := 9) (n := 273) (Nat.le_of_ble_eq_true rfl) (Nat.le_of_ble_eq_true rfl) ?_
  refine va_putF (D := (dC, dI)) (ci := 8) (v := .ref q6) (ty := .array .int) (C := RX8) (T := TX8) (N := 9) hx hb hts hin8 tyX8 tyX8_ok nmX8 hown hK hP hD hS 0 rfl rfl 1 (by decide) (hts (.fieldLink RX8 22 "OnlyTwo$Reader" "told" "[I") (by decide +kernel)) (fun _ h9 => h9) rfl hin rfl (by decide +kernel) rfl rfl (Nat.le_of_ble_eq_true rfl) dX8_init_22 (fun H locs hP hD hS => ?_)
  have hP : va_P (dC, dI) vwCl [(a, .inr (8, [.ref (k2 0), .ref q6, .null, .int 0, .int 0, .int 0, .int 0, .int 0, .int 0])), (k2 0, .inr (1, [.ref (k2 1), .ref (k2 2), .ref (k2 3), .ref (k2 4), .ref (k2 5), .ref (k2 6), .int 0, .int 0, .int 0, .int 0])), (k2 1, .inl (t4, 6, .inr (.inr (.inr (.inr (g5)))))), (k2 2, .inl (t3, (4, .inl (va_cpy (ssI 2) (fun _ => 0) 0 0 4)))), (k2 3, .inl (t3, (20, .inl (fun _ => 0)))), (k2 4, .inl (t3, (20, .inl (fun _ => 0)))), (k2 5, .inl (t3, (200, .inl (fun _ => 0)))), (k2 6, .inl (t3, (5, .inl (fun _ => 0)))), (k2 7, .inr (6, [.int 1, .int 1, .int 0, .int 0])), (q6, .inl (t3, (4, .inl (fun _ => 0))))] H := hP
  have hD : va_D A [(a, .inr (8, [.ref (k2 0), .ref q6, .null, .int 0, .int 0, .int 0, .int 0, .int 0, .int 0])), (k2 0, .inr (1, [.ref (k2 1), .ref (k2 2), .ref (k2 3), .ref (k2 4), .ref (k2 5), .ref (k2 6), .int 0, .int 0, .int 0, .int 0])), (k2 1, .inl (t4, 6, .inr (.inr (.inr (.inr (g5)))))), (k2 2, .inl (t3, (4, .inl (va_cpy (ssI 2) (fun _ => 0) 0 0 4)))), (k2 3, .inl (t3, (20, .inl (fun _ => 0)))), (k2 4, .inl (t3, (20, .inl (fun _ => 0)))), (k2 5, .inl (t3, (200, .inl (fun _ => 0)))), (k2 6, .inl (t3, (5, .inl (fun _ => 0)))), (k2 7, .inr (6, [.int 1, .int 1, .int 0, .int 0])), (q6, .inl (t3, (4, .inl (fun _ => 0))))] := hD
  refine lv_aload_n hx hb dX8_init_25 rfl (lv_at hl 0 rfl) ?_
  refine lv_aload_n hx hb dX8_init_26 rfl (lv_at hl 0 rfl) ?_
  refine va_get (D := (dC, dI)) (ci := 8) (v := .ref (k2 0)) (C := RX8) (T := TX8) (N := 9) hx hb hts hin8 hown hK hP 0 rfl rfl 0 (by decide) (hts (.fieldLink RX8 12 "OnlyTwo$Reader" "draft" "LOnlyTwo$Camp;") (by decide +kernel)) (fun _ h9 => h9) rfl dX8_init_27 ?_
  refine va_get (D := (dC, dI)) (ci := 1) (v := .ref (k2 5)) (C := RX1) (T := TX1) (N := 10) hx hb hts hin1 hown hK hP 1 rfl rfl 4 (by decide) (hts (.fieldLink RX8 25 "OnlyTwo$Camp" "text" "[I") (by decide +kernel)) (fun _ h9 => h9) rfl dX8_init_30 ?_
  refine va_put (D := (dC, dI)) (ci := 8) (v := .ref (k2 5)) (ty := .array .int) (C := RX8) (T := TX8) (N := 9) hx hb hts hin8 tyX8 tyX8_ok nmX8 hown hK hP hD hS 0 rfl rfl 2 (by decide) (hts (.fieldLink RX8 28 "OnlyTwo$Reader" "text" "[I") (by decide +kernel)) (fun _ h9 => h9) rfl (by decide +kernel) rfl rfl (Nat.le_of_ble_eq_true rfl) dX8_init_33 (fun H locs hP hD hS => ?_)
  have hP : va_P (dC, dI) vwCl [(a, .inr (8, [.ref (k2 0), .ref q6, .ref (k2 5), .int 0, .int 0, .int 0, .int 0, .int 0, .int 0])), (k2 0, .inr (1, [.ref (k2 1), .ref (k2 2), .ref (k2 3), .ref (k2 4), .ref (k2 5), .ref (k2 6), .int 0, .int 0, .int 0, .int 0])), (k2 1, .inl (t4, 6, .inr (.inr (.inr (.inr (g5)))))), (k2 2, .inl (t3, (4, .inl (va_cpy (ssI 2) (fun _ => 0) 0 0 4)))), (k2 3, .inl (t3, (20, .inl (fun _ => 0)))), (k2 4, .inl (t3, (20, .inl (fun _ => 0)))), (k2 5, .inl (t3, (200, .inl (fun _ => 0)))), (k2 6, .inl (t3, (5, .inl (fun _ => 0)))), (k2 7, .inr (6, [.int 1, .int 1, .int 0, .int 0])), (q6, .inl (t3, (4, .inl (fun _ => 0))))] H := hP
  have hD : va_D A [(a, .inr (8, [.ref (k2 0), .ref q6, .ref (k2 5), .int 0, .int 0, .int 0, .int 0, .int 0, .int 0])), (k2 0, .inr (1, [.ref (k2 1), .ref (k2 2), .ref (k2 3), .ref (k2 4), .ref (k2 5), .ref (k2 6), .int 0, .int 0, .int 0, .int 0])), (k2 1, .inl (t4, 6, .inr (.inr (.inr (.inr (g5)))))), (k2 2, .inl (t3, (4, .inl (va_cpy (ssI 2) (fun _ => 0) 0 0 4)))), (k2 3, .inl (t3, (20, .inl (fun _ => 0)))), (k2 4, .inl (t3, (20, .inl (fun _ => 0)))), (k2 5, .inl (t3, (200, .inl (fun _ => 0)))), (k2 6, .inl (t3, (5, .inl (fun _ => 0)))), (k2 7, .inr (6, [.int 1, .int 1, .int 0, .int 0])), (q6, .inl (t3, (4, .inl (fun _ => 0))))] := hD
  have hP : va_P (dC, dI) vwCl (nwR t3 t4 (fun k => ([a, k2 0, k2 1, k2 2, k2 3, k2 4, k2 5, k2 6, k2 7, q6] : List Nat).getD k 0) g5) H := hP
  have hD : va_D A (nwR t3 t4 (fun k => ([a, k2 0, k2 1, k2 2, k2 3, k2 4, k2 5, k2 6, k2 7, q6] : List Nat).getD k 0) g5) := hD
  have hK := hK.sub (tys' := [(t3, .int), (t4, .object "OnlyTwo$Plain")]) [0, 1] rfl
  exact rtN hx hb hr hlocks (fun U hU hW => ⟨(fun k => ([a, k2 0, k2 1, k2 2, k2 3, k2 4, k2 5, k2 6, k2 7, q6] : List Nat).getD k 0), t3, t4, g5, rfl, egg5, by rw [hU]; exact hP, hD, va_K.moved hW.alike hK⟩) hS dX8_init_36

