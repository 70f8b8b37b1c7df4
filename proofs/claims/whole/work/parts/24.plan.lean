def k_X10_withAllOf_6 (y1 : Int64) : Option Int64 :=
  some y1
def b_X10_withAllOf_6 (p0 : Int32) (y2 : Int64) (y3 : Int32) : Option ((Int64 × Int32) ⊕ Int64) :=
  (if 6 ≤ y3 then (some (Sum.inr y2)) else (Option.bind (f_X10_hasPorterIn p0 y3) (fun r4 => (if r4 = 0 then (Option.bind (some (y3 + 1)) (fun x5 => some (Sum.inl (y2, x5)))) else (Option.bind (rdJ 6 wiJ y3) (fun x6 => Option.bind (some (y2 &&& (x6 ^^^ (-1)))) (fun x7 => Option.bind (some (y3 + 1)) (fun x8 => some (Sum.inl (x7, x8))))))))))
def f_X10_withAllOf (p0 : Int32) : Option Int64 :=
  Option.bind (lp (fun s => b_X10_withAllOf_6 p0 s.1 s.2) FU ((-1), 0)) (fun s => k_X10_withAllOf_6 s)
def rmX10_withAllOf : Room := { frames := 1, cells := 0, slots := 0, locals := 21 }
abbrev RRX10_withAllOf : Room := (headSpec wsX10_withAllOf rmX10_withAllOf).room
set_option maxHeartbeats 4000000 in
set_option maxRecDepth 100000 in
theorem c_X10_withAllOf (l : Launch) (ts aK aV : Nat → Nat) (sz : Nat) (p0 : Int32) (r : Int64) (hf : f_X10_withAllOf p0 = some r) : cXl l yX10_withAllOf wsX10_withAllOf rmX10_withAllOf sz [.int p0] (fun U => enC ts aK aV (fun q => sz ≤ q) U U.heap) r := by
  refine Met.ofW (cc := cX10_withAllOf) (maxL := 4) (ret := (some .long)) (by decide) rfl ?_
  intro p e s m args below meth c s₁ B hml hv
  obtain ⟨hargs, hsz, hXX⟩ := hv
  have hx := B.exec
  have hb := B.bytes
  have hr := B.returns
  have hts := atoms_spec (ws := wsX10_withAllOf) B.pre
  have hown : s.vm.findClass RX10 = some m.cls := findClass_of_methodNamed B.named
  have hlocks := B.notSynchronized
  have hsz : s.heap.size = sz := hsz
  subst hsz
  obtain ⟨A, hAe⟩ : ∃ A : Nat → Prop, A = fun q => s.heap.size ≤ q := ⟨_, rfl⟩
  rw [← hAe]
  have hA : ∀ q : Nat, s.heap.size ≤ q → A q := fun q h => by rw [hAe]; exact h
  have hE : enC ts aK aV A s s.heap := by rw [hAe]; exact hXX
  have hS : va_S A s.heap s.heap [] := va_S.rf
  have hl := lv_entry ([.int p0]) (n := 4) (Nat.le_of_ble_eq_true rfl)
  rw [show entryFrame m args 4 = entryFrame m ([.int p0] : List Value).toArray 4 from by rw [hargs], lg_entry_eq]
  generalize (lg_sl ([.int p0]) ++ List.replicate (4 - (lg_sl ([.int p0])).length) Slot.unset).toArray = ls at hl ⊢
  have hl : lv_has ls 4 [(0, .int p0)] := hl
  unfold f_X10_withAllOf at hf
  refine lv_ldc2 (v := (-1)) hx hb hown (hts (.constantLong RX10 223 (-1)) (by decide +kernel)) dX10_withAllOf_0 ?_
  refine lv_lstore_n (lv' := [(1, .long (-1)), (0, .int p0)]) hx hb dX10_withAllOf_3 rfl hl (by decide) rfl (fun ls hl => ?_)
  refine lv_iconst (v := 0) hx hb dX10_withAllOf_4 (by decide) ?_
  refine lv_istore_n (lv' := [(3, .int 0), (1, .long (-1)), (0, .int p0)]) hx hb dX10_withAllOf_5 rfl hl (by decide) rfl (fun ls hl => ?_)
  have K6 : ∀ (y1 : Int64) (H : Heap) (locs : List Loc) (ls : Array Slot), k_X10_withAllOf_6 y1 = some r → va_S A s.heap H locs → lv_has ls 4 [(1, .long y1)] → W p l e RRX10_withAllOf s m args below meth c H locs 0 0 (MQ below (qcEl A r) args s 0 0 A) (F0 m 38 ls []) := by
    intro y1 H locs ls hf hS hl
    unfold k_X10_withAllOf_6 at hf
    refine lv_lload_n hx hb dX10_withAllOf_38 rfl (lv_at hl 0 rfl) ?_
    exact rtEl hx hb hr hlocks hS hf dX10_withAllOf_39
  obtain ⟨z6, ez6, hz6⟩ := bd hf
  have L6 : ∀ (n : Nat) (y2 : Int64) (y3 : Int32) (H : Heap) (locs : List Loc) (ls : Array Slot), lp (fun s => b_X10_withAllOf_6 p0 s.1 s.2) n (y2, y3) = some z6 → va_S A s.heap H locs → lv_has ls 4 [(0, .int p0), (1, .long y2), (3, .int y3)] → W p l e RRX10_withAllOf s m args below meth c H locs 0 0 (MQ below (qcEl A r) args s 0 0 A) (F0 m 6 ls []) := by
    intro n
    induction n with
    | zero => intro y2 y3 H locs ls hf; exact lp_z hf
    | succ n ih6 =>
      intro y2 y3 H locs ls hf hS hl
      obtain ⟨q6, hf, hq6⟩ := lp_i hf
      have hf : b_X10_withAllOf_6 p0 y2 y3 = some q6 := hf
      unfold b_X10_withAllOf_6 at hf
      refine lv_iload_n hx hb dX10_withAllOf_6 rfl (lv_at hl 2 rfl) ?_
      refine lv_bipush (v := 6) hx hb dX10_withAllOf_7 (by decide) ?_
      refine lv_icmp_ge (tgt := 38) hx hb dX10_withAllOf_9 (by decide) (fun c10 => ?_) (fun c10 => ?_)
      · have hf := (if_pos c10).symm.trans hf
        exact K6 y2 _ _ _ (lp_x (k := (fun s => k_X10_withAllOf_6 s)) (lp_r hf hq6) hz6) hS (lv_sub hl [1] rfl)
      · have hf := (if_neg c10).symm.trans hf
        refine lv_iload_n hx hb dX10_withAllOf_12 rfl (lv_at hl 0 rfl) ?_
        refine lv_iload_n hx hb dX10_withAllOf_13 rfl (lv_at hl 2 rfl) ?_
        obtain ⟨r4, er4, hf⟩ := bd hf
        refine klXi (rest := []) (As := [.int p0, .int y3]) ⟨hx, hb, hml, hown, hts⟩ (c_X10_hasPorterIn l H.size p0 y3 r4 er4) (fun _ _ _ _ _ => trivial) (fun _ _ _ => trivial) (va_cwS 2 hts gX10_withAllOf_X10_hasPorterIn rfl rfl rfl (by decide +kernel) ⟨Nat.le_of_ble_eq_true rfl, Nat.le_of_ble_eq_true rfl⟩) rfl hl.1 rfl (Nat.le_of_ble_eq_true rfl) dX10_withAllOf_14 ⟨Nat.zero_le _, Nat.zero_le _⟩ hS hA (fun H2 locs hk hS => ?_)
        generalize H2 = H at hS ⊢
        refine lv_if_eq (tgt := 32) hx hb dX10_withAllOf_17 (by decide) (fun c9 => ?_) (fun c9 => ?_)
        · have hf := (if_pos c9).symm.trans hf
          obtain ⟨x5, ex5, hf⟩ := bn hf
          refine lv_iinc (v := x5) (lv' := [(3, .int x5), (0, .int p0), (1, .long y2)]) hx hb dX10_withAllOf_32 hl (k := 2) rfl (by rw [ex5]; rfl) (by decide) rfl (fun ls hl => ?_)
          refine lv_goto (tgt := 6) hx hb dX10_withAllOf_35 (by decide) ?_
          exact ih6 y2 x5 _ _ _ (lp_l hf hq6) hS (lv_sub hl [1, 2, 0] rfl)
        · have hf := (if_neg c9).symm.trans hf
          refine lv_lload_n hx hb dX10_withAllOf_20 rfl (lv_at hl 1 rfl) ?_
          refine va_gets hx hb hE.2.2.1.1 hS hown (hts (.fieldLink RX10 225 "OnlyTwo" "WITHOUT" "[J") (by decide +kernel)) (fun _ h9 => h9) dX10_withAllOf_21 ?_
          refine lv_iload_n hx hb dX10_withAllOf_24 rfl (lv_at hl 2 rfl) ?_
          obtain ⟨x6, hix6, ex6, hf⟩ := rdJ_b hf
          refine va_tl hx hb hE.2.2.1.2 hS hix6 rfl dX10_withAllOf_25 (kJ ex6 ?_)
          refine lv_ldc2 (v := (-1)) hx hb hown (hts (.constantLong RX10 223 (-1)) (by decide +kernel)) dX10_withAllOf_26 ?_
          refine lv_lxor hx hb dX10_withAllOf_29 ?_
          refine lv_land hx hb dX10_withAllOf_30 ?_
          refine lv_topl (fun x7 ex7 => ?_)
          have hf := bs ex7 hf
          refine lv_lstore_n (lv' := [(1, .long x7), (0, .int p0), (3, .int y3)]) hx hb dX10_withAllOf_31 rfl hl (by decide) rfl (fun ls hl => ?_)
          obtain ⟨x8, ex8, hf⟩ := bn hf
          refine lv_iinc (v := x8) (lv' := [(3, .int x8), (1, .long x7), (0, .int p0)]) hx hb dX10_withAllOf_32 hl (k := 2) rfl (by rw [ex8]; rfl) (by decide) rfl (fun ls hl => ?_)
          refine lv_goto (tgt := 6) hx hb dX10_withAllOf_35 (by decide) ?_
          exact ih6 x7 x8 _ _ _ (lp_l hf hq6) hS (lv_sub hl [2, 1, 0] rfl)
  exact L6 FU (-1) 0 _ _ _ ez6 hS (lv_sub hl [2, 1, 0] rfl)

def k_J7_fill_d0a16_36_6 (S1 : CS) : Option CS :=
  some S1
def b_J7_fill_d0a16_36_6 (p1 : Int64) (y2 : Int32) (S3 : CS) : Option ((Int32 × CS) ⊕ CS) :=
  (if 241 ≤ y2 then (some (Sum.inr S3)) else (Option.bind (wrJ S3 36 241 y2 p1) (fun S4 => Option.bind (some (y2 + 1)) (fun x5 => some (Sum.inl (x5, S4))))))
def f_J7_fill_d0a16_36 (S : CS) (p1 : Int64) : Option CS :=
  Option.bind (lp (fun s => b_J7_fill_d0a16_36_6 p1 s.1 s.2) FU (0, S)) (fun s => k_J7_fill_d0a16_36_6 s)
def rmJ7_fill_d0a16_36 : Room := { frames := 0, cells := 0, slots := 0, locals := 0 }
abbrev RRJ7_fill_d0a16_36 : Room := (headSpec wsJ7_fill_d0a16 rmJ7_fill_d0a16_36).room
set_option maxHeartbeats 4000000 in
set_option maxRecDepth 100000 in
theorem c_J7_fill_d0a16_36 (l : Launch) (dC : Nat → ClassId) (dI : Nat → Nat → Nat) (t : Nat → ClassId) (ts aK aV : Nat → Nat) (A : Nat → Prop) (h : Nat → Nat) (tx : Nat) (sz : Nat) (hA0 : ∀ q : Nat, sz ≤ q → A q) (S : CS) (p1 : Int64) (S' : CS) (hf : f_J7_fill_d0a16_36 S p1 = some S') : cCv l yJ7_fill_d0a16 wsJ7_fill_d0a16 rmJ7_fill_d0a16_36 dC dI t ts aK aV A h tx tx sz [.ref (h 36), .long p1] S S' := by
  refine Met.ofW (cc := cJ7_fill_d0a16) (maxL := 5) (ret := none) (by decide) rfl ?_
  intro p e s m args below meth c s₁ B hml hv
  obtain ⟨hargs, hsz, hE, hC, hK⟩ := hv
  have hx := B.exec
  have hb := B.bytes
  have hr := B.returns
  have hts := atoms_spec (ws := wsJ7_fill_d0a16) B.pre
  have hown : s.vm.findClass RJ7 = some m.cls := findClass_of_methodNamed B.named
  have hlocks := B.notSynchronized
  have hsz : s.heap.size = sz := hsz
  subst hsz
  have hA : ∀ q : Nat, s.heap.size ≤ q → A q := hA0
  obtain ⟨g, LP, pf, hP, hD, hG⟩ := hC
  have hS : va_S A s.heap s.heap [] := va_S.rf
  have hl := lv_entry ([.ref (h 36), .long p1]) (n := 5) (Nat.le_of_ble_eq_true rfl)
  rw [show entryFrame m args 5 = entryFrame m ([.ref (h 36), .long p1] : List Value).toArray 5 from by rw [hargs], lg_entry_eq]
  generalize (lg_sl ([.ref (h 36), .long p1]) ++ List.replicate (5 - (lg_sl ([.ref (h 36), .long p1])).length) Slot.unset).toArray = ls at hl ⊢
  have hl : lv_has ls 5 [(0, .ref (h 36)), (1, .long p1)] := hl
  unfold f_J7_fill_d0a16_36 at hf
  refine lv_iconst (v := 0) hx hb dJ7_fill_d0a16_0 (by decide) ?_
  refine lv_istore_n (lv' := [(3, .int 0), (0, .ref (h 36)), (1, .long p1)]) hx hb dJ7_fill_d0a16_1 rfl hl (by decide) rfl (fun ls hl => ?_)
  refine lv_aload_n hx hb dJ7_fill_d0a16_2 rfl (lv_at hl 1 rfl) ?_
  refine va_alen (v := 241) hx hb hK hP 36 2 rfl rfl rfl dJ7_fill_d0a16_3 ?_
  refine lv_istore (lv' := [(4, .int 241), (3, .int 0), (0, .ref (h 36)), (1, .long p1)]) hx hb dJ7_fill_d0a16_4 hl (by decide) rfl (fun ls hl => ?_)
  have K6 : ∀ (S1 : CS) (g : Nat → Nat → Option Nat) (LP : List Nat) (pf : Nat → va_E) (H : Heap) (locs : List Loc) (ls : Array Slot), k_J7_fill_d0a16_36_6 S1 = some S' → va_P (dC, dI) vwCl (wC t h tx g S1 ++ va_pl LP pf) H → va_D A (wC t h tx g S1 ++ va_pl LP pf) → rlC g LP pf S1 → va_S A s.heap H locs → lv_has ls 5 [] → W p l e RRJ7_fill_d0a16_36 s m args below meth c H locs 0 0 (MQ below (qcCv dC dI t A h tx S') args s 0 0 A) (F0 m 22 ls []) := by
    intro S1 g LP pf H locs ls hf hP hD hG hS hl
    unfold k_J7_fill_d0a16_36_6 at hf
    exact rtCv hx hb hr hlocks ⟨g, LP, pf, hP, hD, hG⟩ hS hf dJ7_fill_d0a16_22
  obtain ⟨z6, ez6, hz6⟩ := bd hf
  have L6 : ∀ (n : Nat) (y2 : Int32) (S3 : CS) (g : Nat → Nat → Option Nat) (LP : List Nat) (pf : Nat → va_E) (H : Heap) (locs : List Loc) (ls : Array Slot), lp (fun s => b_J7_fill_d0a16_36_6 p1 s.1 s.2) n (y2, S3) = some z6 → va_P (dC, dI) vwCl (wC t h tx g S3 ++ va_pl LP pf) H → va_D A (wC t h tx g S3 ++ va_pl LP pf) → rlC g LP pf S3 → va_S A s.heap H locs → lv_has ls 5 [(0, .ref (h 36)), (1, .long p1), (3, .int y2), (4, .int 241)] → W p l e RRJ7_fill_d0a16_36 s m args below meth c H locs 0 0 (MQ below (qcCv dC dI t A h tx S') args s 0 0 A) (F0 m 6 ls []) := by
    intro n
    induction n with
    | zero => intro y2 S3 g LP pf H locs ls hf; exact lp_z hf
    | succ n ih6 =>
      intro y2 S3 g LP pf H locs ls hf hP hD hG hS hl
      obtain ⟨q6, hf, hq6⟩ := lp_i hf
      have hf : b_J7_fill_d0a16_36_6 p1 y2 S3 = some q6 := hf
      unfold b_J7_fill_d0a16_36_6 at hf
      refine lv_iload_n hx hb dJ7_fill_d0a16_6 rfl (lv_at hl 2 rfl) ?_
      refine lv_iload hx hb dJ7_fill_d0a16_7 (lv_at hl 3 rfl) ?_
      refine lv_icmp_ge (tgt := 22) hx hb dJ7_fill_d0a16_9 (by decide) (fun c6 => ?_) (fun c6 => ?_)
      · have hf := (if_pos c6).symm.trans hf
        exact K6 S3 _ _ _ _ _ _ (lp_x (k := (fun s => k_J7_fill_d0a16_36_6 s)) (lp_r hf hq6) hz6) hP hD hG hS (lv_sub hl [] rfl)
      · have hf := (if_neg c6).symm.trans hf
        refine lv_aload_n hx hb dJ7_fill_d0a16_12 rfl (lv_at hl 0 rfl) ?_
        refine lv_iload_n hx hb dJ7_fill_d0a16_13 rfl (lv_at hl 2 rfl) ?_
        refine lv_lload_n hx hb dJ7_fill_d0a16_14 rfl (lv_at hl 1 rfl) ?_
        obtain ⟨S4, hiS4, eS4, hf⟩ := wrJ_b hf
        refine va_last hx hb hK hP hD hS 36 2 rfl rfl hiS4 dJ7_fill_d0a16_15 (fun H locs hP hD hS => ?_)
        have hP : va_P (dC, dI) vwCl (wC t h tx g S4 ++ va_pl LP pf) H := by rw [eS4]; exact hP
        have hD : va_D A (wC t h tx g S4 ++ va_pl LP pf) := by rw [eS4]; exact hD
        have hG : rlC g LP pf S4 := by rw [eS4]; exact hG
        obtain ⟨x5, ex5, hf⟩ := bn hf
        refine lv_iinc (v := x5) (lv' := [(3, .int x5), (0, .ref (h 36)), (1, .long p1), (4, .int 241)]) hx hb dJ7_fill_d0a16_16 hl (k := 2) rfl (by rw [ex5]; rfl) (by decide) rfl (fun ls hl => ?_)
        refine lv_goto (tgt := 6) hx hb dJ7_fill_d0a16_19 (by decide) ?_
        exact ih6 x5 S4 _ _ _ _ _ _ (lp_l hf hq6) hP hD hG hS (lv_sub hl [1, 2, 0, 3] rfl)
  exact L6 FU 0 S _ _ _ _ _ _ ez6 hP hD hG hS (lv_sub hl [2, 3, 1, 0] rfl)

def f_X7_mayCross_33 (S : CS) (p0 : Int32) (p1 : Int32) (p2 : Int32) : Option Int32 :=
  Option.bind (rdJ 240 (S.2.1 35) p1) (fun x1 => (if (lg_cmp (((Int64.toUInt64 x1 >>> ((Int32.toInt64 p0).toUInt64 &&& Int64.toUInt64 63)).toInt64) &&& 1) 0) = 0 then (some 0) else (Option.bind (rdI 64 (S.1 38) p0) (fun x2 => (if p2 < (p1 + x2) then (some 0) else (some 1))))))
def rmX7_mayCross_33 : Room := { frames := 0, cells := 0, slots := 0, locals := 0 }
abbrev RRX7_mayCross_33 : Room := (headSpec wsX7_mayCross rmX7_mayCross_33).room
theorem in7_X7_mayCross_33 : ∀ w ∈ wsX70, w ∈ wsX7_mayCross := by decide +kernel
set_option maxHeartbeats 4000000 in
set_option maxRecDepth 100000 in
theorem c_X7_mayCross_33 (l : Launch) (dC : Nat → ClassId) (dI : Nat → Nat → Nat) (t : Nat → ClassId) (ts aK aV : Nat → Nat) (A : Nat → Prop) (h : Nat → Nat) (tx : Nat) (sz : Nat) (hA0 : ∀ q : Nat, sz ≤ q → A q) (S : CS) (p0 : Int32) (p1 : Int32) (p2 : Int32) (r : Int32) (hf : f_X7_mayCross_33 S p0 p1 p2 = some r) : cCi l yX7_mayCross wsX7_mayCross rmX7_mayCross_33 dC dI t ts aK aV A h tx tx sz [.ref (h 33), .int p0, .int p1, .int p2] S r S := by
  refine Met.ofW (cc := cX7_mayCross) (maxL := 4) (ret := (some .boolean)) (by decide) rfl ?_
  intro p e s m args below meth c s₁ B hml hv
  obtain ⟨hargs, hsz, hE, hC, hK⟩ := hv
  have hx := B.exec
  have hb := B.bytes
  have hr := B.returns
  have hts := atoms_spec (ws := wsX7_mayCross) B.pre
  have hown : s.vm.findClass RX7 = some m.cls := findClass_of_methodNamed B.named
  have hlocks := B.notSynchronized
  have hsz : s.heap.size = sz := hsz
  subst hsz
  have hin7 := in7_X7_mayCross_33
  have lk15_7 : Cond.fieldLink RX7 15 (TX7 7).1 (TX7 7).2.1 (TX7 7).2.2.1 ∈ wsX7_mayCross := by decide +kernel
  have lk25_7 : Cond.fieldLink RX7 25 (TX7 10).1 (TX7 10).2.1 (TX7 10).2.2.1 ∈ wsX7_mayCross := by decide +kernel
  have hA : ∀ q : Nat, s.heap.size ≤ q → A q := hA0
  obtain ⟨g, LP, pf, hP, hD, hG⟩ := hC
  have hS : va_S A s.heap s.heap [] := va_S.rf
  have hl := lv_entry ([.ref (h 33), .int p0, .int p1, .int p2]) (n := 4) (Nat.le_of_ble_eq_true rfl)
  rw [show entryFrame m args 4 = entryFrame m ([.ref (h 33), .int p0, .int p1, .int p2] : List Value).toArray 4 from by rw [hargs], lg_entry_eq]
  generalize (lg_sl ([.ref (h 33), .int p0, .int p1, .int p2]) ++ List.replicate (4 - (lg_sl ([.ref (h 33), .int p0, .int p1, .int p2])).length) Slot.unset).toArray = ls at hl ⊢
  have hl : lv_has ls 4 [(0, .ref (h 33)), (1, .int p0), (2, .int p1), (3, .int p2)] := hl
  unfold f_X7_mayCross_33 at hf
  refine lv_aload_n hx hb dX7_mayCross_0 rfl (lv_at hl 0 rfl) ?_
  refine va_get (D := (dC, dI)) (ci := 7) (v := .ref (h 35)) (C := RX7) (T := TX7) (N := 12) hx hb hts hin7 hown hK hP 33 rfl rfl 7 (by decide) (hts _ lk15_7) (fun _ h9 => h9) rfl dX7_mayCross_1 ?_
  refine lv_iload_n hx hb dX7_mayCross_4 rfl (lv_at hl 2 rfl) ?_
  obtain ⟨x1, hix1, ex1, hf⟩ := rdJ_b hf
  refine va_lald hx hb hK hP 35 2 rfl rfl hix1 dX7_mayCross_5 (kJ ex1 ?_)
  refine lv_iload_n hx hb dX7_mayCross_6 rfl (lv_at hl 1 rfl) ?_
  refine lv_lushr hx hb dX7_mayCross_7 rfl ?_
  refine lv_lconst (v := 1) hx hb dX7_mayCross_8 (by decide) ?_
  refine lv_land hx hb dX7_mayCross_9 ?_
  refine lv_lconst (v := 0) hx hb dX7_mayCross_10 (by decide) ?_
  refine W.lcmp hx hb dX7_mayCross_11 ?_
  refine lv_if_eq (tgt := 31) hx hb dX7_mayCross_12 (by decide) (fun c4 => ?_) (fun c4 => ?_)
  · have hf := (if_pos c4).symm.trans hf
    refine lv_iconst (v := 0) hx hb dX7_mayCross_31 (by decide) ?_
    exact rtCz hx hb hr hlocks ⟨g, LP, pf, hP, hD, hG⟩ hS rfl (congrArg (fun z => some (z, S)) (Option.some.inj hf)) dX7_mayCross_32
  · have hf := (if_neg c4).symm.trans hf
    refine lv_iload_n hx hb dX7_mayCross_15 rfl (lv_at hl 2 rfl) ?_
    refine lv_aload_n hx hb dX7_mayCross_16 rfl (lv_at hl 0 rfl) ?_
    refine va_get (D := (dC, dI)) (ci := 7) (v := .ref (h 38)) (C := RX7) (T := TX7) (N := 12) hx hb hts hin7 hown hK hP 33 rfl rfl 10 (by decide) (hts _ lk25_7) (fun _ h9 => h9) rfl dX7_mayCross_17 ?_
    refine lv_iload_n hx hb dX7_mayCross_20 rfl (lv_at hl 1 rfl) ?_
    obtain ⟨x2, hix2, ex2, hf⟩ := rd_b hf
    refine va_iald hx hb hK hP 38 0 rfl rfl hix2 dX7_mayCross_21 (kI ex2 ?_)
    refine lv_iadd hx hb dX7_mayCross_22 ?_
    refine lv_iload_n hx hb dX7_mayCross_23 rfl (lv_at hl 3 rfl) ?_
    refine lv_icmp_gt (tgt := 31) hx hb dX7_mayCross_24 (by decide) (fun c3 => ?_) (fun c3 => ?_)
    · have hf := (if_pos c3).symm.trans hf
      refine lv_iconst (v := 0) hx hb dX7_mayCross_31 (by decide) ?_
      exact rtCz hx hb hr hlocks ⟨g, LP, pf, hP, hD, hG⟩ hS rfl (congrArg (fun z => some (z, S)) (Option.some.inj hf)) dX7_mayCross_32
    · have hf := (if_neg c3).symm.trans hf
      refine lv_iconst (v := 1) hx hb dX7_mayCross_27 (by decide) ?_
      refine lv_goto (tgt := 32) hx hb dX7_mayCross_28 (by decide) ?_
      exact rtCz hx hb hr hlocks ⟨g, LP, pf, hP, hD, hG⟩ hS rfl (congrArg (fun z => some (z, S)) (Option.some.inj hf)) dX7_mayCross_32

def k_X7_findMinutes_33_78 (y4 : Int32) (S13 : CS) : Option ((Int32 × CS) ⊕ CS) :=
  Option.bind (some (y4 + 1)) (fun x14 => some (Sum.inl (x14, S13)))
def b_X7_findMinutes_33_78 (y4 : Int32) (y15 : Int32) (S16 : CS) : Option ((Int32 × CS) ⊕ CS) :=
  (if 21 ≤ y15 then (some (Sum.inr S16)) else (Option.bind (rdI 21 (ssI 0) y15) (fun x17 => Option.bind (f_X7_mayCross_33 S16 x17 y4 240) (fun r18 => (if r18 = 0 then (Option.bind (some (y15 + 1)) (fun x19 => some (Sum.inl (x19, S16)))) else (Option.bind (rdI 64 (S16.1 38) x17) (fun x20 => Option.bind (rdJ 241 (S16.2.1 36) (y4 + x20)) (fun x21 => Option.bind (rdJ 241 (S16.2.1 36) y4) (fun x22 => Option.bind (f_X10_crossed x22 x17) (fun r23 => Option.bind (wrJ S16 36 241 (y4 + x20) (x21 ||| r23)) (fun S24 => Option.bind (some (y15 + 1)) (fun x25 => some (Sum.inl (x25, S24))))))))))))))
def b_X7_findMinutes_33_22 (p0 : Int64) (y4 : Int32) (S5 : CS) : Option ((Int32 × CS) ⊕ CS) :=
  (if 240 ≤ y4 then (Option.bind (rdJ 241 (S5.2.1 36) 240) (fun x6 => (if (lg_cmp (x6 &&& p0) 0) = 0 then (some (Sum.inr S5)) else (Option.bind (some (siI S5 4301 (fun _ => 240))) (fun S7 => some (Sum.inr S7)))))) else (Option.bind (rdJ 241 (S5.2.1 36) y4) (fun x9 => (if (lg_cmp (x9 &&& p0) 0) = 0 then (Option.bind (rdJ 241 (S5.2.1 36) (y4 + 1)) (fun x10 => Option.bind (rdJ 241 (S5.2.1 36) y4) (fun x11 => Option.bind (wrJ S5 36 241 (y4 + 1) (x10 ||| x11)) (fun S12 => Option.bind (lp (fun s => b_X7_findMinutes_33_78 y4 s.1 s.2) FU (0, S12)) (fun s => k_X7_findMinutes_33_78 y4 s))))) else (Option.bind (some (siI S5 4301 (fun _ => y4))) (fun S28 => some (Sum.inr S28)))))))
def f_X7_findMinutes_33 (S : CS) (p0 : Int64) : Option CS :=
  Option.bind (some (siI S 4301 (fun _ => (-1)))) (fun S1 => Option.bind (f_J7_fill_d0a16_36 S1 0) (fun S2 => Option.bind (wrJ S2 36 241 0 1) (fun S3 => lp (fun s => b_X7_findMinutes_33_22 p0 s.1 s.2) FU (0, S3))))
def rmX7_findMinutes_33 : Room := { frames := 2, cells := 0, slots := 0, locals := 50 }
abbrev RRX7_findMinutes_33 : Room := (headSpec wsX7_findMinutes rmX7_findMinutes_33).room
theorem in7_X7_findMinutes_33 : ∀ w ∈ wsX70, w ∈ wsX7_findMinutes := by decide +kernel
set_option maxHeartbeats 4000000 in
set_option maxRecDepth 100000 in
theorem c_X7_findMinutes_33 (l : Launch) (dC : Nat → ClassId) (dI : Nat → Nat → Nat) (t : Nat → ClassId) (ts aK aV : Nat → Nat) (A : Nat → Prop) (h : Nat → Nat) (tx : Nat) (sz : Nat) (hA0 : ∀ q : Nat, sz ≤ q → A q) (S : CS) (p0 : Int64) (S' : CS) (hf : f_X7_findMinutes_33 S p0 = some S') : cCv l yX7_findMinutes wsX7_findMinutes rmX7_findMinutes_33 dC dI t ts aK aV A h tx tx sz [.ref (h 33), .long p0] S S' := by
  refine Met.ofW (cc := cX7_findMinutes) (maxL := 8) (ret := none) (by decide) rfl ?_
  intro p e s m args below meth c s₁ B hml hv
  obtain ⟨hargs, hsz, hE, hC, hK⟩ := hv
  have hx := B.exec
  have hb := B.bytes
  have hr := B.returns
  have hts := atoms_spec (ws := wsX7_findMinutes) B.pre
  have hown : s.vm.findClass RX7 = some m.cls := findClass_of_methodNamed B.named
  have hlocks := B.notSynchronized
  have hsz : s.heap.size = sz := hsz
  subst hsz
  have hin7 := in7_X7_findMinutes_33
  have lk19_7 : Cond.fieldLink RX7 19 (TX7 8).1 (TX7 8).2.1 (TX7 8).2.2.1 ∈ wsX7_findMinutes := by decide +kernel
  have lk25_7 : Cond.fieldLink RX7 25 (TX7 10).1 (TX7 10).2.1 (TX7 10).2.2.1 ∈ wsX7_findMinutes := by decide +kernel
  have lk70_7 : Cond.fieldLink RX7 70 (TX7 1).1 (TX7 1).2.1 (TX7 1).2.2.1 ∈ wsX7_findMinutes := by decide +kernel
  have hA : ∀ q : Nat, s.heap.size ≤ q → A q := hA0
  obtain ⟨g, LP, pf, hP, hD, hG⟩ := hC
  have hS : va_S A s.heap s.heap [] := va_S.rf
  have hl := lv_entry ([.ref (h 33), .long p0]) (n := 8) (Nat.le_of_ble_eq_true rfl)
  rw [show entryFrame m args 8 = entryFrame m ([.ref (h 33), .long p0] : List Value).toArray 8 from by rw [hargs], lg_entry_eq]
  generalize (lg_sl ([.ref (h 33), .long p0]) ++ List.replicate (8 - (lg_sl ([.ref (h 33), .long p0])).length) Slot.unset).toArray = ls at hl ⊢
  have hl : lv_has ls 8 [(0, .ref (h 33)), (1, .long p0)] := hl
  unfold f_X7_findMinutes_33 at hf
  refine lv_aload_n hx hb dX7_findMinutes_0 rfl (lv_at hl 0 rfl) ?_
  refine lv_iconst (v := (-1)) hx hb dX7_findMinutes_1 (by decide) ?_
  obtain ⟨S1, eS1, hf⟩ := bn hf
  refine va_put (D := (dC, dI)) (ci := 7) (v := .int (-1)) (ty := .int) (C := RX7) (T := TX7) (N := 12) hx hb hts hin7 tyX7 tyX7_ok nmX7 hown hK hP hD hS 33 rfl rfl 1 (by decide) (hts _ lk70_7) (fun _ h9 => h9) rfl (by decide +kernel) rfl rfl (Nat.le_of_ble_eq_true rfl) dX7_findMinutes_2 (fun H locs hP hD hS => ?_)
  have hP : va_P (dC, dI) vwCl (wC t h tx g S1 ++ va_pl LP pf) H := by rw [eS1]; exact hP
  have hD : va_D A (wC t h tx g S1 ++ va_pl LP pf) := by rw [eS1]; exact hD
  have hG : rlC g LP pf S1 := by rw [eS1]; exact hG
  refine lv_aload_n hx hb dX7_findMinutes_5 rfl (lv_at hl 0 rfl) ?_
  refine va_get (D := (dC, dI)) (ci := 7) (v := .ref (h 36)) (C := RX7) (T := TX7) (N := 12) hx hb hts hin7 hown hK hP 33 rfl rfl 8 (by decide) (hts _ lk19_7) (fun _ h9 => h9) rfl dX7_findMinutes_6 ?_
  refine lv_lconst (v := 0) hx hb dX7_findMinutes_9 (by decide) ?_
  obtain ⟨S2, eS2, hf⟩ := bd hf
  refine klCsv (rest := []) (As := [.ref (h 36), .long 0]) ⟨hx, hb, hml, hown, hts⟩ (c_J7_fill_d0a16_36 l dC dI t ts aK aV A h tx H.size (fun q hq => hA q (Nat.le_trans hS.1 hq)) S1 0 S2 eS2) (va_cwS 2 hts gX7_findMinutes_J7_fill_d0a16 rfl rfl rfl (by decide +kernel) ⟨Nat.le_of_ble_eq_true rfl, Nat.le_of_ble_eq_true rfl⟩) rfl hl.1 rfl (Nat.le_of_ble_eq_true rfl) dX7_findMinutes_10 ⟨Nat.zero_le _, Nat.zero_le _⟩ hE hK ⟨g, LP, pf, hP, hD, hG⟩ hS (fun H locs hC hS => ?_)
  obtain ⟨g, LP, pf, hP, hD, hG⟩ := hC
  refine lv_aload_n hx hb dX7_findMinutes_13 rfl (lv_at hl 0 rfl) ?_
  refine va_get (D := (dC, dI)) (ci := 7) (v := .ref (h 36)) (C := RX7) (T := TX7) (N := 12) hx hb hts hin7 hown hK hP 33 rfl rfl 8 (by decide) (hts _ lk19_7) (fun _ h9 => h9) rfl dX7_findMinutes_14 ?_
  refine lv_iconst (v := 0) hx hb dX7_findMinutes_17 (by decide) ?_
  refine lv_lconst (v := 1) hx hb dX7_findMinutes_18 (by decide) ?_
  obtain ⟨S3, hiS3, eS3, hf⟩ := wrJ_b hf
  refine va_last hx hb hK hP hD hS 36 2 rfl rfl hiS3 dX7_findMinutes_19 (fun H locs hP hD hS => ?_)
  have hP : va_P (dC, dI) vwCl (wC t h tx g S3 ++ va_pl LP pf) H := by rw [eS3]; exact hP
  have hD : va_D A (wC t h tx g S3 ++ va_pl LP pf) := by rw [eS3]; exact hD
  have hG : rlC g LP pf S3 := by rw [eS3]; exact hG
  refine lv_iconst (v := 0) hx hb dX7_findMinutes_20 (by decide) ?_
  refine lv_istore_n (lv' := [(3, .int 0), (0, .ref (h 33)), (1, .long p0)]) hx hb dX7_findMinutes_21 rfl hl (by decide) rfl (fun ls hl => ?_)
  have L22 : ∀ (n : Nat) (y4 : Int32) (S5 : CS) (g : Nat → Nat → Option Nat) (LP : List Nat) (pf : Nat → va_E) (H : Heap) (locs : List Loc) (ls : Array Slot), lp (fun s => b_X7_findMinutes_33_22 p0 s.1 s.2) n (y4, S5) = some S' → va_P (dC, dI) vwCl (wC t h tx g S5 ++ va_pl LP pf) H → va_D A (wC t h tx g S5 ++ va_pl LP pf) → rlC g LP pf S5 → va_S A s.heap H locs → lv_has ls 8 [(0, .ref (h 33)), (1, .long p0), (3, .int y4)] → W p l e RRX7_findMinutes_33 s m args below meth c H locs 0 0 (MQ below (qcCv dC dI t A h tx S') args s 0 0 A) (F0 m 22 ls []) := by
    intro n
    induction n with
    | zero => intro y4 S5 g LP pf H locs ls hf; exact lp_z hf
    | succ n ih22 =>
      intro y4 S5 g LP pf H locs ls hf hP hD hG hS hl
      obtain ⟨q22, hf, hq22⟩ := lp_i hf
      have hf : b_X7_findMinutes_33_22 p0 y4 S5 = some q22 := hf
      unfold b_X7_findMinutes_33_22 at hf
      refine lv_iload_n hx hb dX7_findMinutes_22 rfl (lv_at hl 2 rfl) ?_
      refine lv_sipush (v := 240) hx hb dX7_findMinutes_23 (by decide) ?_
      refine lv_icmp_ge (tgt := 145) hx hb dX7_findMinutes_26 (by decide) (fun c30 => ?_) (fun c30 => ?_)
      · have hf := (if_pos c30).symm.trans hf
        refine lv_aload_n hx hb dX7_findMinutes_145 rfl (lv_at hl 0 rfl) ?_
        refine va_get (D := (dC, dI)) (ci := 7) (v := .ref (h 36)) (C := RX7) (T := TX7) (N := 12) hx hb hts hin7 hown hK hP 33 rfl rfl 8 (by decide) (hts _ lk19_7) (fun _ h9 => h9) rfl dX7_findMinutes_146 ?_
        refine lv_sipush (v := 240) hx hb dX7_findMinutes_149 (by decide) ?_
        obtain ⟨x6, hix6, ex6, hf⟩ := rdJ_b hf
        refine va_lald hx hb hK hP 36 2 rfl rfl hix6 dX7_findMinutes_152 (kJ ex6 ?_)
        refine lv_lload_n hx hb dX7_findMinutes_153 rfl (lv_at hl 1 rfl) ?_
        refine lv_land hx hb dX7_findMinutes_154 ?_
        refine lv_lconst (v := 0) hx hb dX7_findMinutes_155 (by decide) ?_
        refine W.lcmp hx hb dX7_findMinutes_156 ?_
        refine lv_if_eq (tgt := 167) hx hb dX7_findMinutes_157 (by decide) (fun c8 => ?_) (fun c8 => ?_)
        · have hf := (if_pos c8).symm.trans hf
          have hf := lp_r hf hq22
          exact rtCv hx hb hr hlocks ⟨g, LP, pf, hP, hD, hG⟩ hS hf dX7_findMinutes_167
        · have hf := (if_neg c8).symm.trans hf
          refine lv_aload_n hx hb dX7_findMinutes_160 rfl (lv_at hl 0 rfl) ?_
          refine lv_sipush (v := 240) hx hb dX7_findMinutes_161 (by decide) ?_
          obtain ⟨S7, eS7, hf⟩ := bn hf
          refine va_put (D := (dC, dI)) (ci := 7) (v := .int 240) (ty := .int) (C := RX7) (T := TX7) (N := 12) hx hb hts hin7 tyX7 tyX7_ok nmX7 hown hK hP hD hS 33 rfl rfl 1 (by decide) (hts _ lk70_7) (fun _ h9 => h9) rfl (by decide +kernel) rfl rfl (Nat.le_of_ble_eq_true rfl) dX7_findMinutes_164 (fun H locs hP hD hS => ?_)
          have hP : va_P (dC, dI) vwCl (wC t h tx g S7 ++ va_pl LP pf) H := by rw [eS7]; exact hP
          have hD : va_D A (wC t h tx g S7 ++ va_pl LP pf) := by rw [eS7]; exact hD
          have hG : rlC g LP pf S7 := by rw [eS7]; exact hG
          have hf := lp_r hf hq22
          exact rtCv hx hb hr hlocks ⟨g, LP, pf, hP, hD, hG⟩ hS hf dX7_findMinutes_167
      · have hf := (if_neg c30).symm.trans hf
        refine lv_aload_n hx hb dX7_findMinutes_29 rfl (lv_at hl 0 rfl) ?_
        refine va_get (D := (dC, dI)) (ci := 7) (v := .ref (h 36)) (C := RX7) (T := TX7) (N := 12) hx hb hts hin7 hown hK hP 33 rfl rfl 8 (by decide) (hts _ lk19_7) (fun _ h9 => h9) rfl dX7_findMinutes_30 ?_
        refine lv_iload_n hx hb dX7_findMinutes_33 rfl (lv_at hl 2 rfl) ?_
        obtain ⟨x9, hix9, ex9, hf⟩ := rdJ_b hf
        refine va_lald hx hb hK hP 36 2 rfl rfl hix9 dX7_findMinutes_34 (kJ ex9 ?_)
        refine lv_lload_n hx hb dX7_findMinutes_35 rfl (lv_at hl 1 rfl) ?_
        refine lv_land hx hb dX7_findMinutes_36 ?_
        refine lv_lconst (v := 0) hx hb dX7_findMinutes_37 (by decide) ?_
        refine W.lcmp hx hb dX7_findMinutes_38 ?_
        refine lv_if_eq (tgt := 48) hx hb dX7_findMinutes_39 (by decide) (fun c29 => ?_) (fun c29 => ?_)
        · have hf := (if_pos c29).symm.trans hf
          refine lv_aload_n hx hb dX7_findMinutes_48 rfl (lv_at hl 0 rfl) ?_
          refine va_get (D := (dC, dI)) (ci := 7) (v := .ref (h 36)) (C := RX7) (T := TX7) (N := 12) hx hb hts hin7 hown hK hP 33 rfl rfl 8 (by decide) (hts _ lk19_7) (fun _ h9 => h9) rfl dX7_findMinutes_49 ?_
          refine lv_iload_n hx hb dX7_findMinutes_52 rfl (lv_at hl 2 rfl) ?_
          refine lv_iconst (v := 1) hx hb dX7_findMinutes_53 (by decide) ?_
          refine lv_iadd hx hb dX7_findMinutes_54 ?_
          refine lv_dup2_11 hx hb dX7_findMinutes_55 rfl rfl ?_
          obtain ⟨x10, hix10, ex10, hf⟩ := rdJ_b hf
          refine va_lald hx hb hK hP 36 2 rfl rfl hix10 dX7_findMinutes_56 (kJ ex10 ?_)
          refine lv_aload_n hx hb dX7_findMinutes_57 rfl (lv_at hl 0 rfl) ?_
          refine va_get (D := (dC, dI)) (ci := 7) (v := .ref (h 36)) (C := RX7) (T := TX7) (N := 12) hx hb hts hin7 hown hK hP 33 rfl rfl 8 (by decide) (hts _ lk19_7) (fun _ h9 => h9) rfl dX7_findMinutes_58 ?_
          refine lv_iload_n hx hb dX7_findMinutes_61 rfl (lv_at hl 2 rfl) ?_
          obtain ⟨x11, hix11, ex11, hf⟩ := rdJ_b hf
          refine va_lald hx hb hK hP 36 2 rfl rfl hix11 dX7_findMinutes_62 (kJ ex11 ?_)
          refine lv_lor hx hb dX7_findMinutes_63 ?_
          obtain ⟨S12, hiS12, eS12, hf⟩ := wrJ_b hf
          refine va_last hx hb hK hP hD hS 36 2 rfl rfl hiS12 dX7_findMinutes_64 (fun H locs hP hD hS => ?_)
          have hP : va_P (dC, dI) vwCl (wC t h tx g S12 ++ va_pl LP pf) H := by rw [eS12]; exact hP
          have hD : va_D A (wC t h tx g S12 ++ va_pl LP pf) := by rw [eS12]; exact hD
          have hG : rlC g LP pf S12 := by rw [eS12]; exact hG
          refine va_getsN hx hb hE.2.1.1 hS hown (va_Nw.use rfl (hE.1.2.1 ("OnlyTwo$Planner", 42, "OnlyTwo", "SMALL_SETS", "[I", "OnlyTwo") (by decide +kernel))) (fun _ h9 => h9) dX7_findMinutes_65 ?_
          refine lv_astore (lv' := [(4, .ref (ts 0)), (0, .ref (h 33)), (1, .long p0), (3, .int y4)]) hx hb dX7_findMinutes_68 hl (by decide) rfl (fun ls hl => ?_)
          refine lv_aload hx hb dX7_findMinutes_70 (lv_at hl 0 rfl) ?_
          refine va_tlen (v := 21) hx hb hE.2.1.2 hS (by decide) dX7_findMinutes_72 ?_
          refine lv_istore (lv' := [(5, .int 21), (4, .ref (ts 0)), (0, .ref (h 33)), (1, .long p0), (3, .int y4)]) hx hb dX7_findMinutes_73 hl (by decide) rfl (fun ls hl => ?_)
          refine lv_iconst (v := 0) hx hb dX7_findMinutes_75 (by decide) ?_
          refine lv_istore (lv' := [(6, .int 0), (5, .int 21), (4, .ref (ts 0)), (0, .ref (h 33)), (1, .long p0), (3, .int y4)]) hx hb dX7_findMinutes_76 hl (by decide) rfl (fun ls hl => ?_)
          have K78 : ∀ (S13 : CS) (g : Nat → Nat → Option Nat) (LP : List Nat) (pf : Nat → va_E) (H : Heap) (locs : List Loc) (ls : Array Slot), k_X7_findMinutes_33_78 y4 S13 = some q22 → va_P (dC, dI) vwCl (wC t h tx g S13 ++ va_pl LP pf) H → va_D A (wC t h tx g S13 ++ va_pl LP pf) → rlC g LP pf S13 → va_S A s.heap H locs → lv_has ls 8 [(0, .ref (h 33)), (1, .long p0), (3, .int y4)] → W p l e RRX7_findMinutes_33 s m args below meth c H locs 0 0 (MQ below (qcCv dC dI t A h tx S') args s 0 0 A) (F0 m 139 ls []) := by
            intro S13 g LP pf H locs ls hf hP hD hG hS hl
            unfold k_X7_findMinutes_33_78 at hf
            obtain ⟨x14, ex14, hf⟩ := bn hf
            refine lv_iinc (v := x14) (lv' := [(3, .int x14), (0, .ref (h 33)), (1, .long p0)]) hx hb dX7_findMinutes_139 hl (k := 2) rfl (by rw [ex14]; rfl) (by decide) rfl (fun ls hl => ?_)
            refine lv_goto (tgt := 22) hx hb dX7_findMinutes_142 (by decide) ?_
            exact ih22 x14 S13 _ _ _ _ _ _ (lp_l hf hq22) hP hD hG hS (lv_sub hl [1, 2, 0] rfl)
          obtain ⟨z78, ez78, hz78⟩ := bd hf
          have L78 : ∀ (n : Nat) (y15 : Int32) (S16 : CS) (g : Nat → Nat → Option Nat) (LP : List Nat) (pf : Nat → va_E) (H : Heap) (locs : List Loc) (ls : Array Slot), lp (fun s => b_X7_findMinutes_33_78 y4 s.1 s.2) n (y15, S16) = some z78 → va_P (dC, dI) vwCl (wC t h tx g S16 ++ va_pl LP pf) H → va_D A (wC t h tx g S16 ++ va_pl LP pf) → rlC g LP pf S16 → va_S A s.heap H locs → lv_has ls 8 [(0, .ref (h 33)), (1, .long p0), (3, .int y4), (4, .ref (ts 0)), (5, .int 21), (6, .int y15)] → W p l e RRX7_findMinutes_33 s m args below meth c H locs 0 0 (MQ below (qcCv dC dI t A h tx S') args s 0 0 A) (F0 m 78 ls []) := by
            intro n
            induction n with
            | zero => intro y15 S16 g LP pf H locs ls hf; exact lp_z hf
            | succ n ih78 =>
              intro y15 S16 g LP pf H locs ls hf hP hD hG hS hl
              obtain ⟨q78, hf, hq78⟩ := lp_i hf
              have hf : b_X7_findMinutes_33_78 y4 y15 S16 = some q78 := hf
              unfold b_X7_findMinutes_33_78 at hf
              refine lv_iload hx hb dX7_findMinutes_78 (lv_at hl 5 rfl) ?_
              refine lv_iload hx hb dX7_findMinutes_80 (lv_at hl 4 rfl) ?_
              refine lv_icmp_ge (tgt := 139) hx hb dX7_findMinutes_82 (by decide) (fun c27 => ?_) (fun c27 => ?_)
              · have hf := (if_pos c27).symm.trans hf
                exact K78 S16 _ _ _ _ _ _ (lp_x (k := (fun s => k_X7_findMinutes_33_78 y4 s)) (lp_r hf hq78) hz78) hP hD hG hS (lv_sub hl [0, 1, 2] rfl)
              · have hf := (if_neg c27).symm.trans hf
                refine lv_aload hx hb dX7_findMinutes_85 (lv_at hl 3 rfl) ?_
                refine lv_iload hx hb dX7_findMinutes_87 (lv_at hl 5 rfl) ?_
                obtain ⟨x17, hix17, ex17, hf⟩ := rd_b hf
                refine va_ti hx hb hE.2.1.2 hS hix17 rfl dX7_findMinutes_89 (kI ex17 ?_)
                refine lv_istore (lv' := [(7, .int x17), (0, .ref (h 33)), (1, .long p0), (3, .int y4), (4, .ref (ts 0)), (5, .int 21), (6, .int y15)]) hx hb dX7_findMinutes_90 hl (by decide) rfl (fun ls hl => ?_)
                refine lv_aload_n hx hb dX7_findMinutes_92 rfl (lv_at hl 1 rfl) ?_
                refine lv_iload hx hb dX7_findMinutes_93 (lv_at hl 0 rfl) ?_
                refine lv_iload_n hx hb dX7_findMinutes_95 rfl (lv_at hl 3 rfl) ?_
                refine lv_sipush (v := 240) hx hb dX7_findMinutes_96 (by decide) ?_
                obtain ⟨r18, er18, hf⟩ := bd hf
                refine klCi (rest := []) (As := [.int x17, .int y4, .int 240]) ⟨hx, hb, hml, hown, hts⟩ (c_X7_mayCross_33 l dC dI t ts aK aV A h tx H.size (fun q hq => hA q (Nat.le_trans hS.1 hq)) S16 x17 y4 240 r18 er18) (cwV 3 hts gX7_findMinutes_X7_mayCross rfl rfl rfl (by decide +kernel) ⟨Nat.le_of_ble_eq_true rfl, Nat.le_of_ble_eq_true rfl⟩) (va_recv hK hP (ci := 7) (q0 := 33) rfl rfl) rfl hl.1 rfl (Nat.le_of_ble_eq_true rfl) dX7_findMinutes_99 ⟨Nat.zero_le _, Nat.zero_le _⟩ hE hK ⟨g, LP, pf, hP, hD, hG⟩ hS (fun H locs hC hS => ?_)
                obtain ⟨g, LP, pf, hP, hD, hG⟩ := hC
                refine lv_if_eq (tgt := 133) hx hb dX7_findMinutes_102 (by decide) (fun c26 => ?_) (fun c26 => ?_)
                · have hf := (if_pos c26).symm.trans hf
                  obtain ⟨x19, ex19, hf⟩ := bn hf
                  refine lv_iinc (v := x19) (lv' := [(6, .int x19), (7, .int x17), (0, .ref (h 33)), (1, .long p0), (3, .int y4), (4, .ref (ts 0)), (5, .int 21)]) hx hb dX7_findMinutes_133 hl (k := 6) rfl (by rw [ex19]; rfl) (by decide) rfl (fun ls hl => ?_)
                  refine lv_goto (tgt := 78) hx hb dX7_findMinutes_136 (by decide) ?_
                  exact ih78 x19 S16 _ _ _ _ _ _ (lp_l hf hq78) hP hD hG hS (lv_sub hl [2, 3, 4, 5, 6, 0] rfl)
                · have hf := (if_neg c26).symm.trans hf
                  refine lv_aload_n hx hb dX7_findMinutes_105 rfl (lv_at hl 1 rfl) ?_
                  refine va_get (D := (dC, dI)) (ci := 7) (v := .ref (h 36)) (C := RX7) (T := TX7) (N := 12) hx hb hts hin7 hown hK hP 33 rfl rfl 8 (by decide) (hts _ lk19_7) (fun _ h9 => h9) rfl dX7_findMinutes_106 ?_
                  refine lv_iload_n hx hb dX7_findMinutes_109 rfl (lv_at hl 3 rfl) ?_
                  refine lv_aload_n hx hb dX7_findMinutes_110 rfl (lv_at hl 1 rfl) ?_
                  refine va_get (D := (dC, dI)) (ci := 7) (v := .ref (h 38)) (C := RX7) (T := TX7) (N := 12) hx hb hts hin7 hown hK hP 33 rfl rfl 10 (by decide) (hts _ lk25_7) (fun _ h9 => h9) rfl dX7_findMinutes_111 ?_
                  refine lv_iload hx hb dX7_findMinutes_114 (lv_at hl 0 rfl) ?_
                  obtain ⟨x20, hix20, ex20, hf⟩ := rd_b hf
                  refine va_iald hx hb hK hP 38 0 rfl rfl hix20 dX7_findMinutes_116 (kI ex20 ?_)
                  refine lv_iadd hx hb dX7_findMinutes_117 ?_
                  refine lv_dup2_11 hx hb dX7_findMinutes_118 rfl rfl ?_
                  obtain ⟨x21, hix21, ex21, hf⟩ := rdJ_b hf
                  refine va_lald hx hb hK hP 36 2 rfl rfl hix21 dX7_findMinutes_119 (kJ ex21 ?_)
                  refine lv_aload_n hx hb dX7_findMinutes_120 rfl (lv_at hl 1 rfl) ?_
                  refine va_get (D := (dC, dI)) (ci := 7) (v := .ref (h 36)) (C := RX7) (T := TX7) (N := 12) hx hb hts hin7 hown hK hP 33 rfl rfl 8 (by decide) (hts _ lk19_7) (fun _ h9 => h9) rfl dX7_findMinutes_121 ?_
                  refine lv_iload_n hx hb dX7_findMinutes_124 rfl (lv_at hl 3 rfl) ?_
                  obtain ⟨x22, hix22, ex22, hf⟩ := rdJ_b hf
                  refine va_lald hx hb hK hP 36 2 rfl rfl hix22 dX7_findMinutes_125 (kJ ex22 ?_)
                  refine lv_iload hx hb dX7_findMinutes_126 (lv_at hl 0 rfl) ?_
                  obtain ⟨r23, er23, hf⟩ := bd hf
                  refine klXNl (rest := [.long x21, .int (y4 + x20), .ref (h 36)]) (As := [.long x22, .int x17]) ⟨hx, hb, hml, hown, hts⟩ (c_X10_crossed l ts aK aV H.size x22 x17 r23 er23) (fun _ _ _ _ h9 => h9.blind) (fun U hU hW => hE.go hS hU hW (fun q hq => hA q (Nat.le_trans hS.1 hq))) ⟨va_cnB 2 hts gX7_findMinutes_X10_crossed_n106 rfl rfl rfl (hE.1.1 ("OnlyTwo$Planner", 106, ⟨"OnlyTwo", "crossed", "(JI)J"⟩, "OnlyTwo") (by decide +kernel)) (hts (.initialized RX10) (by decide +kernel)) (by decide +kernel) ⟨Nat.le_of_ble_eq_true rfl, Nat.le_of_ble_eq_true rfl⟩, hts (.static yX10_crossed) (by decide +kernel), trivial⟩ rfl hl.1 rfl (Nat.le_of_ble_eq_true rfl) dX7_findMinutes_128 ⟨Nat.zero_le _, Nat.zero_le _⟩ hS hA (fun H2 locs hk hS => ?_)
                  have hP := kpP hP hk
                  generalize H2 = H at hP hS ⊢
                  refine lv_lor hx hb dX7_findMinutes_131 ?_
                  obtain ⟨S24, hiS24, eS24, hf⟩ := wrJ_b hf
                  refine va_last hx hb hK hP hD hS 36 2 rfl rfl hiS24 dX7_findMinutes_132 (fun H locs hP hD hS => ?_)
                  have hP : va_P (dC, dI) vwCl (wC t h tx g S24 ++ va_pl LP pf) H := by rw [eS24]; exact hP
                  have hD : va_D A (wC t h tx g S24 ++ va_pl LP pf) := by rw [eS24]; exact hD
                  have hG : rlC g LP pf S24 := by rw [eS24]; exact hG
                  obtain ⟨x25, ex25, hf⟩ := bn hf
                  refine lv_iinc (v := x25) (lv' := [(6, .int x25), (7, .int x17), (0, .ref (h 33)), (1, .long p0), (3, .int y4), (4, .ref (ts 0)), (5, .int 21)]) hx hb dX7_findMinutes_133 hl (k := 6) rfl (by rw [ex25]; rfl) (by decide) rfl (fun ls hl => ?_)
                  refine lv_goto (tgt := 78) hx hb dX7_findMinutes_136 (by decide) ?_
                  exact ih78 x25 S24 _ _ _ _ _ _ (lp_l hf hq78) hP hD hG hS (lv_sub hl [2, 3, 4, 5, 6, 0] rfl)
          exact L78 FU 0 S12 _ _ _ _ _ _ ez78 hP hD hG hS (lv_sub hl [3, 4, 5, 2, 1, 0] rfl)
        · have hf := (if_neg c29).symm.trans hf
          refine lv_aload_n hx hb dX7_findMinutes_42 rfl (lv_at hl 0 rfl) ?_
          refine lv_iload_n hx hb dX7_findMinutes_43 rfl (lv_at hl 2 rfl) ?_
          obtain ⟨S28, eS28, hf⟩ := bn hf
          refine va_put (D := (dC, dI)) (ci := 7) (v := .int y4) (ty := .int) (C := RX7) (T := TX7) (N := 12) hx hb hts hin7 tyX7 tyX7_ok nmX7 hown hK hP hD hS 33 rfl rfl 1 (by decide) (hts _ lk70_7) (fun _ h9 => h9) rfl (by decide +kernel) rfl rfl (Nat.le_of_ble_eq_true rfl) dX7_findMinutes_44 (fun H locs hP hD hS => ?_)
          have hP : va_P (dC, dI) vwCl (wC t h tx g S28 ++ va_pl LP pf) H := by rw [eS28]; exact hP
          have hD : va_D A (wC t h tx g S28 ++ va_pl LP pf) := by rw [eS28]; exact hD
          have hG : rlC g LP pf S28 := by rw [eS28]; exact hG
          have hf := lp_r hf hq22
          exact rtCv hx hb hr hlocks ⟨g, LP, pf, hP, hD, hG⟩ hS hf dX7_findMinutes_47
  exact L22 FU 0 S3 _ _ _ _ _ _ hf hP hD hG hS (lv_sub hl [1, 2, 0] rfl)

def k_X7_keepUseful_33_20 (S4 : CS) : Option CS :=
  some S4
def k_X7_keepUseful_33_47 (y5 : Int32) (S6 : CS) (y8 : Int64) : Option ((Int32 × CS) ⊕ CS) :=
  Option.bind (rdJ 241 (S6.2.1 36) y5) (fun x9 => Option.bind (wrJ S6 36 241 y5 (x9 &&& y8)) (fun S10 => Option.bind (some (y5 + (-1))) (fun x11 => some (Sum.inl (x11, S10)))))
def b_X7_keepUseful_33_47 (y5 : Int32) (S6 : CS) (y12 : Int64) (y13 : Int32) : Option ((Int64 × Int32) ⊕ Int64) :=
  (if 21 ≤ y13 then (some (Sum.inr y12)) else (Option.bind (rdI 21 (ssI 0) y13) (fun x14 => Option.bind (f_X7_mayCross_33 S6 x14 y5 (S6.1 4301 0)) (fun r15 => (if r15 = 0 then (Option.bind (some (y13 + 1)) (fun x16 => some (Sum.inl (y12, x16)))) else (Option.bind (rdI 64 (S6.1 38) x14) (fun x17 => Option.bind (rdJ 241 (S6.2.1 36) (y5 + x17)) (fun x18 => Option.bind (f_X10_crossed x18 x14) (fun r19 => Option.bind (some (y12 ||| r19)) (fun x20 => Option.bind (some (y13 + 1)) (fun x21 => some (Sum.inl (x20, x21)))))))))))))
def b_X7_keepUseful_33_20 (y5 : Int32) (S6 : CS) : Option ((Int32 × CS) ⊕ CS) :=
  (if y5 < 0 then (some (Sum.inr S6)) else (Option.bind (rdJ 241 (S6.2.1 36) (y5 + 1)) (fun x7 => Option.bind (lp (fun s => b_X7_keepUseful_33_47 y5 S6 s.1 s.2) FU (x7, 0)) (fun s => k_X7_keepUseful_33_47 y5 S6 s))))
def f_X7_keepUseful_33 (S : CS) (p0 : Int64) : Option CS :=
  Option.bind (rdJ 241 (S.2.1 36) (S.1 4301 0)) (fun x1 => Option.bind (wrJ S 36 241 (S.1 4301 0) (x1 &&& p0)) (fun S2 => Option.bind (some ((S2.1 4301 0) - 1)) (fun x3 => Option.bind (lp (fun s => b_X7_keepUseful_33_20 s.1 s.2) FU (x3, S2)) (fun s => k_X7_keepUseful_33_20 s))))
def rmX7_keepUseful_33 : Room := { frames := 2, cells := 0, slots := 0, locals := 50 }
abbrev RRX7_keepUseful_33 : Room := (headSpec wsX7_keepUseful rmX7_keepUseful_33).room
theorem in7_X7_keepUseful_33 : ∀ w ∈ wsX70, w ∈ wsX7_keepUseful := by decide +kernel
set_option maxHeartbeats 4000000 in
set_option maxRecDepth 100000 in
theorem c_X7_keepUseful_33 (l : Launch) (dC : Nat → ClassId) (dI : Nat → Nat → Nat) (t : Nat → ClassId) (ts aK aV : Nat → Nat) (A : Nat → Prop) (h : Nat → Nat) (tx : Nat) (sz : Nat) (hA0 : ∀ q : Nat, sz ≤ q → A q) (S : CS) (p0 : Int64) (S' : CS) (hf : f_X7_keepUseful_33 S p0 = some S') : cCv l yX7_keepUseful wsX7_keepUseful rmX7_keepUseful_33 dC dI t ts aK aV A h tx tx sz [.ref (h 33), .long p0] S S' := by
  refine Met.ofW (cc := cX7_keepUseful) (maxL := 10) (ret := none) (by decide) rfl ?_
  intro p e s m args below meth c s₁ B hml hv
  obtain ⟨hargs, hsz, hE, hC, hK⟩ := hv
  have hx := B.exec
  have hb := B.bytes
  have hr := B.returns
  have hts := atoms_spec (ws := wsX7_keepUseful) B.pre
  have hown : s.vm.findClass RX7 = some m.cls := findClass_of_methodNamed B.named
  have hlocks := B.notSynchronized
  have hsz : s.heap.size = sz := hsz
  subst hsz
  have hin7 := in7_X7_keepUseful_33
  have lk19_7 : Cond.fieldLink RX7 19 (TX7 8).1 (TX7 8).2.1 (TX7 8).2.2.1 ∈ wsX7_keepUseful := by decide +kernel
  have lk25_7 : Cond.fieldLink RX7 25 (TX7 10).1 (TX7 10).2.1 (TX7 10).2.2.1 ∈ wsX7_keepUseful := by decide +kernel
  have lk70_7 : Cond.fieldLink RX7 70 (TX7 1).1 (TX7 1).2.1 (TX7 1).2.2.1 ∈ wsX7_keepUseful := by decide +kernel
  have hA : ∀ q : Nat, s.heap.size ≤ q → A q := hA0
  obtain ⟨g, LP, pf, hP, hD, hG⟩ := hC
  have hS : va_S A s.heap s.heap [] := va_S.rf
  have hl := lv_entry ([.ref (h 33), .long p0]) (n := 10) (Nat.le_of_ble_eq_true rfl)
  rw [show entryFrame m args 10 = entryFrame m ([.ref (h 33), .long p0] : List Value).toArray 10 from by rw [hargs], lg_entry_eq]
  generalize (lg_sl ([.ref (h 33), .long p0]) ++ List.replicate (10 - (lg_sl ([.ref (h 33), .long p0])).length) Slot.unset).toArray = ls at hl ⊢
  have hl : lv_has ls 10 [(0, .ref (h 33)), (1, .long p0)] := hl
  unfold f_X7_keepUseful_33 at hf
  refine lv_aload_n hx hb dX7_keepUseful_0 rfl (lv_at hl 0 rfl) ?_
  refine va_get (D := (dC, dI)) (ci := 7) (v := .ref (h 36)) (C := RX7) (T := TX7) (N := 12) hx hb hts hin7 hown hK hP 33 rfl rfl 8 (by decide) (hts _ lk19_7) (fun _ h9 => h9) rfl dX7_keepUseful_1 ?_
  refine lv_aload_n hx hb dX7_keepUseful_4 rfl (lv_at hl 0 rfl) ?_
  refine va_get (D := (dC, dI)) (ci := 7) (v := .int (S.1 4301 0)) (C := RX7) (T := TX7) (N := 12) hx hb hts hin7 hown hK hP 33 rfl rfl 1 (by decide) (hts _ lk70_7) (fun _ h9 => h9) rfl dX7_keepUseful_5 ?_
  refine lv_dup2_11 hx hb dX7_keepUseful_8 rfl rfl ?_
  obtain ⟨x1, hix1, ex1, hf⟩ := rdJ_b hf
  refine va_lald hx hb hK hP 36 2 rfl rfl hix1 dX7_keepUseful_9 (kJ ex1 ?_)
  refine lv_lload_n hx hb dX7_keepUseful_10 rfl (lv_at hl 1 rfl) ?_
  refine lv_land hx hb dX7_keepUseful_11 ?_
  obtain ⟨S2, hiS2, eS2, hf⟩ := wrJ_b hf
  refine va_last hx hb hK hP hD hS 36 2 rfl rfl hiS2 dX7_keepUseful_12 (fun H locs hP hD hS => ?_)
  have hP : va_P (dC, dI) vwCl (wC t h tx g S2 ++ va_pl LP pf) H := by rw [eS2]; exact hP
  have hD : va_D A (wC t h tx g S2 ++ va_pl LP pf) := by rw [eS2]; exact hD
  have hG : rlC g LP pf S2 := by rw [eS2]; exact hG
  refine lv_aload_n hx hb dX7_keepUseful_13 rfl (lv_at hl 0 rfl) ?_
  refine va_get (D := (dC, dI)) (ci := 7) (v := .int (S2.1 4301 0)) (C := RX7) (T := TX7) (N := 12) hx hb hts hin7 hown hK hP 33 rfl rfl 1 (by decide) (hts _ lk70_7) (fun _ h9 => h9) rfl dX7_keepUseful_14 ?_
  refine lv_iconst (v := 1) hx hb dX7_keepUseful_17 (by decide) ?_
  refine lv_isub hx hb dX7_keepUseful_18 ?_
  refine lv_topi (fun x3 ex3 => ?_)
  have hf := bs ex3 hf
  refine lv_istore_n (lv' := [(3, .int x3), (0, .ref (h 33)), (1, .long p0)]) hx hb dX7_keepUseful_19 rfl hl (by decide) rfl (fun ls hl => ?_)
  have K20 : ∀ (S4 : CS) (g : Nat → Nat → Option Nat) (LP : List Nat) (pf : Nat → va_E) (H : Heap) (locs : List Loc) (ls : Array Slot), k_X7_keepUseful_33_20 S4 = some S' → va_P (dC, dI) vwCl (wC t h tx g S4 ++ va_pl LP pf) H → va_D A (wC t h tx g S4 ++ va_pl LP pf) → rlC g LP pf S4 → va_S A s.heap H locs → lv_has ls 10 [] → W p l e RRX7_keepUseful_33 s m args below meth c H locs 0 0 (MQ below (qcCv dC dI t A h tx S') args s 0 0 A) (F0 m 122 ls []) := by
    intro S4 g LP pf H locs ls hf hP hD hG hS hl
    unfold k_X7_keepUseful_33_20 at hf
    exact rtCv hx hb hr hlocks ⟨g, LP, pf, hP, hD, hG⟩ hS hf dX7_keepUseful_122
  obtain ⟨z20, ez20, hz20⟩ := bd hf
  have L20 : ∀ (n : Nat) (y5 : Int32) (S6 : CS) (g : Nat → Nat → Option Nat) (LP : List Nat) (pf : Nat → va_E) (H : Heap) (locs : List Loc) (ls : Array Slot), lp (fun s => b_X7_keepUseful_33_20 s.1 s.2) n (y5, S6) = some z20 → va_P (dC, dI) vwCl (wC t h tx g S6 ++ va_pl LP pf) H → va_D A (wC t h tx g S6 ++ va_pl LP pf) → rlC g LP pf S6 → va_S A s.heap H locs → lv_has ls 10 [(0, .ref (h 33)), (3, .int y5)] → W p l e RRX7_keepUseful_33 s m args below meth c H locs 0 0 (MQ below (qcCv dC dI t A h tx S') args s 0 0 A) (F0 m 20 ls []) := by
    intro n
    induction n with
    | zero => intro y5 S6 g LP pf H locs ls hf; exact lp_z hf
    | succ n ih20 =>
      intro y5 S6 g LP pf H locs ls hf hP hD hG hS hl
      obtain ⟨q20, hf, hq20⟩ := lp_i hf
      have hf : b_X7_keepUseful_33_20 y5 S6 = some q20 := hf
      unfold b_X7_keepUseful_33_20 at hf
      refine lv_iload_n hx hb dX7_keepUseful_20 rfl (lv_at hl 1 rfl) ?_
      refine lv_if_lt (tgt := 122) hx hb dX7_keepUseful_21 (by decide) (fun c24 => ?_) (fun c24 => ?_)
      · have hf := (if_pos c24).symm.trans hf
        exact K20 S6 _ _ _ _ _ _ (lp_x (k := (fun s => k_X7_keepUseful_33_20 s)) (lp_r hf hq20) hz20) hP hD hG hS (lv_sub hl [] rfl)
      · have hf := (if_neg c24).symm.trans hf
        refine lv_aload_n hx hb dX7_keepUseful_24 rfl (lv_at hl 0 rfl) ?_
        refine va_get (D := (dC, dI)) (ci := 7) (v := .ref (h 36)) (C := RX7) (T := TX7) (N := 12) hx hb hts hin7 hown hK hP 33 rfl rfl 8 (by decide) (hts _ lk19_7) (fun _ h9 => h9) rfl dX7_keepUseful_25 ?_
        refine lv_iload_n hx hb dX7_keepUseful_28 rfl (lv_at hl 1 rfl) ?_
        refine lv_iconst (v := 1) hx hb dX7_keepUseful_29 (by decide) ?_
        refine lv_iadd hx hb dX7_keepUseful_30 ?_
        obtain ⟨x7, hix7, ex7, hf⟩ := rdJ_b hf
        refine va_lald hx hb hK hP 36 2 rfl rfl hix7 dX7_keepUseful_31 (kJ ex7 ?_)
        refine lv_lstore (lv' := [(4, .long x7), (0, .ref (h 33)), (3, .int y5)]) hx hb dX7_keepUseful_32 hl (by decide) rfl (fun ls hl => ?_)
        refine va_getsN hx hb hE.2.1.1 hS hown (va_Nw.use rfl (hE.1.2.1 ("OnlyTwo$Planner", 42, "OnlyTwo", "SMALL_SETS", "[I", "OnlyTwo") (by decide +kernel))) (fun _ h9 => h9) dX7_keepUseful_34 ?_
        refine lv_astore (lv' := [(6, .ref (ts 0)), (4, .long x7), (0, .ref (h 33)), (3, .int y5)]) hx hb dX7_keepUseful_37 hl (by decide) rfl (fun ls hl => ?_)
        refine lv_aload hx hb dX7_keepUseful_39 (lv_at hl 0 rfl) ?_
        refine va_tlen (v := 21) hx hb hE.2.1.2 hS (by decide) dX7_keepUseful_41 ?_
        refine lv_istore (lv' := [(7, .int 21), (6, .ref (ts 0)), (4, .long x7), (0, .ref (h 33)), (3, .int y5)]) hx hb dX7_keepUseful_42 hl (by decide) rfl (fun ls hl => ?_)
        refine lv_iconst (v := 0) hx hb dX7_keepUseful_44 (by decide) ?_
        refine lv_istore (lv' := [(8, .int 0), (7, .int 21), (6, .ref (ts 0)), (4, .long x7), (0, .ref (h 33)), (3, .int y5)]) hx hb dX7_keepUseful_45 hl (by decide) rfl (fun ls hl => ?_)
        have K47 : ∀ (y8 : Int64) (g : Nat → Nat → Option Nat) (LP : List Nat) (pf : Nat → va_E) (H : Heap) (locs : List Loc) (ls : Array Slot), k_X7_keepUseful_33_47 y5 S6 y8 = some q20 → va_P (dC, dI) vwCl (wC t h tx g S6 ++ va_pl LP pf) H → va_D A (wC t h tx g S6 ++ va_pl LP pf) → rlC g LP pf S6 → va_S A s.heap H locs → lv_has ls 10 [(0, .ref (h 33)), (3, .int y5), (4, .long y8)] → W p l e RRX7_keepUseful_33 s m args below meth c H locs 0 0 (MQ below (qcCv dC dI t A h tx S') args s 0 0 A) (F0 m 105 ls []) := by
          intro y8 g LP pf H locs ls hf hP hD hG hS hl
          unfold k_X7_keepUseful_33_47 at hf
          refine lv_aload_n hx hb dX7_keepUseful_105 rfl (lv_at hl 0 rfl) ?_
          refine va_get (D := (dC, dI)) (ci := 7) (v := .ref (h 36)) (C := RX7) (T := TX7) (N := 12) hx hb hts hin7 hown hK hP 33 rfl rfl 8 (by decide) (hts _ lk19_7) (fun _ h9 => h9) rfl dX7_keepUseful_106 ?_
          refine lv_iload_n hx hb dX7_keepUseful_109 rfl (lv_at hl 1 rfl) ?_
          refine lv_dup2_11 hx hb dX7_keepUseful_110 rfl rfl ?_
          obtain ⟨x9, hix9, ex9, hf⟩ := rdJ_b hf
          refine va_lald hx hb hK hP 36 2 rfl rfl hix9 dX7_keepUseful_111 (kJ ex9 ?_)
          refine lv_lload hx hb dX7_keepUseful_112 (lv_at hl 2 rfl) ?_
          refine lv_land hx hb dX7_keepUseful_114 ?_
          obtain ⟨S10, hiS10, eS10, hf⟩ := wrJ_b hf
          refine va_last hx hb hK hP hD hS 36 2 rfl rfl hiS10 dX7_keepUseful_115 (fun H locs hP hD hS => ?_)
          have hP : va_P (dC, dI) vwCl (wC t h tx g S10 ++ va_pl LP pf) H := by rw [eS10]; exact hP
          have hD : va_D A (wC t h tx g S10 ++ va_pl LP pf) := by rw [eS10]; exact hD
          have hG : rlC g LP pf S10 := by rw [eS10]; exact hG
          obtain ⟨x11, ex11, hf⟩ := bn hf
          refine lv_iinc (v := x11) (lv' := [(3, .int x11), (0, .ref (h 33)), (4, .long y8)]) hx hb dX7_keepUseful_116 hl (k := 1) rfl (by rw [ex11]; rfl) (by decide) rfl (fun ls hl => ?_)
          refine lv_goto (tgt := 20) hx hb dX7_keepUseful_119 (by decide) ?_
          exact ih20 x11 S10 _ _ _ _ _ _ (lp_l hf hq20) hP hD hG hS (lv_sub hl [1, 0] rfl)
        obtain ⟨z47, ez47, hz47⟩ := bd hf
        have L47 : ∀ (n : Nat) (y12 : Int64) (y13 : Int32) (g : Nat → Nat → Option Nat) (LP : List Nat) (pf : Nat → va_E) (H : Heap) (locs : List Loc) (ls : Array Slot), lp (fun s => b_X7_keepUseful_33_47 y5 S6 s.1 s.2) n (y12, y13) = some z47 → va_P (dC, dI) vwCl (wC t h tx g S6 ++ va_pl LP pf) H → va_D A (wC t h tx g S6 ++ va_pl LP pf) → rlC g LP pf S6 → va_S A s.heap H locs → lv_has ls 10 [(0, .ref (h 33)), (3, .int y5), (4, .long y12), (6, .ref (ts 0)), (7, .int 21), (8, .int y13)] → W p l e RRX7_keepUseful_33 s m args below meth c H locs 0 0 (MQ below (qcCv dC dI t A h tx S') args s 0 0 A) (F0 m 47 ls []) := by
          intro n
          induction n with
          | zero => intro y12 y13 g LP pf H locs ls hf; exact lp_z hf
          | succ n ih47 =>
            intro y12 y13 g LP pf H locs ls hf hP hD hG hS hl
            obtain ⟨q47, hf, hq47⟩ := lp_i hf
            have hf : b_X7_keepUseful_33_47 y5 S6 y12 y13 = some q47 := hf
            unfold b_X7_keepUseful_33_47 at hf
            refine lv_iload hx hb dX7_keepUseful_47 (lv_at hl 5 rfl) ?_
            refine lv_iload hx hb dX7_keepUseful_49 (lv_at hl 4 rfl) ?_
            refine lv_icmp_ge (tgt := 105) hx hb dX7_keepUseful_51 (by decide) (fun c23 => ?_) (fun c23 => ?_)
            · have hf := (if_pos c23).symm.trans hf
              exact K47 y12 _ _ _ _ _ _ (lp_x (k := (fun s => k_X7_keepUseful_33_47 y5 S6 s)) (lp_r hf hq47) hz47) hP hD hG hS (lv_sub hl [0, 1, 2] rfl)
            · have hf := (if_neg c23).symm.trans hf
              refine lv_aload hx hb dX7_keepUseful_54 (lv_at hl 3 rfl) ?_
              refine lv_iload hx hb dX7_keepUseful_56 (lv_at hl 5 rfl) ?_
              obtain ⟨x14, hix14, ex14, hf⟩ := rd_b hf
              refine va_ti hx hb hE.2.1.2 hS hix14 rfl dX7_keepUseful_58 (kI ex14 ?_)
              refine lv_istore (lv' := [(9, .int x14), (0, .ref (h 33)), (3, .int y5), (4, .long y12), (6, .ref (ts 0)), (7, .int 21), (8, .int y13)]) hx hb dX7_keepUseful_59 hl (by decide) rfl (fun ls hl => ?_)
              refine lv_aload_n hx hb dX7_keepUseful_61 rfl (lv_at hl 1 rfl) ?_
              refine lv_iload hx hb dX7_keepUseful_62 (lv_at hl 0 rfl) ?_
              refine lv_iload_n hx hb dX7_keepUseful_64 rfl (lv_at hl 2 rfl) ?_
              refine lv_aload_n hx hb dX7_keepUseful_65 rfl (lv_at hl 1 rfl) ?_
              refine va_get (D := (dC, dI)) (ci := 7) (v := .int (S6.1 4301 0)) (C := RX7) (T := TX7) (N := 12) hx hb hts hin7 hown hK hP 33 rfl rfl 1 (by decide) (hts _ lk70_7) (fun _ h9 => h9) rfl dX7_keepUseful_66 ?_
              obtain ⟨r15, er15, hf⟩ := bd hf
              refine klCi (rest := []) (As := [.int x14, .int y5, .int (S6.1 4301 0)]) ⟨hx, hb, hml, hown, hts⟩ (c_X7_mayCross_33 l dC dI t ts aK aV A h tx H.size (fun q hq => hA q (Nat.le_trans hS.1 hq)) S6 x14 y5 (S6.1 4301 0) r15 er15) (cwV 3 hts gX7_keepUseful_X7_mayCross rfl rfl rfl (by decide +kernel) ⟨Nat.le_of_ble_eq_true rfl, Nat.le_of_ble_eq_true rfl⟩) (va_recv hK hP (ci := 7) (q0 := 33) rfl rfl) rfl hl.1 rfl (Nat.le_of_ble_eq_true rfl) dX7_keepUseful_69 ⟨Nat.zero_le _, Nat.zero_le _⟩ hE hK ⟨g, LP, pf, hP, hD, hG⟩ hS (fun H locs hC hS => ?_)
              obtain ⟨g, LP, pf, hP, hD, hG⟩ := hC
              refine lv_if_eq (tgt := 99) hx hb dX7_keepUseful_72 (by decide) (fun c22 => ?_) (fun c22 => ?_)
              · have hf := (if_pos c22).symm.trans hf
                obtain ⟨x16, ex16, hf⟩ := bn hf
                refine lv_iinc (v := x16) (lv' := [(8, .int x16), (9, .int x14), (0, .ref (h 33)), (3, .int y5), (4, .long y12), (6, .ref (ts 0)), (7, .int 21)]) hx hb dX7_keepUseful_99 hl (k := 6) rfl (by rw [ex16]; rfl) (by decide) rfl (fun ls hl => ?_)
                refine lv_goto (tgt := 47) hx hb dX7_keepUseful_102 (by decide) ?_
                exact ih47 y12 x16 _ _ _ _ _ _ (lp_l hf hq47) hP hD hG hS (lv_sub hl [2, 3, 4, 5, 6, 0] rfl)
              · have hf := (if_neg c22).symm.trans hf
                refine lv_lload hx hb dX7_keepUseful_75 (lv_at hl 3 rfl) ?_
                refine lv_aload_n hx hb dX7_keepUseful_77 rfl (lv_at hl 1 rfl) ?_
                refine va_get (D := (dC, dI)) (ci := 7) (v := .ref (h 36)) (C := RX7) (T := TX7) (N := 12) hx hb hts hin7 hown hK hP 33 rfl rfl 8 (by decide) (hts _ lk19_7) (fun _ h9 => h9) rfl dX7_keepUseful_78 ?_
                refine lv_iload_n hx hb dX7_keepUseful_81 rfl (lv_at hl 2 rfl) ?_
                refine lv_aload_n hx hb dX7_keepUseful_82 rfl (lv_at hl 1 rfl) ?_
                refine va_get (D := (dC, dI)) (ci := 7) (v := .ref (h 38)) (C := RX7) (T := TX7) (N := 12) hx hb hts hin7 hown hK hP 33 rfl rfl 10 (by decide) (hts _ lk25_7) (fun _ h9 => h9) rfl dX7_keepUseful_83 ?_
                refine lv_iload hx hb dX7_keepUseful_86 (lv_at hl 0 rfl) ?_
                obtain ⟨x17, hix17, ex17, hf⟩ := rd_b hf
                refine va_iald hx hb hK hP 38 0 rfl rfl hix17 dX7_keepUseful_88 (kI ex17 ?_)
                refine lv_iadd hx hb dX7_keepUseful_89 ?_
                obtain ⟨x18, hix18, ex18, hf⟩ := rdJ_b hf
                refine va_lald hx hb hK hP 36 2 rfl rfl hix18 dX7_keepUseful_90 (kJ ex18 ?_)
                refine lv_iload hx hb dX7_keepUseful_91 (lv_at hl 0 rfl) ?_
                obtain ⟨r19, er19, hf⟩ := bd hf
                refine klXNl (rest := [.long y12]) (As := [.long x18, .int x14]) ⟨hx, hb, hml, hown, hts⟩ (c_X10_crossed l ts aK aV H.size x18 x14 r19 er19) (fun _ _ _ _ h9 => h9.blind) (fun U hU hW => hE.go hS hU hW (fun q hq => hA q (Nat.le_trans hS.1 hq))) ⟨va_cnB 2 hts gX7_keepUseful_X10_crossed_n106 rfl rfl rfl (hE.1.1 ("OnlyTwo$Planner", 106, ⟨"OnlyTwo", "crossed", "(JI)J"⟩, "OnlyTwo") (by decide +kernel)) (hts (.initialized RX10) (by decide +kernel)) (by decide +kernel) ⟨Nat.le_of_ble_eq_true rfl, Nat.le_of_ble_eq_true rfl⟩, hts (.static yX10_crossed) (by decide +kernel), trivial⟩ rfl hl.1 rfl (Nat.le_of_ble_eq_true rfl) dX7_keepUseful_93 ⟨Nat.zero_le _, Nat.zero_le _⟩ hS hA (fun H2 locs hk hS => ?_)
                have hP := kpP hP hk
                generalize H2 = H at hP hS ⊢
                refine lv_lor hx hb dX7_keepUseful_96 ?_
                refine lv_topl (fun x20 ex20 => ?_)
                have hf := bs ex20 hf
                refine lv_lstore (lv' := [(4, .long x20), (9, .int x14), (0, .ref (h 33)), (3, .int y5), (6, .ref (ts 0)), (7, .int 21), (8, .int y13)]) hx hb dX7_keepUseful_97 hl (by decide) rfl (fun ls hl => ?_)
                obtain ⟨x21, ex21, hf⟩ := bn hf
                refine lv_iinc (v := x21) (lv' := [(8, .int x21), (4, .long x20), (9, .int x14), (0, .ref (h 33)), (3, .int y5), (6, .ref (ts 0)), (7, .int 21)]) hx hb dX7_keepUseful_99 hl (k := 6) rfl (by rw [ex21]; rfl) (by decide) rfl (fun ls hl => ?_)
                refine lv_goto (tgt := 47) hx hb dX7_keepUseful_102 (by decide) ?_
                exact ih47 x20 x21 _ _ _ _ _ _ (lp_l hf hq47) hP hD hG hS (lv_sub hl [3, 4, 1, 5, 6, 0] rfl)
        exact L47 FU x7 0 _ _ _ _ _ _ ez47 hP hD hG hS (lv_sub hl [4, 5, 3, 2, 1, 0] rfl)
  exact L20 FU x3 S2 _ _ _ _ _ _ ez20 hP hD hG hS (lv_sub hl [1, 0] rfl)

def f_X7_hireFrom_33 (S : CS) (p0 : Int32) (p1 : Int32) : Option Int32 :=
  Option.bind (rdJ 241 (S.2.1 36) p0) (fun x1 => (if (lg_cmp (((Int64.toUInt64 x1 >>> ((Int32.toInt64 p1).toUInt64 &&& Int64.toUInt64 63)).toInt64) &&& 1) 0) = 0 then (some 268435456) else (Option.bind (rdI 15424 (S.1 37) ((p0 * 64) + p1)) (fun x2 => some x2))))
def rmX7_hireFrom_33 : Room := { frames := 0, cells := 0, slots := 0, locals := 0 }
abbrev RRX7_hireFrom_33 : Room := (headSpec wsX7_hireFrom rmX7_hireFrom_33).room
theorem in7_X7_hireFrom_33 : ∀ w ∈ wsX70, w ∈ wsX7_hireFrom := by decide +kernel
set_option maxHeartbeats 4000000 in
set_option maxRecDepth 100000 in
theorem c_X7_hireFrom_33 (l : Launch) (dC : Nat → ClassId) (dI : Nat → Nat → Nat) (t : Nat → ClassId) (ts aK aV : Nat → Nat) (A : Nat → Prop) (h : Nat → Nat) (tx : Nat) (sz : Nat) (hA0 : ∀ q : Nat, sz ≤ q → A q) (S : CS) (p0 : Int32) (p1 : Int32) (r : Int32) (hf : f_X7_hireFrom_33 S p0 p1 = some r) : cCi l yX7_hireFrom wsX7_hireFrom rmX7_hireFrom_33 dC dI t ts aK aV A h tx tx sz [.ref (h 33), .int p0, .int p1] S r S := by
  refine Met.ofW (cc := cX7_hireFrom) (maxL := 3) (ret := (some .int)) (by decide) rfl ?_
  intro p e s m args below meth c s₁ B hml hv
  obtain ⟨hargs, hsz, hE, hC, hK⟩ := hv
  have hx := B.exec
  have hb := B.bytes
  have hr := B.returns
  have hts := atoms_spec (ws := wsX7_hireFrom) B.pre
  have hown : s.vm.findClass RX7 = some m.cls := findClass_of_methodNamed B.named
  have hlocks := B.notSynchronized
  have hsz : s.heap.size = sz := hsz
  subst hsz
  have hin7 := in7_X7_hireFrom_33
  have lk19_7 : Cond.fieldLink RX7 19 (TX7 8).1 (TX7 8).2.1 (TX7 8).2.2.1 ∈ wsX7_hireFrom := by decide +kernel
  have lk22_7 : Cond.fieldLink RX7 22 (TX7 9).1 (TX7 9).2.1 (TX7 9).2.2.1 ∈ wsX7_hireFrom := by decide +kernel
  have hA : ∀ q : Nat, s.heap.size ≤ q → A q := hA0
  obtain ⟨g, LP, pf, hP, hD, hG⟩ := hC
  have hS : va_S A s.heap s.heap [] := va_S.rf
  have hl := lv_entry ([.ref (h 33), .int p0, .int p1]) (n := 3) (Nat.le_of_ble_eq_true rfl)
  rw [show entryFrame m args 3 = entryFrame m ([.ref (h 33), .int p0, .int p1] : List Value).toArray 3 from by rw [hargs], lg_entry_eq]
  generalize (lg_sl ([.ref (h 33), .int p0, .int p1]) ++ List.replicate (3 - (lg_sl ([.ref (h 33), .int p0, .int p1])).length) Slot.unset).toArray = ls at hl ⊢
  have hl : lv_has ls 3 [(0, .ref (h 33)), (1, .int p0), (2, .int p1)] := hl
  unfold f_X7_hireFrom_33 at hf
  refine lv_aload_n hx hb dX7_hireFrom_0 rfl (lv_at hl 0 rfl) ?_
  refine va_get (D := (dC, dI)) (ci := 7) (v := .ref (h 36)) (C := RX7) (T := TX7) (N := 12) hx hb hts hin7 hown hK hP 33 rfl rfl 8 (by decide) (hts _ lk19_7) (fun _ h9 => h9) rfl dX7_hireFrom_1 ?_
  refine lv_iload_n hx hb dX7_hireFrom_4 rfl (lv_at hl 1 rfl) ?_
  obtain ⟨x1, hix1, ex1, hf⟩ := rdJ_b hf
  refine va_lald hx hb hK hP 36 2 rfl rfl hix1 dX7_hireFrom_5 (kJ ex1 ?_)
  refine lv_iload_n hx hb dX7_hireFrom_6 rfl (lv_at hl 2 rfl) ?_
  refine lv_lushr hx hb dX7_hireFrom_7 rfl ?_
  refine lv_lconst (v := 1) hx hb dX7_hireFrom_8 (by decide) ?_
  refine lv_land hx hb dX7_hireFrom_9 ?_
  refine lv_lconst (v := 0) hx hb dX7_hireFrom_10 (by decide) ?_
  refine W.lcmp hx hb dX7_hireFrom_11 ?_
  refine lv_if_eq (tgt := 29) hx hb dX7_hireFrom_12 (by decide) (fun c3 => ?_) (fun c3 => ?_)
  · have hf := (if_pos c3).symm.trans hf
    refine lv_ldc (v := 268435456) hx hb hown (hts (.constant RX7 130 (268435456)) (by decide +kernel)) dX7_hireFrom_29 ?_
    exact rtCi hx hb hr hlocks ⟨g, LP, pf, hP, hD, hG⟩ hS (congrArg (fun z => some (z, S)) (Option.some.inj hf)) dX7_hireFrom_31
  · have hf := (if_neg c3).symm.trans hf
    refine lv_aload_n hx hb dX7_hireFrom_15 rfl (lv_at hl 0 rfl) ?_
    refine va_get (D := (dC, dI)) (ci := 7) (v := .ref (h 37)) (C := RX7) (T := TX7) (N := 12) hx hb hts hin7 hown hK hP 33 rfl rfl 9 (by decide) (hts _ lk22_7) (fun _ h9 => h9) rfl dX7_hireFrom_16 ?_
    refine lv_iload_n hx hb dX7_hireFrom_19 rfl (lv_at hl 1 rfl) ?_
    refine lv_bipush (v := 64) hx hb dX7_hireFrom_20 (by decide) ?_
    refine lv_imul hx hb dX7_hireFrom_22 ?_
    refine lv_iload_n hx hb dX7_hireFrom_23 rfl (lv_at hl 2 rfl) ?_
    refine lv_iadd hx hb dX7_hireFrom_24 ?_
    obtain ⟨x2, hix2, ex2, hf⟩ := rd_b hf
    refine va_iald hx hb hK hP 37 0 rfl rfl hix2 dX7_hireFrom_25 (kI ex2 ?_)
    refine lv_goto (tgt := 31) hx hb dX7_hireFrom_26 (by decide) ?_
    exact rtCi hx hb hr hlocks ⟨g, LP, pf, hP, hD, hG⟩ hS (congrArg (fun z => some (z, S)) (Option.some.inj hf)) dX7_hireFrom_31

def f_X7_hireBy_33 (S : CS) (p0 : Int32) (p1 : Int32) (p2 : Int32) : Option Int32 :=
  Option.bind (rdI 64 (S.1 39) p0) (fun x1 => Option.bind (rdI 64 (S.1 38) p0) (fun x2 => Option.bind (f_X7_hireFrom_33 S (p1 + x2) (p2 ^^^ p0)) (fun r3 => some (x1 + r3))))
def rmX7_hireBy_33 : Room := { frames := 1, cells := 0, slots := 0, locals := 22 }
abbrev RRX7_hireBy_33 : Room := (headSpec wsX7_hireBy rmX7_hireBy_33).room
theorem in7_X7_hireBy_33 : ∀ w ∈ wsX70, w ∈ wsX7_hireBy := by decide +kernel
set_option maxHeartbeats 4000000 in
set_option maxRecDepth 100000 in
theorem c_X7_hireBy_33 (l : Launch) (dC : Nat → ClassId) (dI : Nat → Nat → Nat) (t : Nat → ClassId) (ts aK aV : Nat → Nat) (A : Nat → Prop) (h : Nat → Nat) (tx : Nat) (sz : Nat) (hA0 : ∀ q : Nat, sz ≤ q → A q) (S : CS) (p0 : Int32) (p1 : Int32) (p2 : Int32) (r : Int32) (hf : f_X7_hireBy_33 S p0 p1 p2 = some r) : cCi l yX7_hireBy wsX7_hireBy rmX7_hireBy_33 dC dI t ts aK aV A h tx tx sz [.ref (h 33), .int p0, .int p1, .int p2] S r S := by
  refine Met.ofW (cc := cX7_hireBy) (maxL := 4) (ret := (some .int)) (by decide) rfl ?_
  intro p e s m args below meth c s₁ B hml hv
  obtain ⟨hargs, hsz, hE, hC, hK⟩ := hv
  have hx := B.exec
  have hb := B.bytes
  have hr := B.returns
  have hts := atoms_spec (ws := wsX7_hireBy) B.pre
  have hown : s.vm.findClass RX7 = some m.cls := findClass_of_methodNamed B.named
  have hlocks := B.notSynchronized
  have hsz : s.heap.size = sz := hsz
  subst hsz
  have hin7 := in7_X7_hireBy_33
  have lk25_7 : Cond.fieldLink RX7 25 (TX7 10).1 (TX7 10).2.1 (TX7 10).2.2.1 ∈ wsX7_hireBy := by decide +kernel
  have lk28_7 : Cond.fieldLink RX7 28 (TX7 11).1 (TX7 11).2.1 (TX7 11).2.2.1 ∈ wsX7_hireBy := by decide +kernel
  have hA : ∀ q : Nat, s.heap.size ≤ q → A q := hA0
  obtain ⟨g, LP, pf, hP, hD, hG⟩ := hC
  have hS : va_S A s.heap s.heap [] := va_S.rf
  have hl := lv_entry ([.ref (h 33), .int p0, .int p1, .int p2]) (n := 4) (Nat.le_of_ble_eq_true rfl)
  rw [show entryFrame m args 4 = entryFrame m ([.ref (h 33), .int p0, .int p1, .int p2] : List Value).toArray 4 from by rw [hargs], lg_entry_eq]
  generalize (lg_sl ([.ref (h 33), .int p0, .int p1, .int p2]) ++ List.replicate (4 - (lg_sl ([.ref (h 33), .int p0, .int p1, .int p2])).length) Slot.unset).toArray = ls at hl ⊢
  have hl : lv_has ls 4 [(0, .ref (h 33)), (1, .int p0), (2, .int p1), (3, .int p2)] := hl
  unfold f_X7_hireBy_33 at hf
  refine lv_aload_n hx hb dX7_hireBy_0 rfl (lv_at hl 0 rfl) ?_
  refine va_get (D := (dC, dI)) (ci := 7) (v := .ref (h 39)) (C := RX7) (T := TX7) (N := 12) hx hb hts hin7 hown hK hP 33 rfl rfl 11 (by decide) (hts _ lk28_7) (fun _ h9 => h9) rfl dX7_hireBy_1 ?_
  refine lv_iload_n hx hb dX7_hireBy_4 rfl (lv_at hl 1 rfl) ?_
  obtain ⟨x1, hix1, ex1, hf⟩ := rd_b hf
  refine va_iald hx hb hK hP 39 0 rfl rfl hix1 dX7_hireBy_5 (kI ex1 ?_)
  refine lv_aload_n hx hb dX7_hireBy_6 rfl (lv_at hl 0 rfl) ?_
  refine lv_iload_n hx hb dX7_hireBy_7 rfl (lv_at hl 2 rfl) ?_
  refine lv_aload_n hx hb dX7_hireBy_8 rfl (lv_at hl 0 rfl) ?_
  refine va_get (D := (dC, dI)) (ci := 7) (v := .ref (h 38)) (C := RX7) (T := TX7) (N := 12) hx hb hts hin7 hown hK hP 33 rfl rfl 10 (by decide) (hts _ lk25_7) (fun _ h9 => h9) rfl dX7_hireBy_9 ?_
  refine lv_iload_n hx hb dX7_hireBy_12 rfl (lv_at hl 1 rfl) ?_
  obtain ⟨x2, hix2, ex2, hf⟩ := rd_b hf
  refine va_iald hx hb hK hP 38 0 rfl rfl hix2 dX7_hireBy_13 (kI ex2 ?_)
  refine lv_iadd hx hb dX7_hireBy_14 ?_
  refine lv_iload_n hx hb dX7_hireBy_15 rfl (lv_at hl 3 rfl) ?_
  refine lv_iload_n hx hb dX7_hireBy_16 rfl (lv_at hl 1 rfl) ?_
  refine lv_ixor hx hb dX7_hireBy_17 ?_
  obtain ⟨r3, er3, hf⟩ := bd hf
  refine klCi (rest := [.int x1]) (As := [.int (p1 + x2), .int (p2 ^^^ p0)]) ⟨hx, hb, hml, hown, hts⟩ (c_X7_hireFrom_33 l dC dI t ts aK aV A h tx s.heap.size (fun q hq => hA q (Nat.le_trans hS.1 hq)) S (p1 + x2) (p2 ^^^ p0) r3 er3) (cwV 2 hts gX7_hireBy_X7_hireFrom rfl rfl rfl (by decide +kernel) ⟨Nat.le_of_ble_eq_true rfl, Nat.le_of_ble_eq_true rfl⟩) (va_recv hK hP (ci := 7) (q0 := 33) rfl rfl) rfl hl.1 rfl (Nat.le_of_ble_eq_true rfl) dX7_hireBy_18 ⟨Nat.zero_le _, Nat.zero_le _⟩ hE hK ⟨g, LP, pf, hP, hD, hG⟩ hS (fun H locs hC hS => ?_)
  obtain ⟨g, LP, pf, hP, hD, hG⟩ := hC
  refine lv_iadd hx hb dX7_hireBy_21 ?_
  exact rtCi hx hb hr hlocks ⟨g, LP, pf, hP, hD, hG⟩ hS (congrArg (fun z => some (z, S)) (Option.some.inj hf)) dX7_hireBy_22

def k_X7_leastHire_33_22 (y2 : Int32) : Option Int32 :=
  some y2
def b_X7_leastHire_33_22 (S : CS) (p0 : Int32) (p1 : Int32) (y3 : Int32) (y4 : Int32) : Option ((Int32 × Int32) ⊕ Int32) :=
  (if 21 ≤ y4 then (some (Sum.inr y3)) else (Option.bind (rdI 21 (ssI 0) y4) (fun x5 => Option.bind (f_X7_mayCross_33 S x5 p0 (S.1 4301 0)) (fun r6 => (if r6 = 0 then (Option.bind (some (y4 + 1)) (fun x7 => some (Sum.inl (y3, x7)))) else (Option.bind (f_X10_isOnOneSide x5 p1) (fun r8 => (if r8 = 0 then (Option.bind (some (y4 + 1)) (fun x9 => some (Sum.inl (y3, x9)))) else (Option.bind (f_X7_hireBy_33 S x5 p0 p1) (fun r10 => Option.bind (some (if r10 < y3 then r10 else y3)) (fun x11 => Option.bind (some (y4 + 1)) (fun x12 => some (Sum.inl (x11, x12))))))))))))))
def f_X7_leastHire_33 (S : CS) (p0 : Int32) (p1 : Int32) : Option Int32 :=
  Option.bind (f_X7_hireFrom_33 S (p0 + 1) p1) (fun r1 => Option.bind (lp (fun s => b_X7_leastHire_33_22 S p0 p1 s.1 s.2) FU (r1, 0)) (fun s => k_X7_leastHire_33_22 s))
def rmX7_leastHire_33 : Room := { frames := 2, cells := 0, slots := 0, locals := 45 }
abbrev RRX7_leastHire_33 : Room := (headSpec wsX7_leastHire rmX7_leastHire_33).room
theorem in7_X7_leastHire_33 : ∀ w ∈ wsX70, w ∈ wsX7_leastHire := by decide +kernel
set_option maxHeartbeats 4000000 in
set_option maxRecDepth 100000 in
theorem c_X7_leastHire_33 (l : Launch) (dC : Nat → ClassId) (dI : Nat → Nat → Nat) (t : Nat → ClassId) (ts aK aV : Nat → Nat) (A : Nat → Prop) (h : Nat → Nat) (tx : Nat) (sz : Nat) (hA0 : ∀ q : Nat, sz ≤ q → A q) (S : CS) (p0 : Int32) (p1 : Int32) (r : Int32) (hf : f_X7_leastHire_33 S p0 p1 = some r) : cCi l yX7_leastHire wsX7_leastHire rmX7_leastHire_33 dC dI t ts aK aV A h tx tx sz [.ref (h 33), .int p0, .int p1] S r S := by
  refine Met.ofW (cc := cX7_leastHire) (maxL := 8) (ret := (some .int)) (by decide) rfl ?_
  intro p e s m args below meth c s₁ B hml hv
  obtain ⟨hargs, hsz, hE, hC, hK⟩ := hv
  have hx := B.exec
  have hb := B.bytes
  have hr := B.returns
  have hts := atoms_spec (ws := wsX7_leastHire) B.pre
  have hown : s.vm.findClass RX7 = some m.cls := findClass_of_methodNamed B.named
  have hlocks := B.notSynchronized
  have hsz : s.heap.size = sz := hsz
  subst hsz
  have hin7 := in7_X7_leastHire_33
  have lk70_7 : Cond.fieldLink RX7 70 (TX7 1).1 (TX7 1).2.1 (TX7 1).2.2.1 ∈ wsX7_leastHire := by decide +kernel
  have hA : ∀ q : Nat, s.heap.size ≤ q → A q := hA0
  obtain ⟨g, LP, pf, hP, hD, hG⟩ := hC
  have hS : va_S A s.heap s.heap [] := va_S.rf
  have hl := lv_entry ([.ref (h 33), .int p0, .int p1]) (n := 8) (Nat.le_of_ble_eq_true rfl)
  rw [show entryFrame m args 8 = entryFrame m ([.ref (h 33), .int p0, .int p1] : List Value).toArray 8 from by rw [hargs], lg_entry_eq]
  generalize (lg_sl ([.ref (h 33), .int p0, .int p1]) ++ List.replicate (8 - (lg_sl ([.ref (h 33), .int p0, .int p1])).length) Slot.unset).toArray = ls at hl ⊢
  have hl : lv_has ls 8 [(0, .ref (h 33)), (1, .int p0), (2, .int p1)] := hl
  unfold f_X7_leastHire_33 at hf
  refine lv_aload_n hx hb dX7_leastHire_0 rfl (lv_at hl 0 rfl) ?_
  refine lv_iload_n hx hb dX7_leastHire_1 rfl (lv_at hl 1 rfl) ?_
  refine lv_iconst (v := 1) hx hb dX7_leastHire_2 (by decide) ?_
  refine lv_iadd hx hb dX7_leastHire_3 ?_
  refine lv_iload_n hx hb dX7_leastHire_4 rfl (lv_at hl 2 rfl) ?_
  obtain ⟨r1, er1, hf⟩ := bd hf
  refine klCi (rest := []) (As := [.int (p0 + 1), .int p1]) ⟨hx, hb, hml, hown, hts⟩ (c_X7_hireFrom_33 l dC dI t ts aK aV A h tx s.heap.size (fun q hq => hA q (Nat.le_trans hS.1 hq)) S (p0 + 1) p1 r1 er1) (cwV 2 hts gX7_leastHire_X7_hireFrom rfl rfl rfl (by decide +kernel) ⟨Nat.le_of_ble_eq_true rfl, Nat.le_of_ble_eq_true rfl⟩) (va_recv hK hP (ci := 7) (q0 := 33) rfl rfl) rfl hl.1 rfl (Nat.le_of_ble_eq_true rfl) dX7_leastHire_5 ⟨Nat.zero_le _, Nat.zero_le _⟩ hE hK ⟨g, LP, pf, hP, hD, hG⟩ hS (fun H locs hC hS => ?_)
  obtain ⟨g, LP, pf, hP, hD, hG⟩ := hC
  refine lv_istore_n (lv' := [(3, .int r1), (0, .ref (h 33)), (1, .int p0), (2, .int p1)]) hx hb dX7_leastHire_8 rfl hl (by decide) rfl (fun ls hl => ?_)
  refine va_getsN hx hb hE.2.1.1 hS hown (va_Nw.use rfl (hE.1.2.1 ("OnlyTwo$Planner", 42, "OnlyTwo", "SMALL_SETS", "[I", "OnlyTwo") (by decide +kernel))) (fun _ h9 => h9) dX7_leastHire_9 ?_
  refine lv_astore (lv' := [(4, .ref (ts 0)), (3, .int r1), (0, .ref (h 33)), (1, .int p0), (2, .int p1)]) hx hb dX7_leastHire_12 hl (by decide) rfl (fun ls hl => ?_)
  refine lv_aload hx hb dX7_leastHire_14 (lv_at hl 0 rfl) ?_
  refine va_tlen (v := 21) hx hb hE.2.1.2 hS (by decide) dX7_leastHire_16 ?_
  refine lv_istore (lv' := [(5, .int 21), (4, .ref (ts 0)), (3, .int r1), (0, .ref (h 33)), (1, .int p0), (2, .int p1)]) hx hb dX7_leastHire_17 hl (by decide) rfl (fun ls hl => ?_)
  refine lv_iconst (v := 0) hx hb dX7_leastHire_19 (by decide) ?_
  refine lv_istore (lv' := [(6, .int 0), (5, .int 21), (4, .ref (ts 0)), (3, .int r1), (0, .ref (h 33)), (1, .int p0), (2, .int p1)]) hx hb dX7_leastHire_20 hl (by decide) rfl (fun ls hl => ?_)
  have K22 : ∀ (y2 : Int32) (g : Nat → Nat → Option Nat) (LP : List Nat) (pf : Nat → va_E) (H : Heap) (locs : List Loc) (ls : Array Slot), k_X7_leastHire_33_22 y2 = some r → va_P (dC, dI) vwCl (wC t h tx g S ++ va_pl LP pf) H → va_D A (wC t h tx g S ++ va_pl LP pf) → rlC g LP pf S → va_S A s.heap H locs → lv_has ls 8 [(3, .int y2)] → W p l e RRX7_leastHire_33 s m args below meth c H locs 0 0 (MQ below (qcCi dC dI t A h tx r S) args s 0 0 A) (F0 m 78 ls []) := by
    intro y2 g LP pf H locs ls hf hP hD hG hS hl
    unfold k_X7_leastHire_33_22 at hf
    refine lv_iload_n hx hb dX7_leastHire_78 rfl (lv_at hl 0 rfl) ?_
    exact rtCi hx hb hr hlocks ⟨g, LP, pf, hP, hD, hG⟩ hS (congrArg (fun z => some (z, S)) (Option.some.inj hf)) dX7_leastHire_79
  obtain ⟨z22, ez22, hz22⟩ := bd hf
  have L22 : ∀ (n : Nat) (y3 : Int32) (y4 : Int32) (g : Nat → Nat → Option Nat) (LP : List Nat) (pf : Nat → va_E) (H : Heap) (locs : List Loc) (ls : Array Slot), lp (fun s => b_X7_leastHire_33_22 S p0 p1 s.1 s.2) n (y3, y4) = some z22 → va_P (dC, dI) vwCl (wC t h tx g S ++ va_pl LP pf) H → va_D A (wC t h tx g S ++ va_pl LP pf) → rlC g LP pf S → va_S A s.heap H locs → lv_has ls 8 [(0, .ref (h 33)), (1, .int p0), (2, .int p1), (3, .int y3), (4, .ref (ts 0)), (5, .int 21), (6, .int y4)] → W p l e RRX7_leastHire_33 s m args below meth c H locs 0 0 (MQ below (qcCi dC dI t A h tx r S) args s 0 0 A) (F0 m 22 ls []) := by
    intro n
    induction n with
    | zero => intro y3 y4 g LP pf H locs ls hf; exact lp_z hf
    | succ n ih22 =>
      intro y3 y4 g LP pf H locs ls hf hP hD hG hS hl
      obtain ⟨q22, hf, hq22⟩ := lp_i hf
      have hf : b_X7_leastHire_33_22 S p0 p1 y3 y4 = some q22 := hf
      unfold b_X7_leastHire_33_22 at hf
      refine lv_iload hx hb dX7_leastHire_22 (lv_at hl 6 rfl) ?_
      refine lv_iload hx hb dX7_leastHire_24 (lv_at hl 5 rfl) ?_
      refine lv_icmp_ge (tgt := 78) hx hb dX7_leastHire_26 (by decide) (fun c15 => ?_) (fun c15 => ?_)
      · have hf := (if_pos c15).symm.trans hf
        exact K22 y3 _ _ _ _ _ _ (lp_x (k := (fun s => k_X7_leastHire_33_22 s)) (lp_r hf hq22) hz22) hP hD hG hS (lv_sub hl [3] rfl)
      · have hf := (if_neg c15).symm.trans hf
        refine lv_aload hx hb dX7_leastHire_29 (lv_at hl 4 rfl) ?_
        refine lv_iload hx hb dX7_leastHire_31 (lv_at hl 6 rfl) ?_
        obtain ⟨x5, hix5, ex5, hf⟩ := rd_b hf
        refine va_ti hx hb hE.2.1.2 hS hix5 rfl dX7_leastHire_33 (kI ex5 ?_)
        refine lv_istore (lv' := [(7, .int x5), (0, .ref (h 33)), (1, .int p0), (2, .int p1), (3, .int y3), (4, .ref (ts 0)), (5, .int 21), (6, .int y4)]) hx hb dX7_leastHire_34 hl (by decide) rfl (fun ls hl => ?_)
        refine lv_aload_n hx hb dX7_leastHire_36 rfl (lv_at hl 1 rfl) ?_
        refine lv_iload hx hb dX7_leastHire_37 (lv_at hl 0 rfl) ?_
        refine lv_iload_n hx hb dX7_leastHire_39 rfl (lv_at hl 2 rfl) ?_
        refine lv_aload_n hx hb dX7_leastHire_40 rfl (lv_at hl 1 rfl) ?_
        refine va_get (D := (dC, dI)) (ci := 7) (v := .int (S.1 4301 0)) (C := RX7) (T := TX7) (N := 12) hx hb hts hin7 hown hK hP 33 rfl rfl 1 (by decide) (hts _ lk70_7) (fun _ h9 => h9) rfl dX7_leastHire_41 ?_
        obtain ⟨r6, er6, hf⟩ := bd hf
        refine klCi (rest := []) (As := [.int x5, .int p0, .int (S.1 4301 0)]) ⟨hx, hb, hml, hown, hts⟩ (c_X7_mayCross_33 l dC dI t ts aK aV A h tx H.size (fun q hq => hA q (Nat.le_trans hS.1 hq)) S x5 p0 (S.1 4301 0) r6 er6) (cwV 3 hts gX7_leastHire_X7_mayCross rfl rfl rfl (by decide +kernel) ⟨Nat.le_of_ble_eq_true rfl, Nat.le_of_ble_eq_true rfl⟩) (va_recv hK hP (ci := 7) (q0 := 33) rfl rfl) rfl hl.1 rfl (Nat.le_of_ble_eq_true rfl) dX7_leastHire_44 ⟨Nat.zero_le _, Nat.zero_le _⟩ hE hK ⟨g, LP, pf, hP, hD, hG⟩ hS (fun H locs hC hS => ?_)
        obtain ⟨g, LP, pf, hP, hD, hG⟩ := hC
        refine lv_if_eq (tgt := 72) hx hb dX7_leastHire_47 (by decide) (fun c14 => ?_) (fun c14 => ?_)
        · have hf := (if_pos c14).symm.trans hf
          obtain ⟨x7, ex7, hf⟩ := bn hf
          refine lv_iinc (v := x7) (lv' := [(6, .int x7), (7, .int x5), (0, .ref (h 33)), (1, .int p0), (2, .int p1), (3, .int y3), (4, .ref (ts 0)), (5, .int 21)]) hx hb dX7_leastHire_72 hl (k := 7) rfl (by rw [ex7]; rfl) (by decide) rfl (fun ls hl => ?_)
          refine lv_goto (tgt := 22) hx hb dX7_leastHire_75 (by decide) ?_
          exact ih22 y3 x7 _ _ _ _ _ _ (lp_l hf hq22) hP hD hG hS (lv_sub hl [2, 3, 4, 5, 6, 7, 0] rfl)
        · have hf := (if_neg c14).symm.trans hf
          refine lv_iload hx hb dX7_leastHire_50 (lv_at hl 0 rfl) ?_
          refine lv_iload_n hx hb dX7_leastHire_52 rfl (lv_at hl 3 rfl) ?_
          obtain ⟨r8, er8, hf⟩ := bd hf
          refine klXNi (rest := []) (As := [.int x5, .int p1]) ⟨hx, hb, hml, hown, hts⟩ (c_X10_isOnOneSide l H.size x5 p1 r8 er8) (fun _ _ _ _ _ => trivial) (fun _ _ _ => trivial) ⟨va_cnB 2 hts gX7_leastHire_X10_isOnOneSide_n117 rfl rfl rfl (hE.1.1 ("OnlyTwo$Planner", 117, ⟨"OnlyTwo", "isOnOneSide", "(II)Z"⟩, "OnlyTwo") (by decide +kernel)) (hts (.initialized RX10) (by decide +kernel)) (by decide +kernel) ⟨Nat.le_of_ble_eq_true rfl, Nat.le_of_ble_eq_true rfl⟩, hts (.static yX10_isOnOneSide) (by decide +kernel), trivial⟩ rfl hl.1 rfl (Nat.le_of_ble_eq_true rfl) dX7_leastHire_53 ⟨Nat.zero_le _, Nat.zero_le _⟩ hS hA (fun H2 locs hk hS => ?_)
          have hP := kpP hP hk
          generalize H2 = H at hP hS ⊢
          refine lv_if_eq (tgt := 72) hx hb dX7_leastHire_56 (by decide) (fun c13 => ?_) (fun c13 => ?_)
          · have hf := (if_pos c13).symm.trans hf
            obtain ⟨x9, ex9, hf⟩ := bn hf
            refine lv_iinc (v := x9) (lv' := [(6, .int x9), (7, .int x5), (0, .ref (h 33)), (1, .int p0), (2, .int p1), (3, .int y3), (4, .ref (ts 0)), (5, .int 21)]) hx hb dX7_leastHire_72 hl (k := 7) rfl (by rw [ex9]; rfl) (by decide) rfl (fun ls hl => ?_)
            refine lv_goto (tgt := 22) hx hb dX7_leastHire_75 (by decide) ?_
            exact ih22 y3 x9 _ _ _ _ _ _ (lp_l hf hq22) hP hD hG hS (lv_sub hl [2, 3, 4, 5, 6, 7, 0] rfl)
          · have hf := (if_neg c13).symm.trans hf
            refine lv_iload_n hx hb dX7_leastHire_59 rfl (lv_at hl 4 rfl) ?_
            refine lv_aload_n hx hb dX7_leastHire_60 rfl (lv_at hl 1 rfl) ?_
            refine lv_iload hx hb dX7_leastHire_61 (lv_at hl 0 rfl) ?_
            refine lv_iload_n hx hb dX7_leastHire_63 rfl (lv_at hl 2 rfl) ?_
            refine lv_iload_n hx hb dX7_leastHire_64 rfl (lv_at hl 3 rfl) ?_
            obtain ⟨r10, er10, hf⟩ := bd hf
            refine klCi (rest := [.int y3]) (As := [.int x5, .int p0, .int p1]) ⟨hx, hb, hml, hown, hts⟩ (c_X7_hireBy_33 l dC dI t ts aK aV A h tx H.size (fun q hq => hA q (Nat.le_trans hS.1 hq)) S x5 p0 p1 r10 er10) (cwV 3 hts gX7_leastHire_X7_hireBy rfl rfl rfl (by decide +kernel) ⟨Nat.le_of_ble_eq_true rfl, Nat.le_of_ble_eq_true rfl⟩) (va_recv hK hP (ci := 7) (q0 := 33) rfl rfl) rfl hl.1 rfl (Nat.le_of_ble_eq_true rfl) dX7_leastHire_65 ⟨Nat.zero_le _, Nat.zero_le _⟩ hE hK ⟨g, LP, pf, hP, hD, hG⟩ hS (fun H locs hC hS => ?_)
            obtain ⟨g, LP, pf, hP, hD, hG⟩ := hC
            refine va_mmin hx hb (by rw [hml]; exact hl.1.symm) hown (hts (.methodLink RX7 125 Lib.Math.min.name) (by decide +kernel)) (hts (.static Lib.Math.min.name) (by decide +kernel)) (hts (.initialized "java/lang/Math") (by decide +kernel)) (hts (.code Lib.Math.min.name Lib.Math.min.code 2 (some .int)) (by decide +kernel)) (Nat.le_of_ble_eq_true rfl) (Nat.le_of_ble_eq_true rfl) (Nat.zero_le _) (Nat.zero_le _) dX7_leastHire_68 ?_
            refine lv_topi (fun x11 ex11 => ?_)
            have hf := bs ex11 hf
            refine lv_istore_n (lv' := [(3, .int x11), (7, .int x5), (0, .ref (h 33)), (1, .int p0), (2, .int p1), (4, .ref (ts 0)), (5, .int 21), (6, .int y4)]) hx hb dX7_leastHire_71 rfl hl (by decide) rfl (fun ls hl => ?_)
            obtain ⟨x12, ex12, hf⟩ := bn hf
            refine lv_iinc (v := x12) (lv' := [(6, .int x12), (3, .int x11), (7, .int x5), (0, .ref (h 33)), (1, .int p0), (2, .int p1), (4, .ref (ts 0)), (5, .int 21)]) hx hb dX7_leastHire_72 hl (k := 7) rfl (by rw [ex12]; rfl) (by decide) rfl (fun ls hl => ?_)
            refine lv_goto (tgt := 22) hx hb dX7_leastHire_75 (by decide) ?_
            exact ih22 x11 x12 _ _ _ _ _ _ (lp_l hf hq22) hP hD hG hS (lv_sub hl [3, 4, 5, 1, 6, 7, 0] rfl)
  exact L22 FU r1 0 _ _ _ _ _ _ ez22 hP hD hG hS (lv_sub hl [4, 5, 6, 3, 2, 1, 0] rfl)

def k_X7_findHires_33_5 (S2 : CS) : Option CS :=
  Option.bind (rdI 15424 (S2.1 37) 0) (fun x3 => Option.bind (some (siI S2 4302 (fun _ => x3))) (fun S4 => some S4))
def k_X7_findHires_33_11 (y5 : Int32) (S7 : CS) : Option ((Int32 × CS) ⊕ CS) :=
  Option.bind (some (y5 + (-1))) (fun x8 => some (Sum.inl (x8, S7)))
def b_X7_findHires_33_11 (y5 : Int32) (y9 : Int32) (S10 : CS) : Option ((Int32 × CS) ⊕ CS) :=
  (if 64 ≤ y9 then (some (Sum.inr S10)) else (Option.bind (rdJ 241 (S10.2.1 36) y5) (fun x11 => (if (lg_cmp (((Int64.toUInt64 x11 >>> ((Int32.toInt64 y9).toUInt64 &&& Int64.toUInt64 63)).toInt64) &&& 1) 0) = 0 then (Option.bind (some (y9 + 1)) (fun x12 => some (Sum.inl (x12, S10)))) else ((if y5 = (S10.1 4301 0) then (Option.bind (wrI S10 37 15424 ((y5 * 64) + y9) 0) (fun S16 => Option.bind (some (y9 + 1)) (fun x17 => some (Sum.inl (x17, S16))))) else (Option.bind (f_X7_leastHire_33 S10 y5 y9) (fun r13 => Option.bind (wrI S10 37 15424 ((y5 * 64) + y9) r13) (fun S14 => Option.bind (some (y9 + 1)) (fun x15 => some (Sum.inl (x15, S14))))))))))))
def b_X7_findHires_33_5 (y5 : Int32) (S6 : CS) : Option ((Int32 × CS) ⊕ CS) :=
  (if y5 < 0 then (some (Sum.inr S6)) else (Option.bind (lp (fun s => b_X7_findHires_33_11 y5 s.1 s.2) FU (0, S6)) (fun s => k_X7_findHires_33_11 y5 s)))
def f_X7_findHires_33 (S : CS)  : Option CS :=
  Option.bind (some (S.1 4301 0)) (fun x1 => Option.bind (lp (fun s => b_X7_findHires_33_5 s.1 s.2) FU (x1, S)) (fun s => k_X7_findHires_33_5 s))
def rmX7_findHires_33 : Room := { frames := 3, cells := 0, slots := 0, locals := 72 }
abbrev RRX7_findHires_33 : Room := (headSpec wsX7_findHires rmX7_findHires_33).room
theorem in7_X7_findHires_33 : ∀ w ∈ wsX70, w ∈ wsX7_findHires := by decide +kernel
set_option maxHeartbeats 4000000 in
set_option maxRecDepth 100000 in
theorem c_X7_findHires_33 (l : Launch) (dC : Nat → ClassId) (dI : Nat → Nat → Nat) (t : Nat → ClassId) (ts aK aV : Nat → Nat) (A : Nat → Prop) (h : Nat → Nat) (tx : Nat) (sz : Nat) (hA0 : ∀ q : Nat, sz ≤ q → A q) (S : CS)  (S' : CS) (hf : f_X7_findHires_33 S = some S') : cCv l yX7_findHires wsX7_findHires rmX7_findHires_33 dC dI t ts aK aV A h tx tx sz [.ref (h 33)] S S' := by
  refine Met.ofW (cc := cX7_findHires) (maxL := 3) (ret := none) (by decide) rfl ?_
  intro p e s m args below meth c s₁ B hml hv
  obtain ⟨hargs, hsz, hE, hC, hK⟩ := hv
  have hx := B.exec
  have hb := B.bytes
  have hr := B.returns
  have hts := atoms_spec (ws := wsX7_findHires) B.pre
  have hown : s.vm.findClass RX7 = some m.cls := findClass_of_methodNamed B.named
  have hlocks := B.notSynchronized
  have hsz : s.heap.size = sz := hsz
  subst hsz
  have hin7 := in7_X7_findHires_33
  have lk19_7 : Cond.fieldLink RX7 19 (TX7 8).1 (TX7 8).2.1 (TX7 8).2.2.1 ∈ wsX7_findHires := by decide +kernel
  have lk22_7 : Cond.fieldLink RX7 22 (TX7 9).1 (TX7 9).2.1 (TX7 9).2.2.1 ∈ wsX7_findHires := by decide +kernel
  have lk64_7 : Cond.fieldLink RX7 64 (TX7 2).1 (TX7 2).2.1 (TX7 2).2.2.1 ∈ wsX7_findHires := by decide +kernel
  have lk70_7 : Cond.fieldLink RX7 70 (TX7 1).1 (TX7 1).2.1 (TX7 1).2.2.1 ∈ wsX7_findHires := by decide +kernel
  have hA : ∀ q : Nat, s.heap.size ≤ q → A q := hA0
  obtain ⟨g, LP, pf, hP, hD, hG⟩ := hC
  have hS : va_S A s.heap s.heap [] := va_S.rf
  have hl := lv_entry ([.ref (h 33)]) (n := 3) (Nat.le_of_ble_eq_true rfl)
  rw [show entryFrame m args 3 = entryFrame m ([.ref (h 33)] : List Value).toArray 3 from by rw [hargs], lg_entry_eq]
  generalize (lg_sl ([.ref (h 33)]) ++ List.replicate (3 - (lg_sl ([.ref (h 33)])).length) Slot.unset).toArray = ls at hl ⊢
  have hl : lv_has ls 3 [(0, .ref (h 33))] := hl
  unfold f_X7_findHires_33 at hf
  refine lv_aload_n hx hb dX7_findHires_0 rfl (lv_at hl 0 rfl) ?_
  refine va_get (D := (dC, dI)) (ci := 7) (v := .int (S.1 4301 0)) (C := RX7) (T := TX7) (N := 12) hx hb hts hin7 hown hK hP 33 rfl rfl 1 (by decide) (hts _ lk70_7) (fun _ h9 => h9) rfl dX7_findHires_1 ?_
  refine lv_topi (fun x1 ex1 => ?_)
  have hf := bs ex1 hf
  refine lv_istore_n (lv' := [(1, .int x1), (0, .ref (h 33))]) hx hb dX7_findHires_4 rfl hl (by decide) rfl (fun ls hl => ?_)
  have K5 : ∀ (S2 : CS) (g : Nat → Nat → Option Nat) (LP : List Nat) (pf : Nat → va_E) (H : Heap) (locs : List Loc) (ls : Array Slot), k_X7_findHires_33_5 S2 = some S' → va_P (dC, dI) vwCl (wC t h tx g S2 ++ va_pl LP pf) H → va_D A (wC t h tx g S2 ++ va_pl LP pf) → rlC g LP pf S2 → va_S A s.heap H locs → lv_has ls 3 [(0, .ref (h 33))] → W p l e RRX7_findHires_33 s m args below meth c H locs 0 0 (MQ below (qcCv dC dI t A h tx S') args s 0 0 A) (F0 m 73 ls []) := by
    intro S2 g LP pf H locs ls hf hP hD hG hS hl
    unfold k_X7_findHires_33_5 at hf
    refine lv_aload_n hx hb dX7_findHires_73 rfl (lv_at hl 0 rfl) ?_
    refine lv_aload_n hx hb dX7_findHires_74 rfl (lv_at hl 0 rfl) ?_
    refine va_get (D := (dC, dI)) (ci := 7) (v := .ref (h 37)) (C := RX7) (T := TX7) (N := 12) hx hb hts hin7 hown hK hP 33 rfl rfl 9 (by decide) (hts _ lk22_7) (fun _ h9 => h9) rfl dX7_findHires_75 ?_
    refine lv_iconst (v := 0) hx hb dX7_findHires_78 (by decide) ?_
    obtain ⟨x3, hix3, ex3, hf⟩ := rd_b hf
    refine va_iald hx hb hK hP 37 0 rfl rfl hix3 dX7_findHires_79 (kI ex3 ?_)
    obtain ⟨S4, eS4, hf⟩ := bn hf
    refine va_put (D := (dC, dI)) (ci := 7) (v := .int x3) (ty := .int) (C := RX7) (T := TX7) (N := 12) hx hb hts hin7 tyX7 tyX7_ok nmX7 hown hK hP hD hS 33 rfl rfl 2 (by decide) (hts _ lk64_7) (fun _ h9 => h9) rfl (by decide +kernel) rfl rfl (Nat.le_of_ble_eq_true rfl) dX7_findHires_80 (fun H locs hP hD hS => ?_)
    have hP : va_P (dC, dI) vwCl (wC t h tx g S4 ++ va_pl LP pf) H := by rw [eS4]; exact hP
    have hD : va_D A (wC t h tx g S4 ++ va_pl LP pf) := by rw [eS4]; exact hD
    have hG : rlC g LP pf S4 := by rw [eS4]; exact hG
    exact rtCv hx hb hr hlocks ⟨g, LP, pf, hP, hD, hG⟩ hS hf dX7_findHires_83
  obtain ⟨z5, ez5, hz5⟩ := bd hf
  have L5 : ∀ (n : Nat) (y5 : Int32) (S6 : CS) (g : Nat → Nat → Option Nat) (LP : List Nat) (pf : Nat → va_E) (H : Heap) (locs : List Loc) (ls : Array Slot), lp (fun s => b_X7_findHires_33_5 s.1 s.2) n (y5, S6) = some z5 → va_P (dC, dI) vwCl (wC t h tx g S6 ++ va_pl LP pf) H → va_D A (wC t h tx g S6 ++ va_pl LP pf) → rlC g LP pf S6 → va_S A s.heap H locs → lv_has ls 3 [(0, .ref (h 33)), (1, .int y5)] → W p l e RRX7_findHires_33 s m args below meth c H locs 0 0 (MQ below (qcCv dC dI t A h tx S') args s 0 0 A) (F0 m 5 ls []) := by
    intro n
    induction n with
    | zero => intro y5 S6 g LP pf H locs ls hf; exact lp_z hf
    | succ n ih5 =>
      intro y5 S6 g LP pf H locs ls hf hP hD hG hS hl
      obtain ⟨q5, hf, hq5⟩ := lp_i hf
      have hf : b_X7_findHires_33_5 y5 S6 = some q5 := hf
      unfold b_X7_findHires_33_5 at hf
      refine lv_iload_n hx hb dX7_findHires_5 rfl (lv_at hl 1 rfl) ?_
      refine lv_if_lt (tgt := 73) hx hb dX7_findHires_6 (by decide) (fun c21 => ?_) (fun c21 => ?_)
      · have hf := (if_pos c21).symm.trans hf
        exact K5 S6 _ _ _ _ _ _ (lp_x (k := (fun s => k_X7_findHires_33_5 s)) (lp_r hf hq5) hz5) hP hD hG hS (lv_sub hl [0] rfl)
      · have hf := (if_neg c21).symm.trans hf
        refine lv_iconst (v := 0) hx hb dX7_findHires_9 (by decide) ?_
        refine lv_istore_n (lv' := [(2, .int 0), (0, .ref (h 33)), (1, .int y5)]) hx hb dX7_findHires_10 rfl hl (by decide) rfl (fun ls hl => ?_)
        have K11 : ∀ (S7 : CS) (g : Nat → Nat → Option Nat) (LP : List Nat) (pf : Nat → va_E) (H : Heap) (locs : List Loc) (ls : Array Slot), k_X7_findHires_33_11 y5 S7 = some q5 → va_P (dC, dI) vwCl (wC t h tx g S7 ++ va_pl LP pf) H → va_D A (wC t h tx g S7 ++ va_pl LP pf) → rlC g LP pf S7 → va_S A s.heap H locs → lv_has ls 3 [(0, .ref (h 33)), (1, .int y5)] → W p l e RRX7_findHires_33 s m args below meth c H locs 0 0 (MQ below (qcCv dC dI t A h tx S') args s 0 0 A) (F0 m 67 ls []) := by
          intro S7 g LP pf H locs ls hf hP hD hG hS hl
          unfold k_X7_findHires_33_11 at hf
          obtain ⟨x8, ex8, hf⟩ := bn hf
          refine lv_iinc (v := x8) (lv' := [(1, .int x8), (0, .ref (h 33))]) hx hb dX7_findHires_67 hl (k := 1) rfl (by rw [ex8]; rfl) (by decide) rfl (fun ls hl => ?_)
          refine lv_goto (tgt := 5) hx hb dX7_findHires_70 (by decide) ?_
          exact ih5 x8 S7 _ _ _ _ _ _ (lp_l hf hq5) hP hD hG hS (lv_sub hl [1, 0] rfl)
        obtain ⟨z11, ez11, hz11⟩ := bd hf
        have L11 : ∀ (n : Nat) (y9 : Int32) (S10 : CS) (g : Nat → Nat → Option Nat) (LP : List Nat) (pf : Nat → va_E) (H : Heap) (locs : List Loc) (ls : Array Slot), lp (fun s => b_X7_findHires_33_11 y5 s.1 s.2) n (y9, S10) = some z11 → va_P (dC, dI) vwCl (wC t h tx g S10 ++ va_pl LP pf) H → va_D A (wC t h tx g S10 ++ va_pl LP pf) → rlC g LP pf S10 → va_S A s.heap H locs → lv_has ls 3 [(0, .ref (h 33)), (1, .int y5), (2, .int y9)] → W p l e RRX7_findHires_33 s m args below meth c H locs 0 0 (MQ below (qcCv dC dI t A h tx S') args s 0 0 A) (F0 m 11 ls []) := by
          intro n
          induction n with
          | zero => intro y9 S10 g LP pf H locs ls hf; exact lp_z hf
          | succ n ih11 =>
            intro y9 S10 g LP pf H locs ls hf hP hD hG hS hl
            obtain ⟨q11, hf, hq11⟩ := lp_i hf
            have hf : b_X7_findHires_33_11 y5 y9 S10 = some q11 := hf
            unfold b_X7_findHires_33_11 at hf
            refine lv_iload_n hx hb dX7_findHires_11 rfl (lv_at hl 2 rfl) ?_
            refine lv_bipush (v := 64) hx hb dX7_findHires_12 (by decide) ?_
            refine lv_icmp_ge (tgt := 67) hx hb dX7_findHires_14 (by decide) (fun c20 => ?_) (fun c20 => ?_)
            · have hf := (if_pos c20).symm.trans hf
              exact K11 S10 _ _ _ _ _ _ (lp_x (k := (fun s => k_X7_findHires_33_11 y5 s)) (lp_r hf hq11) hz11) hP hD hG hS (lv_sub hl [0, 1] rfl)
            · have hf := (if_neg c20).symm.trans hf
              refine lv_aload_n hx hb dX7_findHires_17 rfl (lv_at hl 0 rfl) ?_
              refine va_get (D := (dC, dI)) (ci := 7) (v := .ref (h 36)) (C := RX7) (T := TX7) (N := 12) hx hb hts hin7 hown hK hP 33 rfl rfl 8 (by decide) (hts _ lk19_7) (fun _ h9 => h9) rfl dX7_findHires_18 ?_
              refine lv_iload_n hx hb dX7_findHires_21 rfl (lv_at hl 1 rfl) ?_
              obtain ⟨x11, hix11, ex11, hf⟩ := rdJ_b hf
              refine va_lald hx hb hK hP 36 2 rfl rfl hix11 dX7_findHires_22 (kJ ex11 ?_)
              refine lv_iload_n hx hb dX7_findHires_23 rfl (lv_at hl 2 rfl) ?_
              refine lv_lushr hx hb dX7_findHires_24 rfl ?_
              refine lv_lconst (v := 1) hx hb dX7_findHires_25 (by decide) ?_
              refine lv_land hx hb dX7_findHires_26 ?_
              refine lv_lconst (v := 0) hx hb dX7_findHires_27 (by decide) ?_
              refine W.lcmp hx hb dX7_findHires_28 ?_
              refine lv_if_eq (tgt := 61) hx hb dX7_findHires_29 (by decide) (fun c19 => ?_) (fun c19 => ?_)
              · have hf := (if_pos c19).symm.trans hf
                obtain ⟨x12, ex12, hf⟩ := bn hf
                refine lv_iinc (v := x12) (lv' := [(2, .int x12), (0, .ref (h 33)), (1, .int y5)]) hx hb dX7_findHires_61 hl (k := 2) rfl (by rw [ex12]; rfl) (by decide) rfl (fun ls hl => ?_)
                refine lv_goto (tgt := 11) hx hb dX7_findHires_64 (by decide) ?_
                exact ih11 x12 S10 _ _ _ _ _ _ (lp_l hf hq11) hP hD hG hS (lv_sub hl [1, 2, 0] rfl)
              · have hf := (if_neg c19).symm.trans hf
                refine lv_aload_n hx hb dX7_findHires_32 rfl (lv_at hl 0 rfl) ?_
                refine va_get (D := (dC, dI)) (ci := 7) (v := .ref (h 37)) (C := RX7) (T := TX7) (N := 12) hx hb hts hin7 hown hK hP 33 rfl rfl 9 (by decide) (hts _ lk22_7) (fun _ h9 => h9) rfl dX7_findHires_33 ?_
                refine lv_iload_n hx hb dX7_findHires_36 rfl (lv_at hl 1 rfl) ?_
                refine lv_bipush (v := 64) hx hb dX7_findHires_37 (by decide) ?_
                refine lv_imul hx hb dX7_findHires_39 ?_
                refine lv_iload_n hx hb dX7_findHires_40 rfl (lv_at hl 2 rfl) ?_
                refine lv_iadd hx hb dX7_findHires_41 ?_
                refine lv_iload_n hx hb dX7_findHires_42 rfl (lv_at hl 1 rfl) ?_
                refine lv_aload_n hx hb dX7_findHires_43 rfl (lv_at hl 0 rfl) ?_
                refine va_get (D := (dC, dI)) (ci := 7) (v := .int (S10.1 4301 0)) (C := RX7) (T := TX7) (N := 12) hx hb hts hin7 hown hK hP 33 rfl rfl 1 (by decide) (hts _ lk70_7) (fun _ h9 => h9) rfl dX7_findHires_44 ?_
                refine lv_icmp_ne (tgt := 54) hx hb dX7_findHires_47 (by decide) (fun c18 => ?_) (fun c18 => ?_)
                · have hf := (if_neg c18).symm.trans hf
                  refine lv_aload_n hx hb dX7_findHires_54 rfl (lv_at hl 0 rfl) ?_
                  refine lv_iload_n hx hb dX7_findHires_55 rfl (lv_at hl 1 rfl) ?_
                  refine lv_iload_n hx hb dX7_findHires_56 rfl (lv_at hl 2 rfl) ?_
                  obtain ⟨r13, er13, hf⟩ := bd hf
                  refine klCi (rest := [.int ((y5 * 64) + y9), .ref (h 37)]) (As := [.int y5, .int y9]) ⟨hx, hb, hml, hown, hts⟩ (c_X7_leastHire_33 l dC dI t ts aK aV A h tx H.size (fun q hq => hA q (Nat.le_trans hS.1 hq)) S10 y5 y9 r13 er13) (cwV 2 hts gX7_findHires_X7_leastHire rfl rfl rfl (by decide +kernel) ⟨Nat.le_of_ble_eq_true rfl, Nat.le_of_ble_eq_true rfl⟩) (va_recv hK hP (ci := 7) (q0 := 33) rfl rfl) rfl hl.1 rfl (Nat.le_of_ble_eq_true rfl) dX7_findHires_57 ⟨Nat.zero_le _, Nat.zero_le _⟩ hE hK ⟨g, LP, pf, hP, hD, hG⟩ hS (fun H locs hC hS => ?_)
                  obtain ⟨g, LP, pf, hP, hD, hG⟩ := hC
                  obtain ⟨S14, hiS14, eS14, hf⟩ := wrI_b hf
                  refine va_iast hx hb hK hP hD hS 37 0 rfl rfl hiS14 dX7_findHires_60 (fun H locs hP hD hS => ?_)
                  have hP : va_P (dC, dI) vwCl (wC t h tx g S14 ++ va_pl LP pf) H := by rw [eS14]; exact hP
                  have hD : va_D A (wC t h tx g S14 ++ va_pl LP pf) := by rw [eS14]; exact hD
                  have hG : rlC g LP pf S14 := by rw [eS14]; exact hG
                  obtain ⟨x15, ex15, hf⟩ := bn hf
                  refine lv_iinc (v := x15) (lv' := [(2, .int x15), (0, .ref (h 33)), (1, .int y5)]) hx hb dX7_findHires_61 hl (k := 2) rfl (by rw [ex15]; rfl) (by decide) rfl (fun ls hl => ?_)
                  refine lv_goto (tgt := 11) hx hb dX7_findHires_64 (by decide) ?_
                  exact ih11 x15 S14 _ _ _ _ _ _ (lp_l hf hq11) hP hD hG hS (lv_sub hl [1, 2, 0] rfl)
                · have hf := (if_pos c18).symm.trans hf
                  refine lv_iconst (v := 0) hx hb dX7_findHires_50 (by decide) ?_
                  refine lv_goto (tgt := 60) hx hb dX7_findHires_51 (by decide) ?_
                  obtain ⟨S16, hiS16, eS16, hf⟩ := wrI_b hf
                  refine va_iast hx hb hK hP hD hS 37 0 rfl rfl hiS16 dX7_findHires_60 (fun H locs hP hD hS => ?_)
                  have hP : va_P (dC, dI) vwCl (wC t h tx g S16 ++ va_pl LP pf) H := by rw [eS16]; exact hP
                  have hD : va_D A (wC t h tx g S16 ++ va_pl LP pf) := by rw [eS16]; exact hD
                  have hG : rlC g LP pf S16 := by rw [eS16]; exact hG
                  obtain ⟨x17, ex17, hf⟩ := bn hf
                  refine lv_iinc (v := x17) (lv' := [(2, .int x17), (0, .ref (h 33)), (1, .int y5)]) hx hb dX7_findHires_61 hl (k := 2) rfl (by rw [ex17]; rfl) (by decide) rfl (fun ls hl => ?_)
                  refine lv_goto (tgt := 11) hx hb dX7_findHires_64 (by decide) ?_
                  exact ih11 x17 S16 _ _ _ _ _ _ (lp_l hf hq11) hP hD hG hS (lv_sub hl [1, 2, 0] rfl)
        exact L11 FU 0 S6 _ _ _ _ _ _ ez11 hP hD hG hS (lv_sub hl [1, 2, 0] rfl)
  exact L5 FU x1 S _ _ _ _ _ _ ez5 hP hD hG hS (lv_sub hl [1, 0] rfl)

def b_X7_firstOfLeast_33_11 (S : CS) (p0 : Int32) (p1 : Int32) (y1 : Int32) : Option (Int32 ⊕ Int32) :=
  (if 21 ≤ y1 then (some (Sum.inr 0)) else (Option.bind (rdI 21 (ssI 0) y1) (fun x2 => Option.bind (f_X7_mayCross_33 S x2 p0 (S.1 4301 0)) (fun r3 => (if r3 = 0 then (Option.bind (some (y1 + 1)) (fun x4 => some (Sum.inl x4))) else (Option.bind (f_X10_isOnOneSide x2 p1) (fun r5 => (if r5 = 0 then (Option.bind (some (y1 + 1)) (fun x6 => some (Sum.inl x6))) else (Option.bind (f_X7_hireBy_33 S x2 p0 p1) (fun r7 => Option.bind (f_X7_hireFrom_33 S p0 p1) (fun r8 => (if r7 = r8 then (some (Sum.inr x2)) else (Option.bind (some (y1 + 1)) (fun x9 => some (Sum.inl x9)))))))))))))))
def f_X7_firstOfLeast_33 (S : CS) (p0 : Int32) (p1 : Int32) : Option Int32 :=
  lp (fun s => b_X7_firstOfLeast_33_11 S p0 p1 s) FU 0
def rmX7_firstOfLeast_33 : Room := { frames := 2, cells := 0, slots := 0, locals := 45 }
abbrev RRX7_firstOfLeast_33 : Room := (headSpec wsX7_firstOfLeast rmX7_firstOfLeast_33).room
theorem in7_X7_firstOfLeast_33 : ∀ w ∈ wsX70, w ∈ wsX7_firstOfLeast := by decide +kernel
set_option maxHeartbeats 4000000 in
set_option maxRecDepth 100000 in
theorem c_X7_firstOfLeast_33 (l : Launch) (dC : Nat → ClassId) (dI : Nat → Nat → Nat) (t : Nat → ClassId) (ts aK aV : Nat → Nat) (A : Nat → Prop) (h : Nat → Nat) (tx : Nat) (sz : Nat) (hA0 : ∀ q : Nat, sz ≤ q → A q) (S : CS) (p0 : Int32) (p1 : Int32) (r : Int32) (hf : f_X7_firstOfLeast_33 S p0 p1 = some r) : cCi l yX7_firstOfLeast wsX7_firstOfLeast rmX7_firstOfLeast_33 dC dI t ts aK aV A h tx tx sz [.ref (h 33), .int p0, .int p1] S r S := by
  refine Met.ofW (cc := cX7_firstOfLeast) (maxL := 7) (ret := (some .int)) (by decide) rfl ?_
  intro p e s m args below meth c s₁ B hml hv
  obtain ⟨hargs, hsz, hE, hC, hK⟩ := hv
  have hx := B.exec
  have hb := B.bytes
  have hr := B.returns
  have hts := atoms_spec (ws := wsX7_firstOfLeast) B.pre
  have hown : s.vm.findClass RX7 = some m.cls := findClass_of_methodNamed B.named
  have hlocks := B.notSynchronized
  have hsz : s.heap.size = sz := hsz
  subst hsz
  have hin7 := in7_X7_firstOfLeast_33
  have lk70_7 : Cond.fieldLink RX7 70 (TX7 1).1 (TX7 1).2.1 (TX7 1).2.2.1 ∈ wsX7_firstOfLeast := by decide +kernel
  have hA : ∀ q : Nat, s.heap.size ≤ q → A q := hA0
  obtain ⟨g, LP, pf, hP, hD, hG⟩ := hC
  have hS : va_S A s.heap s.heap [] := va_S.rf
  have hl := lv_entry ([.ref (h 33), .int p0, .int p1]) (n := 7) (Nat.le_of_ble_eq_true rfl)
  rw [show entryFrame m args 7 = entryFrame m ([.ref (h 33), .int p0, .int p1] : List Value).toArray 7 from by rw [hargs], lg_entry_eq]
  generalize (lg_sl ([.ref (h 33), .int p0, .int p1]) ++ List.replicate (7 - (lg_sl ([.ref (h 33), .int p0, .int p1])).length) Slot.unset).toArray = ls at hl ⊢
  have hl : lv_has ls 7 [(0, .ref (h 33)), (1, .int p0), (2, .int p1)] := hl
  unfold f_X7_firstOfLeast_33 at hf
  refine va_getsN hx hb hE.2.1.1 hS hown (va_Nw.use rfl (hE.1.2.1 ("OnlyTwo$Planner", 42, "OnlyTwo", "SMALL_SETS", "[I", "OnlyTwo") (by decide +kernel))) (fun _ h9 => h9) dX7_firstOfLeast_0 ?_
  refine lv_astore_n (lv' := [(3, .ref (ts 0)), (0, .ref (h 33)), (1, .int p0), (2, .int p1)]) hx hb dX7_firstOfLeast_3 rfl hl (by decide) rfl (fun ls hl => ?_)
  refine lv_aload_n hx hb dX7_firstOfLeast_4 rfl (lv_at hl 0 rfl) ?_
  refine va_tlen (v := 21) hx hb hE.2.1.2 hS (by decide) dX7_firstOfLeast_5 ?_
  refine lv_istore (lv' := [(4, .int 21), (3, .ref (ts 0)), (0, .ref (h 33)), (1, .int p0), (2, .int p1)]) hx hb dX7_firstOfLeast_6 hl (by decide) rfl (fun ls hl => ?_)
  refine lv_iconst (v := 0) hx hb dX7_firstOfLeast_8 (by decide) ?_
  refine lv_istore (lv' := [(5, .int 0), (4, .int 21), (3, .ref (ts 0)), (0, .ref (h 33)), (1, .int p0), (2, .int p1)]) hx hb dX7_firstOfLeast_9 hl (by decide) rfl (fun ls hl => ?_)
  have L11 : ∀ (n : Nat) (y1 : Int32) (g : Nat → Nat → Option Nat) (LP : List Nat) (pf : Nat → va_E) (H : Heap) (locs : List Loc) (ls : Array Slot), lp (fun s => b_X7_firstOfLeast_33_11 S p0 p1 s) n y1 = some r → va_P (dC, dI) vwCl (wC t h tx g S ++ va_pl LP pf) H → va_D A (wC t h tx g S ++ va_pl LP pf) → rlC g LP pf S → va_S A s.heap H locs → lv_has ls 7 [(0, .ref (h 33)), (1, .int p0), (2, .int p1), (3, .ref (ts 0)), (4, .int 21), (5, .int y1)] → W p l e RRX7_firstOfLeast_33 s m args below meth c H locs 0 0 (MQ below (qcCi dC dI t A h tx r S) args s 0 0 A) (F0 m 11 ls []) := by
    intro n
    induction n with
    | zero => intro y1 g LP pf H locs ls hf; exact lp_z hf
    | succ n ih11 =>
      intro y1 g LP pf H locs ls hf hP hD hG hS hl
      obtain ⟨q11, hf, hq11⟩ := lp_i hf
      have hf : b_X7_firstOfLeast_33_11 S p0 p1 y1 = some q11 := hf
      unfold b_X7_firstOfLeast_33_11 at hf
      refine lv_iload hx hb dX7_firstOfLeast_11 (lv_at hl 5 rfl) ?_
      refine lv_iload hx hb dX7_firstOfLeast_13 (lv_at hl 4 rfl) ?_
      refine lv_icmp_ge (tgt := 73) hx hb dX7_firstOfLeast_15 (by decide) (fun c13 => ?_) (fun c13 => ?_)
      · have hf := (if_pos c13).symm.trans hf
        refine lv_iconst (v := 0) hx hb dX7_firstOfLeast_73 (by decide) ?_
        have hf := lp_r hf hq11
        exact rtCi hx hb hr hlocks ⟨g, LP, pf, hP, hD, hG⟩ hS (congrArg (fun z => some (z, S)) (Option.some.inj hf)) dX7_firstOfLeast_74
      · have hf := (if_neg c13).symm.trans hf
        refine lv_aload_n hx hb dX7_firstOfLeast_18 rfl (lv_at hl 3 rfl) ?_
        refine lv_iload hx hb dX7_firstOfLeast_19 (lv_at hl 5 rfl) ?_
        obtain ⟨x2, hix2, ex2, hf⟩ := rd_b hf
        refine va_ti hx hb hE.2.1.2 hS hix2 rfl dX7_firstOfLeast_21 (kI ex2 ?_)
        refine lv_istore (lv' := [(6, .int x2), (0, .ref (h 33)), (1, .int p0), (2, .int p1), (3, .ref (ts 0)), (4, .int 21), (5, .int y1)]) hx hb dX7_firstOfLeast_22 hl (by decide) rfl (fun ls hl => ?_)
        refine lv_aload_n hx hb dX7_firstOfLeast_24 rfl (lv_at hl 1 rfl) ?_
        refine lv_iload hx hb dX7_firstOfLeast_25 (lv_at hl 0 rfl) ?_
        refine lv_iload_n hx hb dX7_firstOfLeast_27 rfl (lv_at hl 2 rfl) ?_
        refine lv_aload_n hx hb dX7_firstOfLeast_28 rfl (lv_at hl 1 rfl) ?_
        refine va_get (D := (dC, dI)) (ci := 7) (v := .int (S.1 4301 0)) (C := RX7) (T := TX7) (N := 12) hx hb hts hin7 hown hK hP 33 rfl rfl 1 (by decide) (hts _ lk70_7) (fun _ h9 => h9) rfl dX7_firstOfLeast_29 ?_
        obtain ⟨r3, er3, hf⟩ := bd hf
        refine klCi (rest := []) (As := [.int x2, .int p0, .int (S.1 4301 0)]) ⟨hx, hb, hml, hown, hts⟩ (c_X7_mayCross_33 l dC dI t ts aK aV A h tx H.size (fun q hq => hA q (Nat.le_trans hS.1 hq)) S x2 p0 (S.1 4301 0) r3 er3) (cwV 3 hts gX7_firstOfLeast_X7_mayCross rfl rfl rfl (by decide +kernel) ⟨Nat.le_of_ble_eq_true rfl, Nat.le_of_ble_eq_true rfl⟩) (va_recv hK hP (ci := 7) (q0 := 33) rfl rfl) rfl hl.1 rfl (Nat.le_of_ble_eq_true rfl) dX7_firstOfLeast_32 ⟨Nat.zero_le _, Nat.zero_le _⟩ hE hK ⟨g, LP, pf, hP, hD, hG⟩ hS (fun H locs hC hS => ?_)
        obtain ⟨g, LP, pf, hP, hD, hG⟩ := hC
        refine lv_if_eq (tgt := 67) hx hb dX7_firstOfLeast_35 (by decide) (fun c12 => ?_) (fun c12 => ?_)
        · have hf := (if_pos c12).symm.trans hf
          obtain ⟨x4, ex4, hf⟩ := bn hf
          refine lv_iinc (v := x4) (lv' := [(5, .int x4), (6, .int x2), (0, .ref (h 33)), (1, .int p0), (2, .int p1), (3, .ref (ts 0)), (4, .int 21)]) hx hb dX7_firstOfLeast_67 hl (k := 6) rfl (by rw [ex4]; rfl) (by decide) rfl (fun ls hl => ?_)
          refine lv_goto (tgt := 11) hx hb dX7_firstOfLeast_70 (by decide) ?_
          exact ih11 x4 _ _ _ _ _ _ (lp_l hf hq11) hP hD hG hS (lv_sub hl [2, 3, 4, 5, 6, 0] rfl)
        · have hf := (if_neg c12).symm.trans hf
          refine lv_iload hx hb dX7_firstOfLeast_38 (lv_at hl 0 rfl) ?_
          refine lv_iload_n hx hb dX7_firstOfLeast_40 rfl (lv_at hl 3 rfl) ?_
          obtain ⟨r5, er5, hf⟩ := bd hf
          refine klXNi (rest := []) (As := [.int x2, .int p1]) ⟨hx, hb, hml, hown, hts⟩ (c_X10_isOnOneSide l H.size x2 p1 r5 er5) (fun _ _ _ _ _ => trivial) (fun _ _ _ => trivial) ⟨va_cnB 2 hts gX7_firstOfLeast_X10_isOnOneSide_n117 rfl rfl rfl (hE.1.1 ("OnlyTwo$Planner", 117, ⟨"OnlyTwo", "isOnOneSide", "(II)Z"⟩, "OnlyTwo") (by decide +kernel)) (hts (.initialized RX10) (by decide +kernel)) (by decide +kernel) ⟨Nat.le_of_ble_eq_true rfl, Nat.le_of_ble_eq_true rfl⟩, hts (.static yX10_isOnOneSide) (by decide +kernel), trivial⟩ rfl hl.1 rfl (Nat.le_of_ble_eq_true rfl) dX7_firstOfLeast_41 ⟨Nat.zero_le _, Nat.zero_le _⟩ hS hA (fun H2 locs hk hS => ?_)
          have hP := kpP hP hk
          generalize H2 = H at hP hS ⊢
          refine lv_if_eq (tgt := 67) hx hb dX7_firstOfLeast_44 (by decide) (fun c11 => ?_) (fun c11 => ?_)
          · have hf := (if_pos c11).symm.trans hf
            obtain ⟨x6, ex6, hf⟩ := bn hf
            refine lv_iinc (v := x6) (lv' := [(5, .int x6), (6, .int x2), (0, .ref (h 33)), (1, .int p0), (2, .int p1), (3, .ref (ts 0)), (4, .int 21)]) hx hb dX7_firstOfLeast_67 hl (k := 6) rfl (by rw [ex6]; rfl) (by decide) rfl (fun ls hl => ?_)
            refine lv_goto (tgt := 11) hx hb dX7_firstOfLeast_70 (by decide) ?_
            exact ih11 x6 _ _ _ _ _ _ (lp_l hf hq11) hP hD hG hS (lv_sub hl [2, 3, 4, 5, 6, 0] rfl)
          · have hf := (if_neg c11).symm.trans hf
            refine lv_aload_n hx hb dX7_firstOfLeast_47 rfl (lv_at hl 1 rfl) ?_
            refine lv_iload hx hb dX7_firstOfLeast_48 (lv_at hl 0 rfl) ?_
            refine lv_iload_n hx hb dX7_firstOfLeast_50 rfl (lv_at hl 2 rfl) ?_
            refine lv_iload_n hx hb dX7_firstOfLeast_51 rfl (lv_at hl 3 rfl) ?_
            obtain ⟨r7, er7, hf⟩ := bd hf
            refine klCi (rest := []) (As := [.int x2, .int p0, .int p1]) ⟨hx, hb, hml, hown, hts⟩ (c_X7_hireBy_33 l dC dI t ts aK aV A h tx H.size (fun q hq => hA q (Nat.le_trans hS.1 hq)) S x2 p0 p1 r7 er7) (cwV 3 hts gX7_firstOfLeast_X7_hireBy rfl rfl rfl (by decide +kernel) ⟨Nat.le_of_ble_eq_true rfl, Nat.le_of_ble_eq_true rfl⟩) (va_recv hK hP (ci := 7) (q0 := 33) rfl rfl) rfl hl.1 rfl (Nat.le_of_ble_eq_true rfl) dX7_firstOfLeast_52 ⟨Nat.zero_le _, Nat.zero_le _⟩ hE hK ⟨g, LP, pf, hP, hD, hG⟩ hS (fun H locs hC hS => ?_)
            obtain ⟨g, LP, pf, hP, hD, hG⟩ := hC
            refine lv_aload_n hx hb dX7_firstOfLeast_55 rfl (lv_at hl 1 rfl) ?_
            refine lv_iload_n hx hb dX7_firstOfLeast_56 rfl (lv_at hl 2 rfl) ?_
            refine lv_iload_n hx hb dX7_firstOfLeast_57 rfl (lv_at hl 3 rfl) ?_
            obtain ⟨r8, er8, hf⟩ := bd hf
            refine klCi (rest := [.int r7]) (As := [.int p0, .int p1]) ⟨hx, hb, hml, hown, hts⟩ (c_X7_hireFrom_33 l dC dI t ts aK aV A h tx H.size (fun q hq => hA q (Nat.le_trans hS.1 hq)) S p0 p1 r8 er8) (cwV 2 hts gX7_firstOfLeast_X7_hireFrom rfl rfl rfl (by decide +kernel) ⟨Nat.le_of_ble_eq_true rfl, Nat.le_of_ble_eq_true rfl⟩) (va_recv hK hP (ci := 7) (q0 := 33) rfl rfl) rfl hl.1 rfl (Nat.le_of_ble_eq_true rfl) dX7_firstOfLeast_58 ⟨Nat.zero_le _, Nat.zero_le _⟩ hE hK ⟨g, LP, pf, hP, hD, hG⟩ hS (fun H locs hC hS => ?_)
            obtain ⟨g, LP, pf, hP, hD, hG⟩ := hC
            refine lv_icmp_ne (tgt := 67) hx hb dX7_firstOfLeast_61 (by decide) (fun c10 => ?_) (fun c10 => ?_)
            · have hf := (if_neg c10).symm.trans hf
              obtain ⟨x9, ex9, hf⟩ := bn hf
              refine lv_iinc (v := x9) (lv' := [(5, .int x9), (6, .int x2), (0, .ref (h 33)), (1, .int p0), (2, .int p1), (3, .ref (ts 0)), (4, .int 21)]) hx hb dX7_firstOfLeast_67 hl (k := 6) rfl (by rw [ex9]; rfl) (by decide) rfl (fun ls hl => ?_)
              refine lv_goto (tgt := 11) hx hb dX7_firstOfLeast_70 (by decide) ?_
              exact ih11 x9 _ _ _ _ _ _ (lp_l hf hq11) hP hD hG hS (lv_sub hl [2, 3, 4, 5, 6, 0] rfl)
            · have hf := (if_pos c10).symm.trans hf
              refine lv_iload hx hb dX7_firstOfLeast_64 (lv_at hl 0 rfl) ?_
              have hf := lp_r hf hq11
              exact rtCi hx hb hr hlocks ⟨g, LP, pf, hP, hD, hG⟩ hS (congrArg (fun z => some (z, S)) (Option.some.inj hf)) dX7_firstOfLeast_66
  exact L11 FU 0 _ _ _ _ _ _ hf hP hD hG hS (lv_sub hl [3, 4, 5, 2, 1, 0] rfl)

def k_X7_findRow_33_6 (S1 : CS) : Option CS :=
  some S1
def j_X7_findRow_33_29 (y2 : Int32) (y3 : Int32) (y4 : Int32) (S5 : CS) (k6 : Int32) : Option ((Int32 × Int32 × Int32 × CS) ⊕ CS) :=
  (if k6 = 0 then (Option.bind (some (y4 + 1)) (fun x7 => some (Sum.inl (y2, y3, x7, S5)))) else ((if 240 ≤ (S5.1 4303 0) then (Option.bind (some (y4 + 1)) (fun x8 => some (Sum.inl (y2, y3, x8, S5)))) else (Option.bind (wrI S5 34 240 (S5.1 4303 0) ((64 * y4) + k6)) (fun S9 => Option.bind (some (siI S9 4303 (fun _ => (S9.1 4303 0) + 1))) (fun S10 => Option.bind (some (y2 ^^^ k6)) (fun x11 => Option.bind (rdI 64 (S10.1 38) k6) (fun x12 => Option.bind (some (y4 + x12)) (fun x13 => Option.bind (some (y4 + 1)) (fun x14 => some (Sum.inl (x11, x13, x14, S10))))))))))))
def b_X7_findRow_33_6 (y2 : Int32) (y3 : Int32) (y4 : Int32) (S5 : CS) : Option ((Int32 × Int32 × Int32 × CS) ⊕ CS) :=
  (if (S5.1 4301 0) ≤ y4 then (some (Sum.inr S5)) else ((if y3 ≤ y4 then (Option.bind (f_X7_firstOfLeast_33 S5 y4 y2) (fun r17 => j_X7_findRow_33_29 y2 y3 y4 S5 r17)) else (j_X7_findRow_33_29 y2 y3 y4 S5 0))))
def f_X7_findRow_33 (S : CS)  : Option CS :=
  Option.bind (lp (fun s => b_X7_findRow_33_6 s.1 s.2.1 s.2.2.1 s.2.2.2) FU (0, 0, 0, S)) (fun s => k_X7_findRow_33_6 s)
def rmX7_findRow_33 : Room := { frames := 3, cells := 0, slots := 0, locals := 71 }
abbrev RRX7_findRow_33 : Room := (headSpec wsX7_findRow rmX7_findRow_33).room
theorem in7_X7_findRow_33 : ∀ w ∈ wsX70, w ∈ wsX7_findRow := by decide +kernel
set_option maxHeartbeats 4000000 in
set_option maxRecDepth 100000 in
theorem c_X7_findRow_33 (l : Launch) (dC : Nat → ClassId) (dI : Nat → Nat → Nat) (t : Nat → ClassId) (ts aK aV : Nat → Nat) (A : Nat → Prop) (h : Nat → Nat) (tx : Nat) (sz : Nat) (hA0 : ∀ q : Nat, sz ≤ q → A q) (S : CS)  (S' : CS) (hf : f_X7_findRow_33 S = some S') : cCv l yX7_findRow wsX7_findRow rmX7_findRow_33 dC dI t ts aK aV A h tx tx sz [.ref (h 33)] S S' := by
  refine Met.ofW (cc := cX7_findRow) (maxL := 5) (ret := none) (by decide) rfl ?_
  intro p e s m args below meth c s₁ B hml hv
  obtain ⟨hargs, hsz, hE, hC, hK⟩ := hv
  have hx := B.exec
  have hb := B.bytes
  have hr := B.returns
  have hts := atoms_spec (ws := wsX7_findRow) B.pre
  have hown : s.vm.findClass RX7 = some m.cls := findClass_of_methodNamed B.named
  have hlocks := B.notSynchronized
  have hsz : s.heap.size = sz := hsz
  subst hsz
  have hin7 := in7_X7_findRow_33
  have lk9_7 : Cond.fieldLink RX7 9 (TX7 4).1 (TX7 4).2.1 (TX7 4).2.2.1 ∈ wsX7_findRow := by decide +kernel
  have lk25_7 : Cond.fieldLink RX7 25 (TX7 10).1 (TX7 10).2.1 (TX7 10).2.2.1 ∈ wsX7_findRow := by decide +kernel
  have lk67_7 : Cond.fieldLink RX7 67 (TX7 3).1 (TX7 3).2.1 (TX7 3).2.2.1 ∈ wsX7_findRow := by decide +kernel
  have lk70_7 : Cond.fieldLink RX7 70 (TX7 1).1 (TX7 1).2.1 (TX7 1).2.2.1 ∈ wsX7_findRow := by decide +kernel
  have hA : ∀ q : Nat, s.heap.size ≤ q → A q := hA0
  obtain ⟨g, LP, pf, hP, hD, hG⟩ := hC
  have hS : va_S A s.heap s.heap [] := va_S.rf
  have hl := lv_entry ([.ref (h 33)]) (n := 5) (Nat.le_of_ble_eq_true rfl)
  rw [show entryFrame m args 5 = entryFrame m ([.ref (h 33)] : List Value).toArray 5 from by rw [hargs], lg_entry_eq]
  generalize (lg_sl ([.ref (h 33)]) ++ List.replicate (5 - (lg_sl ([.ref (h 33)])).length) Slot.unset).toArray = ls at hl ⊢
  have hl : lv_has ls 5 [(0, .ref (h 33))] := hl
  unfold f_X7_findRow_33 at hf
  refine lv_iconst (v := 0) hx hb dX7_findRow_0 (by decide) ?_
  refine lv_istore_n (lv' := [(1, .int 0), (0, .ref (h 33))]) hx hb dX7_findRow_1 rfl hl (by decide) rfl (fun ls hl => ?_)
  refine lv_iconst (v := 0) hx hb dX7_findRow_2 (by decide) ?_
  refine lv_istore_n (lv' := [(2, .int 0), (1, .int 0), (0, .ref (h 33))]) hx hb dX7_findRow_3 rfl hl (by decide) rfl (fun ls hl => ?_)
  refine lv_iconst (v := 0) hx hb dX7_findRow_4 (by decide) ?_
  refine lv_istore_n (lv' := [(3, .int 0), (2, .int 0), (1, .int 0), (0, .ref (h 33))]) hx hb dX7_findRow_5 rfl hl (by decide) rfl (fun ls hl => ?_)
  have K6 : ∀ (S1 : CS) (g : Nat → Nat → Option Nat) (LP : List Nat) (pf : Nat → va_E) (H : Heap) (locs : List Loc) (ls : Array Slot), k_X7_findRow_33_6 S1 = some S' → va_P (dC, dI) vwCl (wC t h tx g S1 ++ va_pl LP pf) H → va_D A (wC t h tx g S1 ++ va_pl LP pf) → rlC g LP pf S1 → va_S A s.heap H locs → lv_has ls 5 [] → W p l e RRX7_findRow_33 s m args below meth c H locs 0 0 (MQ below (qcCv dC dI t A h tx S') args s 0 0 A) (F0 m 95 ls []) := by
    intro S1 g LP pf H locs ls hf hP hD hG hS hl
    unfold k_X7_findRow_33_6 at hf
    exact rtCv hx hb hr hlocks ⟨g, LP, pf, hP, hD, hG⟩ hS hf dX7_findRow_95
  obtain ⟨z6, ez6, hz6⟩ := bd hf
  have L6 : ∀ (n : Nat) (y2 : Int32) (y3 : Int32) (y4 : Int32) (S5 : CS) (g : Nat → Nat → Option Nat) (LP : List Nat) (pf : Nat → va_E) (H : Heap) (locs : List Loc) (ls : Array Slot), lp (fun s => b_X7_findRow_33_6 s.1 s.2.1 s.2.2.1 s.2.2.2) n (y2, y3, y4, S5) = some z6 → va_P (dC, dI) vwCl (wC t h tx g S5 ++ va_pl LP pf) H → va_D A (wC t h tx g S5 ++ va_pl LP pf) → rlC g LP pf S5 → va_S A s.heap H locs → lv_has ls 5 [(0, .ref (h 33)), (1, .int y2), (2, .int y3), (3, .int y4)] → W p l e RRX7_findRow_33 s m args below meth c H locs 0 0 (MQ below (qcCv dC dI t A h tx S') args s 0 0 A) (F0 m 6 ls []) := by
    intro n
    induction n with
    | zero => intro y2 y3 y4 S5 g LP pf H locs ls hf; exact lp_z hf
    | succ n ih6 =>
      intro y2 y3 y4 S5 g LP pf H locs ls hf hP hD hG hS hl
      obtain ⟨q6, hf, hq6⟩ := lp_i hf
      have hf : b_X7_findRow_33_6 y2 y3 y4 S5 = some q6 := hf
      unfold b_X7_findRow_33_6 at hf
      refine lv_iload_n hx hb dX7_findRow_6 rfl (lv_at hl 3 rfl) ?_
      refine lv_aload_n hx hb dX7_findRow_7 rfl (lv_at hl 0 rfl) ?_
      refine va_get (D := (dC, dI)) (ci := 7) (v := .int (S5.1 4301 0)) (C := RX7) (T := TX7) (N := 12) hx hb hts hin7 hown hK hP 33 rfl rfl 1 (by decide) (hts _ lk70_7) (fun _ h9 => h9) rfl dX7_findRow_8 ?_
      refine lv_icmp_ge (tgt := 95) hx hb dX7_findRow_11 (by decide) (fun c19 => ?_) (fun c19 => ?_)
      · have hf := (if_pos c19).symm.trans hf
        exact K6 S5 _ _ _ _ _ _ (lp_x (k := (fun s => k_X7_findRow_33_6 s)) (lp_r hf hq6) hz6) hP hD hG hS (lv_sub hl [] rfl)
      · have hf := (if_neg c19).symm.trans hf
        refine lv_iload_n hx hb dX7_findRow_14 rfl (lv_at hl 3 rfl) ?_
        refine lv_iload_n hx hb dX7_findRow_15 rfl (lv_at hl 2 rfl) ?_
        have J29 : ∀ (k6 : Int32) (g : Nat → Nat → Option Nat) (LP : List Nat) (pf : Nat → va_E) (H : Heap) (locs : List Loc) (ls : Array Slot), j_X7_findRow_33_29 y2 y3 y4 S5 k6 = some q6 → va_P (dC, dI) vwCl (wC t h tx g S5 ++ va_pl LP pf) H → va_D A (wC t h tx g S5 ++ va_pl LP pf) → rlC g LP pf S5 → va_S A s.heap H locs → lv_has ls 5 [(0, .ref (h 33)), (1, .int y2), (2, .int y3), (3, .int y4)] → W p l e RRX7_findRow_33 s m args below meth c H locs 0 0 (MQ below (qcCv dC dI t A h tx S') args s 0 0 A) (F0 m 29 ls [.int k6]) := by
          intro k6 g LP pf H locs ls hf hP hD hG hS hl
          unfold j_X7_findRow_33_29 at hf
          refine lv_istore (lv' := [(4, .int k6), (0, .ref (h 33)), (1, .int y2), (2, .int y3), (3, .int y4)]) hx hb dX7_findRow_29 hl (by decide) rfl (fun ls hl => ?_)
          refine lv_iload hx hb dX7_findRow_31 (lv_at hl 0 rfl) ?_
          refine lv_if_eq (tgt := 89) hx hb dX7_findRow_33 (by decide) (fun c16 => ?_) (fun c16 => ?_)
          · have hf := (if_pos c16).symm.trans hf
            obtain ⟨x7, ex7, hf⟩ := bn hf
            refine lv_iinc (v := x7) (lv' := [(3, .int x7), (4, .int k6), (0, .ref (h 33)), (1, .int y2), (2, .int y3)]) hx hb dX7_findRow_89 hl (k := 4) rfl (by rw [ex7]; rfl) (by decide) rfl (fun ls hl => ?_)
            refine lv_goto (tgt := 6) hx hb dX7_findRow_92 (by decide) ?_
            exact ih6 y2 y3 x7 S5 _ _ _ _ _ _ (lp_l hf hq6) hP hD hG hS (lv_sub hl [2, 3, 4, 0] rfl)
          · have hf := (if_neg c16).symm.trans hf
            refine lv_aload_n hx hb dX7_findRow_36 rfl (lv_at hl 1 rfl) ?_
            refine va_get (D := (dC, dI)) (ci := 7) (v := .int (S5.1 4303 0)) (C := RX7) (T := TX7) (N := 12) hx hb hts hin7 hown hK hP 33 rfl rfl 3 (by decide) (hts _ lk67_7) (fun _ h9 => h9) rfl dX7_findRow_37 ?_
            refine lv_aload_n hx hb dX7_findRow_40 rfl (lv_at hl 1 rfl) ?_
            refine va_get (D := (dC, dI)) (ci := 7) (v := .ref (h 34)) (C := RX7) (T := TX7) (N := 12) hx hb hts hin7 hown hK hP 33 rfl rfl 4 (by decide) (hts _ lk9_7) (fun _ h9 => h9) rfl dX7_findRow_41 ?_
            refine va_alen (v := 240) hx hb hK hP 34 0 rfl rfl rfl dX7_findRow_44 ?_
            refine lv_icmp_ge (tgt := 89) hx hb dX7_findRow_45 (by decide) (fun c15 => ?_) (fun c15 => ?_)
            · have hf := (if_pos c15).symm.trans hf
              obtain ⟨x8, ex8, hf⟩ := bn hf
              refine lv_iinc (v := x8) (lv' := [(3, .int x8), (4, .int k6), (0, .ref (h 33)), (1, .int y2), (2, .int y3)]) hx hb dX7_findRow_89 hl (k := 4) rfl (by rw [ex8]; rfl) (by decide) rfl (fun ls hl => ?_)
              refine lv_goto (tgt := 6) hx hb dX7_findRow_92 (by decide) ?_
              exact ih6 y2 y3 x8 S5 _ _ _ _ _ _ (lp_l hf hq6) hP hD hG hS (lv_sub hl [2, 3, 4, 0] rfl)
            · have hf := (if_neg c15).symm.trans hf
              refine lv_aload_n hx hb dX7_findRow_48 rfl (lv_at hl 1 rfl) ?_
              refine va_get (D := (dC, dI)) (ci := 7) (v := .ref (h 34)) (C := RX7) (T := TX7) (N := 12) hx hb hts hin7 hown hK hP 33 rfl rfl 4 (by decide) (hts _ lk9_7) (fun _ h9 => h9) rfl dX7_findRow_49 ?_
              refine lv_aload_n hx hb dX7_findRow_52 rfl (lv_at hl 1 rfl) ?_
              refine va_get (D := (dC, dI)) (ci := 7) (v := .int (S5.1 4303 0)) (C := RX7) (T := TX7) (N := 12) hx hb hts hin7 hown hK hP 33 rfl rfl 3 (by decide) (hts _ lk67_7) (fun _ h9 => h9) rfl dX7_findRow_53 ?_
              refine lv_bipush (v := 64) hx hb dX7_findRow_56 (by decide) ?_
              refine lv_iload_n hx hb dX7_findRow_58 rfl (lv_at hl 4 rfl) ?_
              refine lv_imul hx hb dX7_findRow_59 ?_
              refine lv_iload hx hb dX7_findRow_60 (lv_at hl 0 rfl) ?_
              refine lv_iadd hx hb dX7_findRow_62 ?_
              obtain ⟨S9, hiS9, eS9, hf⟩ := wrI_b hf
              refine va_iast hx hb hK hP hD hS 34 0 rfl rfl hiS9 dX7_findRow_63 (fun H locs hP hD hS => ?_)
              have hP : va_P (dC, dI) vwCl (wC t h tx g S9 ++ va_pl LP pf) H := by rw [eS9]; exact hP
              have hD : va_D A (wC t h tx g S9 ++ va_pl LP pf) := by rw [eS9]; exact hD
              have hG : rlC g LP pf S9 := by rw [eS9]; exact hG
              refine lv_aload_n hx hb dX7_findRow_64 rfl (lv_at hl 1 rfl) ?_
              refine lv_dup hx hb dX7_findRow_65 rfl ?_
              refine va_get (D := (dC, dI)) (ci := 7) (v := .int (S9.1 4303 0)) (C := RX7) (T := TX7) (N := 12) hx hb hts hin7 hown hK hP 33 rfl rfl 3 (by decide) (hts _ lk67_7) (fun _ h9 => h9) rfl dX7_findRow_66 ?_
              refine lv_iconst (v := 1) hx hb dX7_findRow_69 (by decide) ?_
              refine lv_iadd hx hb dX7_findRow_70 ?_
              obtain ⟨S10, eS10, hf⟩ := bn hf
              refine va_put (D := (dC, dI)) (ci := 7) (v := .int ((S9.1 4303 0) + 1)) (ty := .int) (C := RX7) (T := TX7) (N := 12) hx hb hts hin7 tyX7 tyX7_ok nmX7 hown hK hP hD hS 33 rfl rfl 3 (by decide) (hts _ lk67_7) (fun _ h9 => h9) rfl (by decide +kernel) rfl rfl (Nat.le_of_ble_eq_true rfl) dX7_findRow_71 (fun H locs hP hD hS => ?_)
              have hP : va_P (dC, dI) vwCl (wC t h tx g S10 ++ va_pl LP pf) H := by rw [eS10]; exact hP
              have hD : va_D A (wC t h tx g S10 ++ va_pl LP pf) := by rw [eS10]; exact hD
              have hG : rlC g LP pf S10 := by rw [eS10]; exact hG
              refine lv_iload_n hx hb dX7_findRow_74 rfl (lv_at hl 2 rfl) ?_
              refine lv_iload hx hb dX7_findRow_75 (lv_at hl 0 rfl) ?_
              refine lv_ixor hx hb dX7_findRow_77 ?_
              refine lv_topi (fun x11 ex11 => ?_)
              have hf := bs ex11 hf
              refine lv_istore_n (lv' := [(1, .int x11), (4, .int k6), (0, .ref (h 33)), (2, .int y3), (3, .int y4)]) hx hb dX7_findRow_78 rfl hl (by decide) rfl (fun ls hl => ?_)
              refine lv_iload_n hx hb dX7_findRow_79 rfl (lv_at hl 4 rfl) ?_
              refine lv_aload_n hx hb dX7_findRow_80 rfl (lv_at hl 2 rfl) ?_
              refine va_get (D := (dC, dI)) (ci := 7) (v := .ref (h 38)) (C := RX7) (T := TX7) (N := 12) hx hb hts hin7 hown hK hP 33 rfl rfl 10 (by decide) (hts _ lk25_7) (fun _ h9 => h9) rfl dX7_findRow_81 ?_
              refine lv_iload hx hb dX7_findRow_84 (lv_at hl 1 rfl) ?_
              obtain ⟨x12, hix12, ex12, hf⟩ := rd_b hf
              refine va_iald hx hb hK hP 38 0 rfl rfl hix12 dX7_findRow_86 (kI ex12 ?_)
              refine lv_iadd hx hb dX7_findRow_87 ?_
              refine lv_topi (fun x13 ex13 => ?_)
              have hf := bs ex13 hf
              refine lv_istore_n (lv' := [(2, .int x13), (1, .int x11), (4, .int k6), (0, .ref (h 33)), (3, .int y4)]) hx hb dX7_findRow_88 rfl hl (by decide) rfl (fun ls hl => ?_)
              obtain ⟨x14, ex14, hf⟩ := bn hf
              refine lv_iinc (v := x14) (lv' := [(3, .int x14), (2, .int x13), (1, .int x11), (4, .int k6), (0, .ref (h 33))]) hx hb dX7_findRow_89 hl (k := 4) rfl (by rw [ex14]; rfl) (by decide) rfl (fun ls hl => ?_)
              refine lv_goto (tgt := 6) hx hb dX7_findRow_92 (by decide) ?_
              exact ih6 x11 x13 x14 S10 _ _ _ _ _ _ (lp_l hf hq6) hP hD hG hS (lv_sub hl [4, 2, 1, 0] rfl)
        refine lv_icmp_ge (tgt := 23) hx hb dX7_findRow_16 (by decide) (fun c18 => ?_) (fun c18 => ?_)
        · have hf := (if_pos c18).symm.trans hf
          refine lv_aload_n hx hb dX7_findRow_23 rfl (lv_at hl 0 rfl) ?_
          refine lv_iload_n hx hb dX7_findRow_24 rfl (lv_at hl 3 rfl) ?_
          refine lv_iload_n hx hb dX7_findRow_25 rfl (lv_at hl 1 rfl) ?_
          obtain ⟨r17, er17, hf⟩ := bd hf
          refine klCi (rest := []) (As := [.int y4, .int y2]) ⟨hx, hb, hml, hown, hts⟩ (c_X7_firstOfLeast_33 l dC dI t ts aK aV A h tx H.size (fun q hq => hA q (Nat.le_trans hS.1 hq)) S5 y4 y2 r17 er17) (cwV 2 hts gX7_findRow_X7_firstOfLeast rfl rfl rfl (by decide +kernel) ⟨Nat.le_of_ble_eq_true rfl, Nat.le_of_ble_eq_true rfl⟩) (va_recv hK hP (ci := 7) (q0 := 33) rfl rfl) rfl hl.1 rfl (Nat.le_of_ble_eq_true rfl) dX7_findRow_26 ⟨Nat.zero_le _, Nat.zero_le _⟩ hE hK ⟨g, LP, pf, hP, hD, hG⟩ hS (fun H locs hC hS => ?_)
          obtain ⟨g, LP, pf, hP, hD, hG⟩ := hC
          exact J29 r17 _ _ _ _ _ _ hf hP hD hG hS (lv_sub hl [0, 1, 2, 3] rfl)
        · have hf := (if_neg c18).symm.trans hf
          refine lv_iconst (v := 0) hx hb dX7_findRow_19 (by decide) ?_
          refine lv_goto (tgt := 29) hx hb dX7_findRow_20 (by decide) ?_
          exact J29 0 _ _ _ _ _ _ hf hP hD hG hS (lv_sub hl [0, 1, 2, 3] rfl)
  exact L6 FU 0 0 0 S _ _ _ _ _ _ ez6 hP hD hG hS (lv_sub hl [3, 2, 1, 0] rfl)

def k_X7_plan_33_3_52 (p1 : Int32) (p2 : Int32) (S4 : CS) : Option CS :=
  Option.bind (f_X7_findOpen_33_3 S4 p2) (fun S5 => Option.bind (f_X10_withAllOf p1) (fun r6 => Option.bind (f_X7_findMinutes_33 S5 r6) (fun S7 => Option.bind (some (siI S7 4302 (fun _ => 0))) (fun S8 => Option.bind (some (siI S8 4303 (fun _ => 0))) (fun S9 => (if (S9.1 4301 0) = (-1) then (some S9) else (Option.bind (f_X10_withAllOf p1) (fun r10 => Option.bind (f_X7_keepUseful_33 S9 r10) (fun S11 => Option.bind (f_X7_findHires_33 S11) (fun S12 => Option.bind (f_X7_findRow_33 S12) (fun S13 => some S13)))))))))))
def b_X7_plan_33_3_52 (y15 : Int32) (S16 : CS) : Option ((Int32 × CS) ⊕ CS) :=
  (if 21 ≤ y15 then (some (Sum.inr S16)) else (Option.bind (rdI 21 (ssI 0) y15) (fun x17 => Option.bind (f_X1_minutesOf_3 S16 x17) (fun r18 => Option.bind (wrI S16 38 64 x17 r18) (fun S19 => Option.bind (f_X1_hireOf_3 S19 x17) (fun r20 => Option.bind (wrI S19 39 64 x17 r20) (fun S21 => Option.bind (some (y15 + 1)) (fun x22 => some (Sum.inl (x22, S21))))))))))
def j_X7_plan_33_3_24 (S : CS) (p1 : Int32) (p2 : Int32) : Option CS :=
  Option.bind (some (siI S 4300 (fun _ => 1))) (fun S1 => Option.bind (some (siI S1 4305 (fun _ => p1))) (fun S2 => Option.bind (some (siI S2 4306 (fun _ => p2))) (fun S3 => Option.bind (lp (fun s => b_X7_plan_33_3_52 s.1 s.2) FU (0, S3)) (fun s => k_X7_plan_33_3_52 p1 p2 s))))
def f_X7_plan_33_3 (S : CS) (p1 : Int32) (p2 : Int32) : Option CS :=
  (if (S.1 4300 0) = 0 then (j_X7_plan_33_3_24 S p1 p2) else ((if (S.1 4305 0) = p1 then ((if (S.1 4306 0) = p2 then (some S) else (j_X7_plan_33_3_24 S p1 p2))) else (j_X7_plan_33_3_24 S p1 p2))))
def rmX7_plan_33_3 : Room := { frames := 5, cells := 0, slots := 0, locals := 122 }
abbrev RRX7_plan_33_3 : Room := (headSpec wsX7_plan rmX7_plan_33_3).room
theorem in7_X7_plan_33_3 : ∀ w ∈ wsX70, w ∈ wsX7_plan := by decide +kernel
set_option maxHeartbeats 4000000 in
set_option maxRecDepth 100000 in
theorem c_X7_plan_33_3 (l : Launch) (dC : Nat → ClassId) (dI : Nat → Nat → Nat) (t : Nat → ClassId) (ts aK aV : Nat → Nat) (A : Nat → Prop) (h : Nat → Nat) (tx : Nat) (sz : Nat) (hA0 : ∀ q : Nat, sz ≤ q → A q) (S : CS) (p1 : Int32) (p2 : Int32) (S' : CS) (hf : f_X7_plan_33_3 S p1 p2 = some S') : cCv l yX7_plan wsX7_plan rmX7_plan_33_3 dC dI t ts aK aV A h tx tx sz [.ref (h 33), .ref (h 3), .int p1, .int p2] S S' := by
  refine Met.ofW (cc := cX7_plan) (maxL := 8) (ret := none) (by decide) rfl ?_
  intro p e s m args below meth c s₁ B hml hv
  obtain ⟨hargs, hsz, hE, hC, hK⟩ := hv
  have hx := B.exec
  have hb := B.bytes
  have hr := B.returns
  have hts := atoms_spec (ws := wsX7_plan) B.pre
  have hown : s.vm.findClass RX7 = some m.cls := findClass_of_methodNamed B.named
  have hlocks := B.notSynchronized
  have hsz : s.heap.size = sz := hsz
  subst hsz
  have hin7 := in7_X7_plan_33_3
  have lk25_7 : Cond.fieldLink RX7 25 (TX7 10).1 (TX7 10).2.1 (TX7 10).2.2.1 ∈ wsX7_plan := by decide +kernel
  have lk28_7 : Cond.fieldLink RX7 28 (TX7 11).1 (TX7 11).2.1 (TX7 11).2.2.1 ∈ wsX7_plan := by decide +kernel
  have lk31_7 : Cond.fieldLink RX7 31 (TX7 0).1 (TX7 0).2.1 (TX7 0).2.2.1 ∈ wsX7_plan := by decide +kernel
  have lk35_7 : Cond.fieldLink RX7 35 (TX7 5).1 (TX7 5).2.1 (TX7 5).2.2.1 ∈ wsX7_plan := by decide +kernel
  have lk39_7 : Cond.fieldLink RX7 39 (TX7 6).1 (TX7 6).2.1 (TX7 6).2.2.1 ∈ wsX7_plan := by decide +kernel
  have lk64_7 : Cond.fieldLink RX7 64 (TX7 2).1 (TX7 2).2.1 (TX7 2).2.2.1 ∈ wsX7_plan := by decide +kernel
  have lk67_7 : Cond.fieldLink RX7 67 (TX7 3).1 (TX7 3).2.1 (TX7 3).2.2.1 ∈ wsX7_plan := by decide +kernel
  have lk70_7 : Cond.fieldLink RX7 70 (TX7 1).1 (TX7 1).2.1 (TX7 1).2.2.1 ∈ wsX7_plan := by decide +kernel
  have hA : ∀ q : Nat, s.heap.size ≤ q → A q := hA0
  obtain ⟨g, LP, pf, hP, hD, hG⟩ := hC
  have hS : va_S A s.heap s.heap [] := va_S.rf
  have hl := lv_entry ([.ref (h 33), .ref (h 3), .int p1, .int p2]) (n := 8) (Nat.le_of_ble_eq_true rfl)
  rw [show entryFrame m args 8 = entryFrame m ([.ref (h 33), .ref (h 3), .int p1, .int p2] : List Value).toArray 8 from by rw [hargs], lg_entry_eq]
  generalize (lg_sl ([.ref (h 33), .ref (h 3), .int p1, .int p2]) ++ List.replicate (8 - (lg_sl ([.ref (h 33), .ref (h 3), .int p1, .int p2])).length) Slot.unset).toArray = ls at hl ⊢
  have hl : lv_has ls 8 [(0, .ref (h 33)), (1, .ref (h 3)), (2, .int p1), (3, .int p2)] := hl
  unfold f_X7_plan_33_3 at hf
  refine lv_aload_n hx hb dX7_plan_0 rfl (lv_at hl 0 rfl) ?_
  refine va_get (D := (dC, dI)) (ci := 7) (v := .int (S.1 4300 0)) (C := RX7) (T := TX7) (N := 12) hx hb hts hin7 hown hK hP 33 rfl rfl 0 (by decide) (hts _ lk31_7) (fun _ h9 => h9) rfl dX7_plan_1 ?_
  have J24 : ∀  (g : Nat → Nat → Option Nat) (LP : List Nat) (pf : Nat → va_E) (H : Heap) (locs : List Loc) (ls : Array Slot), j_X7_plan_33_3_24 S p1 p2 = some S' → va_P (dC, dI) vwCl (wC t h tx g S ++ va_pl LP pf) H → va_D A (wC t h tx g S ++ va_pl LP pf) → rlC g LP pf S → va_S A s.heap H locs → lv_has ls 8 [(0, .ref (h 33)), (1, .ref (h 3)), (2, .int p1), (3, .int p2)] → W p l e RRX7_plan_33_3 s m args below meth c H locs 0 0 (MQ below (qcCv dC dI t A h tx S') args s 0 0 A) (F0 m 24 ls []) := by
    intro  g LP pf H locs ls hf hP hD hG hS hl
    unfold j_X7_plan_33_3_24 at hf
    refine lv_aload_n hx hb dX7_plan_24 rfl (lv_at hl 0 rfl) ?_
    refine lv_iconst (v := 1) hx hb dX7_plan_25 (by decide) ?_
    obtain ⟨S1, eS1, hf⟩ := bn hf
    refine va_put (D := (dC, dI)) (ci := 7) (v := .int 1) (ty := .boolean) (C := RX7) (T := TX7) (N := 12) hx hb hts hin7 tyX7 tyX7_ok nmX7 hown hK hP hD hS 33 rfl rfl 0 (by decide) (hts _ lk31_7) (fun _ h9 => h9) rfl (by decide +kernel) rfl rfl (Nat.le_of_ble_eq_true rfl) dX7_plan_26 (fun H locs hP hD hS => ?_)
    have hP : va_P (dC, dI) vwCl (wC t h tx g S1 ++ va_pl LP pf) H := by rw [eS1]; exact hP
    have hD : va_D A (wC t h tx g S1 ++ va_pl LP pf) := by rw [eS1]; exact hD
    have hG : rlC g LP pf S1 := by rw [eS1]; exact hG
    refine lv_aload_n hx hb dX7_plan_29 rfl (lv_at hl 0 rfl) ?_
    refine lv_iload_n hx hb dX7_plan_30 rfl (lv_at hl 2 rfl) ?_
    obtain ⟨S2, eS2, hf⟩ := bn hf
    refine va_put (D := (dC, dI)) (ci := 7) (v := .int p1) (ty := .int) (C := RX7) (T := TX7) (N := 12) hx hb hts hin7 tyX7 tyX7_ok nmX7 hown hK hP hD hS 33 rfl rfl 5 (by decide) (hts _ lk35_7) (fun _ h9 => h9) rfl (by decide +kernel) rfl rfl (Nat.le_of_ble_eq_true rfl) dX7_plan_31 (fun H locs hP hD hS => ?_)
    have hP : va_P (dC, dI) vwCl (wC t h tx g S2 ++ va_pl LP pf) H := by rw [eS2]; exact hP
    have hD : va_D A (wC t h tx g S2 ++ va_pl LP pf) := by rw [eS2]; exact hD
    have hG : rlC g LP pf S2 := by rw [eS2]; exact hG
    refine lv_aload_n hx hb dX7_plan_34 rfl (lv_at hl 0 rfl) ?_
    refine lv_iload_n hx hb dX7_plan_35 rfl (lv_at hl 3 rfl) ?_
    obtain ⟨S3, eS3, hf⟩ := bn hf
    refine va_put (D := (dC, dI)) (ci := 7) (v := .int p2) (ty := .int) (C := RX7) (T := TX7) (N := 12) hx hb hts hin7 tyX7 tyX7_ok nmX7 hown hK hP hD hS 33 rfl rfl 6 (by decide) (hts _ lk39_7) (fun _ h9 => h9) rfl (by decide +kernel) rfl rfl (Nat.le_of_ble_eq_true rfl) dX7_plan_36 (fun H locs hP hD hS => ?_)
    have hP : va_P (dC, dI) vwCl (wC t h tx g S3 ++ va_pl LP pf) H := by rw [eS3]; exact hP
    have hD : va_D A (wC t h tx g S3 ++ va_pl LP pf) := by rw [eS3]; exact hD
    have hG : rlC g LP pf S3 := by rw [eS3]; exact hG
    refine va_getsN hx hb hE.2.1.1 hS hown (va_Nw.use rfl (hE.1.2.1 ("OnlyTwo$Planner", 42, "OnlyTwo", "SMALL_SETS", "[I", "OnlyTwo") (by decide +kernel))) (fun _ h9 => h9) dX7_plan_39 ?_
    refine lv_astore (lv' := [(4, .ref (ts 0)), (0, .ref (h 33)), (1, .ref (h 3)), (2, .int p1), (3, .int p2)]) hx hb dX7_plan_42 hl (by decide) rfl (fun ls hl => ?_)
    refine lv_aload hx hb dX7_plan_44 (lv_at hl 0 rfl) ?_
    refine va_tlen (v := 21) hx hb hE.2.1.2 hS (by decide) dX7_plan_46 ?_
    refine lv_istore (lv' := [(5, .int 21), (4, .ref (ts 0)), (0, .ref (h 33)), (1, .ref (h 3)), (2, .int p1), (3, .int p2)]) hx hb dX7_plan_47 hl (by decide) rfl (fun ls hl => ?_)
    refine lv_iconst (v := 0) hx hb dX7_plan_49 (by decide) ?_
    refine lv_istore (lv' := [(6, .int 0), (5, .int 21), (4, .ref (ts 0)), (0, .ref (h 33)), (1, .ref (h 3)), (2, .int p1), (3, .int p2)]) hx hb dX7_plan_50 hl (by decide) rfl (fun ls hl => ?_)
    have K52 : ∀ (S4 : CS) (g : Nat → Nat → Option Nat) (LP : List Nat) (pf : Nat → va_E) (H : Heap) (locs : List Loc) (ls : Array Slot), k_X7_plan_33_3_52 p1 p2 S4 = some S' → va_P (dC, dI) vwCl (wC t h tx g S4 ++ va_pl LP pf) H → va_D A (wC t h tx g S4 ++ va_pl LP pf) → rlC g LP pf S4 → va_S A s.heap H locs → lv_has ls 8 [(0, .ref (h 33)), (1, .ref (h 3)), (2, .int p1), (3, .int p2)] → W p l e RRX7_plan_33_3 s m args below meth c H locs 0 0 (MQ below (qcCv dC dI t A h tx S') args s 0 0 A) (F0 m 98 ls []) := by
      intro S4 g LP pf H locs ls hf hP hD hG hS hl
      unfold k_X7_plan_33_3_52 at hf
      refine lv_aload_n hx hb dX7_plan_98 rfl (lv_at hl 0 rfl) ?_
      refine lv_aload_n hx hb dX7_plan_99 rfl (lv_at hl 1 rfl) ?_
      refine lv_iload_n hx hb dX7_plan_100 rfl (lv_at hl 3 rfl) ?_
      obtain ⟨S5, eS5, hf⟩ := bd hf
      refine klCv (rest := []) (As := [.ref (h 3), .int p2]) ⟨hx, hb, hml, hown, hts⟩ (c_X7_findOpen_33_3 l dC dI t ts aK aV A h tx H.size (fun q hq => hA q (Nat.le_trans hS.1 hq)) S4 p2 S5 eS5) (cwV 2 hts gX7_plan_X7_findOpen rfl rfl rfl (by decide +kernel) ⟨Nat.le_of_ble_eq_true rfl, Nat.le_of_ble_eq_true rfl⟩) (va_recv hK hP (ci := 7) (q0 := 33) rfl rfl) rfl hl.1 rfl (Nat.le_of_ble_eq_true rfl) dX7_plan_101 ⟨Nat.zero_le _, Nat.zero_le _⟩ hE hK ⟨g, LP, pf, hP, hD, hG⟩ hS (fun H locs hC hS => ?_)
      obtain ⟨g, LP, pf, hP, hD, hG⟩ := hC
      refine lv_aload_n hx hb dX7_plan_104 rfl (lv_at hl 0 rfl) ?_
      refine lv_iload_n hx hb dX7_plan_105 rfl (lv_at hl 2 rfl) ?_
      obtain ⟨r6, er6, hf⟩ := bd hf
      refine klXNl (rest := [.ref (h 33)]) (As := [.int p1]) ⟨hx, hb, hml, hown, hts⟩ (c_X10_withAllOf l ts aK aV H.size p1 r6 er6) (fun _ _ _ _ h9 => h9.blind) (fun U hU hW => hE.go hS hU hW (fun q hq => hA q (Nat.le_trans hS.1 hq))) ⟨va_cnB 1 hts gX7_plan_X10_withAllOf_n56 rfl rfl rfl (hE.1.1 ("OnlyTwo$Planner", 56, ⟨"OnlyTwo", "withAllOf", "(I)J"⟩, "OnlyTwo") (by decide +kernel)) (hts (.initialized RX10) (by decide +kernel)) (by decide +kernel) ⟨Nat.le_of_ble_eq_true rfl, Nat.le_of_ble_eq_true rfl⟩, hts (.static yX10_withAllOf) (by decide +kernel), trivial⟩ rfl hl.1 rfl (Nat.le_of_ble_eq_true rfl) dX7_plan_106 ⟨Nat.zero_le _, Nat.zero_le _⟩ hS hA (fun H2 locs hk hS => ?_)
      have hP := kpP hP hk
      generalize H2 = H at hP hS ⊢
      obtain ⟨S7, eS7, hf⟩ := bd hf
      refine klCv (rest := []) (As := [.long r6]) ⟨hx, hb, hml, hown, hts⟩ (c_X7_findMinutes_33 l dC dI t ts aK aV A h tx H.size (fun q hq => hA q (Nat.le_trans hS.1 hq)) S5 r6 S7 eS7) (cwV 1 hts gX7_plan_X7_findMinutes rfl rfl rfl (by decide +kernel) ⟨Nat.le_of_ble_eq_true rfl, Nat.le_of_ble_eq_true rfl⟩) (va_recv hK hP (ci := 7) (q0 := 33) rfl rfl) rfl hl.1 rfl (Nat.le_of_ble_eq_true rfl) dX7_plan_109 ⟨Nat.zero_le _, Nat.zero_le _⟩ hE hK ⟨g, LP, pf, hP, hD, hG⟩ hS (fun H locs hC hS => ?_)
      obtain ⟨g, LP, pf, hP, hD, hG⟩ := hC
      refine lv_aload_n hx hb dX7_plan_112 rfl (lv_at hl 0 rfl) ?_
      refine lv_iconst (v := 0) hx hb dX7_plan_113 (by decide) ?_
      obtain ⟨S8, eS8, hf⟩ := bn hf
      refine va_put (D := (dC, dI)) (ci := 7) (v := .int 0) (ty := .int) (C := RX7) (T := TX7) (N := 12) hx hb hts hin7 tyX7 tyX7_ok nmX7 hown hK hP hD hS 33 rfl rfl 2 (by decide) (hts _ lk64_7) (fun _ h9 => h9) rfl (by decide +kernel) rfl rfl (Nat.le_of_ble_eq_true rfl) dX7_plan_114 (fun H locs hP hD hS => ?_)
      have hP : va_P (dC, dI) vwCl (wC t h tx g S8 ++ va_pl LP pf) H := by rw [eS8]; exact hP
      have hD : va_D A (wC t h tx g S8 ++ va_pl LP pf) := by rw [eS8]; exact hD
      have hG : rlC g LP pf S8 := by rw [eS8]; exact hG
      refine lv_aload_n hx hb dX7_plan_117 rfl (lv_at hl 0 rfl) ?_
      refine lv_iconst (v := 0) hx hb dX7_plan_118 (by decide) ?_
      obtain ⟨S9, eS9, hf⟩ := bn hf
      refine va_put (D := (dC, dI)) (ci := 7) (v := .int 0) (ty := .int) (C := RX7) (T := TX7) (N := 12) hx hb hts hin7 tyX7 tyX7_ok nmX7 hown hK hP hD hS 33 rfl rfl 3 (by decide) (hts _ lk67_7) (fun _ h9 => h9) rfl (by decide +kernel) rfl rfl (Nat.le_of_ble_eq_true rfl) dX7_plan_119 (fun H locs hP hD hS => ?_)
      have hP : va_P (dC, dI) vwCl (wC t h tx g S9 ++ va_pl LP pf) H := by rw [eS9]; exact hP
      have hD : va_D A (wC t h tx g S9 ++ va_pl LP pf) := by rw [eS9]; exact hD
      have hG : rlC g LP pf S9 := by rw [eS9]; exact hG
      refine lv_aload_n hx hb dX7_plan_122 rfl (lv_at hl 0 rfl) ?_
      refine va_get (D := (dC, dI)) (ci := 7) (v := .int (S9.1 4301 0)) (C := RX7) (T := TX7) (N := 12) hx hb hts hin7 hown hK hP 33 rfl rfl 1 (by decide) (hts _ lk70_7) (fun _ h9 => h9) rfl dX7_plan_123 ?_
      refine lv_iconst (v := (-1)) hx hb dX7_plan_126 (by decide) ?_
      refine lv_icmp_eq (tgt := 146) hx hb dX7_plan_127 (by decide) (fun c14 => ?_) (fun c14 => ?_)
      · have hf := (if_pos c14).symm.trans hf
        exact rtCv hx hb hr hlocks ⟨g, LP, pf, hP, hD, hG⟩ hS hf dX7_plan_146
      · have hf := (if_neg c14).symm.trans hf
        refine lv_aload_n hx hb dX7_plan_130 rfl (lv_at hl 0 rfl) ?_
        refine lv_iload_n hx hb dX7_plan_131 rfl (lv_at hl 2 rfl) ?_
        obtain ⟨r10, er10, hf⟩ := bd hf
        refine klXNl (rest := [.ref (h 33)]) (As := [.int p1]) ⟨hx, hb, hml, hown, hts⟩ (c_X10_withAllOf l ts aK aV H.size p1 r10 er10) (fun _ _ _ _ h9 => h9.blind) (fun U hU hW => hE.go hS hU hW (fun q hq => hA q (Nat.le_trans hS.1 hq))) ⟨va_cnB 1 hts gX7_plan_X10_withAllOf_n56 rfl rfl rfl (hE.1.1 ("OnlyTwo$Planner", 56, ⟨"OnlyTwo", "withAllOf", "(I)J"⟩, "OnlyTwo") (by decide +kernel)) (hts (.initialized RX10) (by decide +kernel)) (by decide +kernel) ⟨Nat.le_of_ble_eq_true rfl, Nat.le_of_ble_eq_true rfl⟩, hts (.static yX10_withAllOf) (by decide +kernel), trivial⟩ rfl hl.1 rfl (Nat.le_of_ble_eq_true rfl) dX7_plan_132 ⟨Nat.zero_le _, Nat.zero_le _⟩ hS hA (fun H2 locs hk hS => ?_)
        have hP := kpP hP hk
        generalize H2 = H at hP hS ⊢
        obtain ⟨S11, eS11, hf⟩ := bd hf
        refine klCv (rest := []) (As := [.long r10]) ⟨hx, hb, hml, hown, hts⟩ (c_X7_keepUseful_33 l dC dI t ts aK aV A h tx H.size (fun q hq => hA q (Nat.le_trans hS.1 hq)) S9 r10 S11 eS11) (cwV 1 hts gX7_plan_X7_keepUseful rfl rfl rfl (by decide +kernel) ⟨Nat.le_of_ble_eq_true rfl, Nat.le_of_ble_eq_true rfl⟩) (va_recv hK hP (ci := 7) (q0 := 33) rfl rfl) rfl hl.1 rfl (Nat.le_of_ble_eq_true rfl) dX7_plan_135 ⟨Nat.zero_le _, Nat.zero_le _⟩ hE hK ⟨g, LP, pf, hP, hD, hG⟩ hS (fun H locs hC hS => ?_)
        obtain ⟨g, LP, pf, hP, hD, hG⟩ := hC
        refine lv_aload_n hx hb dX7_plan_138 rfl (lv_at hl 0 rfl) ?_
        obtain ⟨S12, eS12, hf⟩ := bd hf
        refine klCv (rest := []) (As := []) ⟨hx, hb, hml, hown, hts⟩ (c_X7_findHires_33 l dC dI t ts aK aV A h tx H.size (fun q hq => hA q (Nat.le_trans hS.1 hq)) S11 S12 eS12) (cwV 0 hts gX7_plan_X7_findHires rfl rfl rfl (by decide +kernel) ⟨Nat.le_of_ble_eq_true rfl, Nat.le_of_ble_eq_true rfl⟩) (va_recv hK hP (ci := 7) (q0 := 33) rfl rfl) rfl hl.1 rfl (Nat.le_of_ble_eq_true rfl) dX7_plan_139 ⟨Nat.zero_le _, Nat.zero_le _⟩ hE hK ⟨g, LP, pf, hP, hD, hG⟩ hS (fun H locs hC hS => ?_)
        obtain ⟨g, LP, pf, hP, hD, hG⟩ := hC
        refine lv_aload_n hx hb dX7_plan_142 rfl (lv_at hl 0 rfl) ?_
        obtain ⟨S13, eS13, hf⟩ := bd hf
        refine klCv (rest := []) (As := []) ⟨hx, hb, hml, hown, hts⟩ (c_X7_findRow_33 l dC dI t ts aK aV A h tx H.size (fun q hq => hA q (Nat.le_trans hS.1 hq)) S12 S13 eS13) (cwV 0 hts gX7_plan_X7_findRow rfl rfl rfl (by decide +kernel) ⟨Nat.le_of_ble_eq_true rfl, Nat.le_of_ble_eq_true rfl⟩) (va_recv hK hP (ci := 7) (q0 := 33) rfl rfl) rfl hl.1 rfl (Nat.le_of_ble_eq_true rfl) dX7_plan_143 ⟨Nat.zero_le _, Nat.zero_le _⟩ hE hK ⟨g, LP, pf, hP, hD, hG⟩ hS (fun H locs hC hS => ?_)
        obtain ⟨g, LP, pf, hP, hD, hG⟩ := hC
        exact rtCv hx hb hr hlocks ⟨g, LP, pf, hP, hD, hG⟩ hS hf dX7_plan_146
    obtain ⟨z52, ez52, hz52⟩ := bd hf
    have L52 : ∀ (n : Nat) (y15 : Int32) (S16 : CS) (g : Nat → Nat → Option Nat) (LP : List Nat) (pf : Nat → va_E) (H : Heap) (locs : List Loc) (ls : Array Slot), lp (fun s => b_X7_plan_33_3_52 s.1 s.2) n (y15, S16) = some z52 → va_P (dC, dI) vwCl (wC t h tx g S16 ++ va_pl LP pf) H → va_D A (wC t h tx g S16 ++ va_pl LP pf) → rlC g LP pf S16 → va_S A s.heap H locs → lv_has ls 8 [(0, .ref (h 33)), (1, .ref (h 3)), (2, .int p1), (3, .int p2), (4, .ref (ts 0)), (5, .int 21), (6, .int y15)] → W p l e RRX7_plan_33_3 s m args below meth c H locs 0 0 (MQ below (qcCv dC dI t A h tx S') args s 0 0 A) (F0 m 52 ls []) := by
      intro n
      induction n with
      | zero => intro y15 S16 g LP pf H locs ls hf; exact lp_z hf
      | succ n ih52 =>
        intro y15 S16 g LP pf H locs ls hf hP hD hG hS hl
        obtain ⟨q52, hf, hq52⟩ := lp_i hf
        have hf : b_X7_plan_33_3_52 y15 S16 = some q52 := hf
        unfold b_X7_plan_33_3_52 at hf
        refine lv_iload hx hb dX7_plan_52 (lv_at hl 6 rfl) ?_
        refine lv_iload hx hb dX7_plan_54 (lv_at hl 5 rfl) ?_
        refine lv_icmp_ge (tgt := 98) hx hb dX7_plan_56 (by decide) (fun c23 => ?_) (fun c23 => ?_)
        · have hf := (if_pos c23).symm.trans hf
          exact K52 S16 _ _ _ _ _ _ (lp_x (k := (fun s => k_X7_plan_33_3_52 p1 p2 s)) (lp_r hf hq52) hz52) hP hD hG hS (lv_sub hl [0, 1, 2, 3] rfl)
        · have hf := (if_neg c23).symm.trans hf
          refine lv_aload hx hb dX7_plan_59 (lv_at hl 4 rfl) ?_
          refine lv_iload hx hb dX7_plan_61 (lv_at hl 6 rfl) ?_
          obtain ⟨x17, hix17, ex17, hf⟩ := rd_b hf
          refine va_ti hx hb hE.2.1.2 hS hix17 rfl dX7_plan_63 (kI ex17 ?_)
          refine lv_istore (lv' := [(7, .int x17), (0, .ref (h 33)), (1, .ref (h 3)), (2, .int p1), (3, .int p2), (4, .ref (ts 0)), (5, .int 21), (6, .int y15)]) hx hb dX7_plan_64 hl (by decide) rfl (fun ls hl => ?_)
          refine lv_aload_n hx hb dX7_plan_66 rfl (lv_at hl 1 rfl) ?_
          refine va_get (D := (dC, dI)) (ci := 7) (v := .ref (h 38)) (C := RX7) (T := TX7) (N := 12) hx hb hts hin7 hown hK hP 33 rfl rfl 10 (by decide) (hts _ lk25_7) (fun _ h9 => h9) rfl dX7_plan_67 ?_
          refine lv_iload hx hb dX7_plan_70 (lv_at hl 0 rfl) ?_
          refine lv_aload_n hx hb dX7_plan_72 rfl (lv_at hl 2 rfl) ?_
          refine lv_iload hx hb dX7_plan_73 (lv_at hl 0 rfl) ?_
          obtain ⟨r18, er18, hf⟩ := bd hf
          refine klCi (rest := [.int x17, .ref (h 38)]) (As := [.int x17]) ⟨hx, hb, hml, hown, hts⟩ (c_X1_minutesOf_3 l dC dI t ts aK aV A h tx H.size (fun q hq => hA q (Nat.le_trans hS.1 hq)) S16 x17 r18 er18) (cwV 1 hts gX7_plan_X1_minutesOf rfl rfl rfl (by decide +kernel) ⟨Nat.le_of_ble_eq_true rfl, Nat.le_of_ble_eq_true rfl⟩) (va_recv hK hP (ci := 1) (q0 := 3) rfl rfl) rfl hl.1 rfl (Nat.le_of_ble_eq_true rfl) dX7_plan_75 ⟨Nat.zero_le _, Nat.zero_le _⟩ hE hK ⟨g, LP, pf, hP, hD, hG⟩ hS (fun H locs hC hS => ?_)
          obtain ⟨g, LP, pf, hP, hD, hG⟩ := hC
          obtain ⟨S19, hiS19, eS19, hf⟩ := wrI_b hf
          refine va_iast hx hb hK hP hD hS 38 0 rfl rfl hiS19 dX7_plan_78 (fun H locs hP hD hS => ?_)
          have hP : va_P (dC, dI) vwCl (wC t h tx g S19 ++ va_pl LP pf) H := by rw [eS19]; exact hP
          have hD : va_D A (wC t h tx g S19 ++ va_pl LP pf) := by rw [eS19]; exact hD
          have hG : rlC g LP pf S19 := by rw [eS19]; exact hG
          refine lv_aload_n hx hb dX7_plan_79 rfl (lv_at hl 1 rfl) ?_
          refine va_get (D := (dC, dI)) (ci := 7) (v := .ref (h 39)) (C := RX7) (T := TX7) (N := 12) hx hb hts hin7 hown hK hP 33 rfl rfl 11 (by decide) (hts _ lk28_7) (fun _ h9 => h9) rfl dX7_plan_80 ?_
          refine lv_iload hx hb dX7_plan_83 (lv_at hl 0 rfl) ?_
          refine lv_aload_n hx hb dX7_plan_85 rfl (lv_at hl 2 rfl) ?_
          refine lv_iload hx hb dX7_plan_86 (lv_at hl 0 rfl) ?_
          obtain ⟨r20, er20, hf⟩ := bd hf
          refine klCi (rest := [.int x17, .ref (h 39)]) (As := [.int x17]) ⟨hx, hb, hml, hown, hts⟩ (c_X1_hireOf_3 l dC dI t ts aK aV A h tx H.size (fun q hq => hA q (Nat.le_trans hS.1 hq)) S19 x17 r20 er20) (cwV 1 hts gX7_plan_X1_hireOf rfl rfl rfl (by decide +kernel) ⟨Nat.le_of_ble_eq_true rfl, Nat.le_of_ble_eq_true rfl⟩) (va_recv hK hP (ci := 1) (q0 := 3) rfl rfl) rfl hl.1 rfl (Nat.le_of_ble_eq_true rfl) dX7_plan_88 ⟨Nat.zero_le _, Nat.zero_le _⟩ hE hK ⟨g, LP, pf, hP, hD, hG⟩ hS (fun H locs hC hS => ?_)
          obtain ⟨g, LP, pf, hP, hD, hG⟩ := hC
          obtain ⟨S21, hiS21, eS21, hf⟩ := wrI_b hf
          refine va_iast hx hb hK hP hD hS 39 0 rfl rfl hiS21 dX7_plan_91 (fun H locs hP hD hS => ?_)
          have hP : va_P (dC, dI) vwCl (wC t h tx g S21 ++ va_pl LP pf) H := by rw [eS21]; exact hP
          have hD : va_D A (wC t h tx g S21 ++ va_pl LP pf) := by rw [eS21]; exact hD
          have hG : rlC g LP pf S21 := by rw [eS21]; exact hG
          obtain ⟨x22, ex22, hf⟩ := bn hf
          refine lv_iinc (v := x22) (lv' := [(6, .int x22), (7, .int x17), (0, .ref (h 33)), (1, .ref (h 3)), (2, .int p1), (3, .int p2), (4, .ref (ts 0)), (5, .int 21)]) hx hb dX7_plan_92 hl (k := 7) rfl (by rw [ex22]; rfl) (by decide) rfl (fun ls hl => ?_)
          refine lv_goto (tgt := 52) hx hb dX7_plan_95 (by decide) ?_
          exact ih52 x22 S21 _ _ _ _ _ _ (lp_l hf hq52) hP hD hG hS (lv_sub hl [2, 3, 4, 5, 6, 7, 0] rfl)
    exact L52 FU 0 S3 _ _ _ _ _ _ ez52 hP hD hG hS (lv_sub hl [3, 4, 5, 6, 2, 1, 0] rfl)
  refine lv_if_eq (tgt := 24) hx hb dX7_plan_4 (by decide) (fun c26 => ?_) (fun c26 => ?_)
  · have hf := (if_pos c26).symm.trans hf
    exact J24  _ _ _ _ _ _ hf hP hD hG hS (lv_sub hl [0, 1, 2, 3] rfl)
  · have hf := (if_neg c26).symm.trans hf
    refine lv_aload_n hx hb dX7_plan_7 rfl (lv_at hl 0 rfl) ?_
    refine va_get (D := (dC, dI)) (ci := 7) (v := .int (S.1 4305 0)) (C := RX7) (T := TX7) (N := 12) hx hb hts hin7 hown hK hP 33 rfl rfl 5 (by decide) (hts _ lk35_7) (fun _ h9 => h9) rfl dX7_plan_8 ?_
    refine lv_iload_n hx hb dX7_plan_11 rfl (lv_at hl 2 rfl) ?_
    refine lv_icmp_ne (tgt := 24) hx hb dX7_plan_12 (by decide) (fun c25 => ?_) (fun c25 => ?_)
    · have hf := (if_neg c25).symm.trans hf
      exact J24  _ _ _ _ _ _ hf hP hD hG hS (lv_sub hl [0, 1, 2, 3] rfl)
    · have hf := (if_pos c25).symm.trans hf
      refine lv_aload_n hx hb dX7_plan_15 rfl (lv_at hl 0 rfl) ?_
      refine va_get (D := (dC, dI)) (ci := 7) (v := .int (S.1 4306 0)) (C := RX7) (T := TX7) (N := 12) hx hb hts hin7 hown hK hP 33 rfl rfl 6 (by decide) (hts _ lk39_7) (fun _ h9 => h9) rfl dX7_plan_16 ?_
      refine lv_iload_n hx hb dX7_plan_19 rfl (lv_at hl 3 rfl) ?_
      refine lv_icmp_ne (tgt := 24) hx hb dX7_plan_20 (by decide) (fun c24 => ?_) (fun c24 => ?_)
      · have hf := (if_neg c24).symm.trans hf
        exact J24  _ _ _ _ _ _ hf hP hD hG hS (lv_sub hl [0, 1, 2, 3] rfl)
      · have hf := (if_pos c24).symm.trans hf
        exact rtCv hx hb hr hlocks ⟨g, LP, pf, hP, hD, hG⟩ hS hf dX7_plan_23

def k_X5_findPairs_40_3_12 (S3 : CS) : Option CS :=
  some S3
def k_X5_findPairs_40_3_24 (y4 : Int32) (S7 : CS) : Option ((Int32 × CS) ⊕ CS) :=
  Option.bind (some (y4 + 1)) (fun x8 => some (Sum.inl (x8, S7)))
def b_X5_findPairs_40_3_24 (y4 : Int32) (y9 : Int32) (S10 : CS) : Option ((Int32 × CS) ⊕ CS) :=
  (if (S10.1 1306 0) ≤ y9 then (some (Sum.inr S10)) else (Option.bind (some ((1 <<< (y4 &&& 31)) ||| (1 <<< (y9 &&& 31)))) (fun x11 => Option.bind (f_X1_hasNeverSo_3 S10 x11 0) (fun r12 => (if r12 = 0 then (Option.bind (f_X1_hasGuide_3 S10 x11) (fun r13 => (if r13 = 0 then (Option.bind (wrI S10 44 21 (S10.1 5007 0) y4) (fun S14 => Option.bind (wrI S14 45 21 (S14.1 5007 0) y9) (fun S15 => Option.bind (some (siI S15 5007 (fun _ => (S15.1 5007 0) + 1))) (fun S16 => Option.bind (some (y9 + 1)) (fun x17 => some (Sum.inl (x17, S16))))))) else (Option.bind (some (siI S10 5008 (fun _ => (S10.1 5008 0) + 1))) (fun S18 => Option.bind (some (y9 + 1)) (fun x19 => some (Sum.inl (x19, S18)))))))) else (Option.bind (some (y9 + 1)) (fun x21 => some (Sum.inl (x21, S10)))))))))
def b_X5_findPairs_40_3_12 (y4 : Int32) (S5 : CS) : Option ((Int32 × CS) ⊕ CS) :=
  (if (S5.1 1306 0) ≤ y4 then (some (Sum.inr S5)) else (Option.bind (some (y4 + 1)) (fun x6 => Option.bind (lp (fun s => b_X5_findPairs_40_3_24 y4 s.1 s.2) FU (x6, S5)) (fun s => k_X5_findPairs_40_3_24 y4 s))))
def f_X5_findPairs_40_3 (S : CS)  : Option CS :=
  Option.bind (some (siI S 5007 (fun _ => 0))) (fun S1 => Option.bind (some (siI S1 5008 (fun _ => 0))) (fun S2 => Option.bind (lp (fun s => b_X5_findPairs_40_3_12 s.1 s.2) FU (0, S2)) (fun s => k_X5_findPairs_40_3_12 s)))
def rmX5_findPairs_40_3 : Room := { frames := 3, cells := 0, slots := 0, locals := 67 }
abbrev RRX5_findPairs_40_3 : Room := (headSpec wsX5_findPairs rmX5_findPairs_40_3).room
theorem in1_X5_findPairs_40_3 : ∀ w ∈ wsX10, w ∈ wsX5_findPairs := by decide +kernel
theorem in5_X5_findPairs_40_3 : ∀ w ∈ wsX50, w ∈ wsX5_findPairs := by decide +kernel
set_option maxHeartbeats 4000000 in
set_option maxRecDepth 100000 in
theorem c_X5_findPairs_40_3 (l : Launch) (dC : Nat → ClassId) (dI : Nat → Nat → Nat) (t : Nat → ClassId) (ts aK aV : Nat → Nat) (A : Nat → Prop) (h : Nat → Nat) (tx : Nat) (sz : Nat) (hA0 : ∀ q : Nat, sz ≤ q → A q) (S : CS)  (S' : CS) (hf : f_X5_findPairs_40_3 S = some S') : cCv l yX5_findPairs wsX5_findPairs rmX5_findPairs_40_3 dC dI t ts aK aV A h tx tx sz [.ref (h 40), .ref (h 3)] S S' := by
  refine Met.ofW (cc := cX5_findPairs) (maxL := 5) (ret := none) (by decide) rfl ?_
  intro p e s m args below meth c s₁ B hml hv
  obtain ⟨hargs, hsz, hE, hC, hK⟩ := hv
  have hx := B.exec
  have hb := B.bytes
  have hr := B.returns
  have hts := atoms_spec (ws := wsX5_findPairs) B.pre
  have hown : s.vm.findClass RX5 = some m.cls := findClass_of_methodNamed B.named
  have hlocks := B.notSynchronized
  have hsz : s.heap.size = sz := hsz
  subst hsz
  have hin1 := in1_X5_findPairs_40_3
  have hin5 := in5_X5_findPairs_40_3
  have lk24_5 : Cond.fieldLink RX5 24 (TX5 5).1 (TX5 5).2.1 (TX5 5).2.2.1 ∈ wsX5_findPairs := by decide +kernel
  have lk27_5 : Cond.fieldLink RX5 27 (TX5 6).1 (TX5 6).2.1 (TX5 6).2.2.1 ∈ wsX5_findPairs := by decide +kernel
  have lk34_1 : Cond.fieldLink RX5 34 (TX1 6).1 (TX1 6).2.1 (TX1 6).2.2.1 ∈ wsX5_findPairs := by decide +kernel
  have lk55_5 : Cond.fieldLink RX5 55 (TX5 7).1 (TX5 7).2.1 (TX5 7).2.2.1 ∈ wsX5_findPairs := by decide +kernel
  have lk58_5 : Cond.fieldLink RX5 58 (TX5 8).1 (TX5 8).2.1 (TX5 8).2.2.1 ∈ wsX5_findPairs := by decide +kernel
  have hA : ∀ q : Nat, s.heap.size ≤ q → A q := hA0
  obtain ⟨g, LP, pf, hP, hD, hG⟩ := hC
  have hS : va_S A s.heap s.heap [] := va_S.rf
  have hl := lv_entry ([.ref (h 40), .ref (h 3)]) (n := 5) (Nat.le_of_ble_eq_true rfl)
  rw [show entryFrame m args 5 = entryFrame m ([.ref (h 40), .ref (h 3)] : List Value).toArray 5 from by rw [hargs], lg_entry_eq]
  generalize (lg_sl ([.ref (h 40), .ref (h 3)]) ++ List.replicate (5 - (lg_sl ([.ref (h 40), .ref (h 3)])).length) Slot.unset).toArray = ls at hl ⊢
  have hl : lv_has ls 5 [(0, .ref (h 40)), (1, .ref (h 3))] := hl
  unfold f_X5_findPairs_40_3 at hf
  refine lv_aload_n hx hb dX5_findPairs_0 rfl (lv_at hl 0 rfl) ?_
  refine lv_iconst (v := 0) hx hb dX5_findPairs_1 (by decide) ?_
  obtain ⟨S1, eS1, hf⟩ := bn hf
  refine va_put (D := (dC, dI)) (ci := 5) (v := .int 0) (ty := .int) (C := RX5) (T := TX5) (N := 9) hx hb hts hin5 tyX5 tyX5_ok nmX5 hown hK hP hD hS 40 rfl rfl 7 (by decide) (hts _ lk55_5) (fun _ h9 => h9) rfl (by decide +kernel) rfl rfl (Nat.le_of_ble_eq_true rfl) dX5_findPairs_2 (fun H locs hP hD hS => ?_)
  have hP : va_P (dC, dI) vwCl (wC t h tx g S1 ++ va_pl LP pf) H := by rw [eS1]; exact hP
  have hD : va_D A (wC t h tx g S1 ++ va_pl LP pf) := by rw [eS1]; exact hD
  have hG : rlC g LP pf S1 := by rw [eS1]; exact hG
  refine lv_aload_n hx hb dX5_findPairs_5 rfl (lv_at hl 0 rfl) ?_
  refine lv_iconst (v := 0) hx hb dX5_findPairs_6 (by decide) ?_
  obtain ⟨S2, eS2, hf⟩ := bn hf
  refine va_put (D := (dC, dI)) (ci := 5) (v := .int 0) (ty := .int) (C := RX5) (T := TX5) (N := 9) hx hb hts hin5 tyX5 tyX5_ok nmX5 hown hK hP hD hS 40 rfl rfl 8 (by decide) (hts _ lk58_5) (fun _ h9 => h9) rfl (by decide +kernel) rfl rfl (Nat.le_of_ble_eq_true rfl) dX5_findPairs_7 (fun H locs hP hD hS => ?_)
  have hP : va_P (dC, dI) vwCl (wC t h tx g S2 ++ va_pl LP pf) H := by rw [eS2]; exact hP
  have hD : va_D A (wC t h tx g S2 ++ va_pl LP pf) := by rw [eS2]; exact hD
  have hG : rlC g LP pf S2 := by rw [eS2]; exact hG
  refine lv_iconst (v := 0) hx hb dX5_findPairs_10 (by decide) ?_
  refine lv_istore_n (lv' := [(2, .int 0), (0, .ref (h 40)), (1, .ref (h 3))]) hx hb dX5_findPairs_11 rfl hl (by decide) rfl (fun ls hl => ?_)
  have K12 : ∀ (S3 : CS) (g : Nat → Nat → Option Nat) (LP : List Nat) (pf : Nat → va_E) (H : Heap) (locs : List Loc) (ls : Array Slot), k_X5_findPairs_40_3_12 S3 = some S' → va_P (dC, dI) vwCl (wC t h tx g S3 ++ va_pl LP pf) H → va_D A (wC t h tx g S3 ++ va_pl LP pf) → rlC g LP pf S3 → va_S A s.heap H locs → lv_has ls 5 [] → W p l e RRX5_findPairs_40_3 s m args below meth c H locs 0 0 (MQ below (qcCv dC dI t A h tx S') args s 0 0 A) (F0 m 118 ls []) := by
    intro S3 g LP pf H locs ls hf hP hD hG hS hl
    unfold k_X5_findPairs_40_3_12 at hf
    exact rtCv hx hb hr hlocks ⟨g, LP, pf, hP, hD, hG⟩ hS hf dX5_findPairs_118
  obtain ⟨z12, ez12, hz12⟩ := bd hf
  have L12 : ∀ (n : Nat) (y4 : Int32) (S5 : CS) (g : Nat → Nat → Option Nat) (LP : List Nat) (pf : Nat → va_E) (H : Heap) (locs : List Loc) (ls : Array Slot), lp (fun s => b_X5_findPairs_40_3_12 s.1 s.2) n (y4, S5) = some z12 → va_P (dC, dI) vwCl (wC t h tx g S5 ++ va_pl LP pf) H → va_D A (wC t h tx g S5 ++ va_pl LP pf) → rlC g LP pf S5 → va_S A s.heap H locs → lv_has ls 5 [(0, .ref (h 40)), (1, .ref (h 3)), (2, .int y4)] → W p l e RRX5_findPairs_40_3 s m args below meth c H locs 0 0 (MQ below (qcCv dC dI t A h tx S') args s 0 0 A) (F0 m 12 ls []) := by
    intro n
    induction n with
    | zero => intro y4 S5 g LP pf H locs ls hf; exact lp_z hf
    | succ n ih12 =>
      intro y4 S5 g LP pf H locs ls hf hP hD hG hS hl
      obtain ⟨q12, hf, hq12⟩ := lp_i hf
      have hf : b_X5_findPairs_40_3_12 y4 S5 = some q12 := hf
      unfold b_X5_findPairs_40_3_12 at hf
      refine lv_iload_n hx hb dX5_findPairs_12 rfl (lv_at hl 2 rfl) ?_
      refine lv_aload_n hx hb dX5_findPairs_13 rfl (lv_at hl 1 rfl) ?_
      refine va_get (D := (dC, dI)) (ci := 1) (v := .int (S5.1 1306 0)) (C := RX1) (T := TX1) (N := 10) hx hb hts hin1 hown hK hP 3 rfl rfl 6 (by decide) (hts _ lk34_1) (fun _ h9 => h9) rfl dX5_findPairs_14 ?_
      refine lv_icmp_ge (tgt := 118) hx hb dX5_findPairs_17 (by decide) (fun c24 => ?_) (fun c24 => ?_)
      · have hf := (if_pos c24).symm.trans hf
        exact K12 S5 _ _ _ _ _ _ (lp_x (k := (fun s => k_X5_findPairs_40_3_12 s)) (lp_r hf hq12) hz12) hP hD hG hS (lv_sub hl [] rfl)
      · have hf := (if_neg c24).symm.trans hf
        refine lv_iload_n hx hb dX5_findPairs_20 rfl (lv_at hl 2 rfl) ?_
        refine lv_iconst (v := 1) hx hb dX5_findPairs_21 (by decide) ?_
        refine lv_iadd hx hb dX5_findPairs_22 ?_
        refine lv_topi (fun x6 ex6 => ?_)
        have hf := bs ex6 hf
        refine lv_istore_n (lv' := [(3, .int x6), (0, .ref (h 40)), (1, .ref (h 3)), (2, .int y4)]) hx hb dX5_findPairs_23 rfl hl (by decide) rfl (fun ls hl => ?_)
        have K24 : ∀ (S7 : CS) (g : Nat → Nat → Option Nat) (LP : List Nat) (pf : Nat → va_E) (H : Heap) (locs : List Loc) (ls : Array Slot), k_X5_findPairs_40_3_24 y4 S7 = some q12 → va_P (dC, dI) vwCl (wC t h tx g S7 ++ va_pl LP pf) H → va_D A (wC t h tx g S7 ++ va_pl LP pf) → rlC g LP pf S7 → va_S A s.heap H locs → lv_has ls 5 [(0, .ref (h 40)), (1, .ref (h 3)), (2, .int y4)] → W p l e RRX5_findPairs_40_3 s m args below meth c H locs 0 0 (MQ below (qcCv dC dI t A h tx S') args s 0 0 A) (F0 m 112 ls []) := by
          intro S7 g LP pf H locs ls hf hP hD hG hS hl
          unfold k_X5_findPairs_40_3_24 at hf
          obtain ⟨x8, ex8, hf⟩ := bn hf
          refine lv_iinc (v := x8) (lv' := [(2, .int x8), (0, .ref (h 40)), (1, .ref (h 3))]) hx hb dX5_findPairs_112 hl (k := 2) rfl (by rw [ex8]; rfl) (by decide) rfl (fun ls hl => ?_)
          refine lv_goto (tgt := 12) hx hb dX5_findPairs_115 (by decide) ?_
          exact ih12 x8 S7 _ _ _ _ _ _ (lp_l hf hq12) hP hD hG hS (lv_sub hl [1, 2, 0] rfl)
        obtain ⟨z24, ez24, hz24⟩ := bd hf
        have L24 : ∀ (n : Nat) (y9 : Int32) (S10 : CS) (g : Nat → Nat → Option Nat) (LP : List Nat) (pf : Nat → va_E) (H : Heap) (locs : List Loc) (ls : Array Slot), lp (fun s => b_X5_findPairs_40_3_24 y4 s.1 s.2) n (y9, S10) = some z24 → va_P (dC, dI) vwCl (wC t h tx g S10 ++ va_pl LP pf) H → va_D A (wC t h tx g S10 ++ va_pl LP pf) → rlC g LP pf S10 → va_S A s.heap H locs → lv_has ls 5 [(0, .ref (h 40)), (1, .ref (h 3)), (2, .int y4), (3, .int y9)] → W p l e RRX5_findPairs_40_3 s m args below meth c H locs 0 0 (MQ below (qcCv dC dI t A h tx S') args s 0 0 A) (F0 m 24 ls []) := by
          intro n
          induction n with
          | zero => intro y9 S10 g LP pf H locs ls hf; exact lp_z hf
          | succ n ih24 =>
            intro y9 S10 g LP pf H locs ls hf hP hD hG hS hl
            obtain ⟨q24, hf, hq24⟩ := lp_i hf
            have hf : b_X5_findPairs_40_3_24 y4 y9 S10 = some q24 := hf
            unfold b_X5_findPairs_40_3_24 at hf
            refine lv_iload_n hx hb dX5_findPairs_24 rfl (lv_at hl 3 rfl) ?_
            refine lv_aload_n hx hb dX5_findPairs_25 rfl (lv_at hl 1 rfl) ?_
            refine va_get (D := (dC, dI)) (ci := 1) (v := .int (S10.1 1306 0)) (C := RX1) (T := TX1) (N := 10) hx hb hts hin1 hown hK hP 3 rfl rfl 6 (by decide) (hts _ lk34_1) (fun _ h9 => h9) rfl dX5_findPairs_26 ?_
            refine lv_icmp_ge (tgt := 112) hx hb dX5_findPairs_29 (by decide) (fun c23 => ?_) (fun c23 => ?_)
            · have hf := (if_pos c23).symm.trans hf
              exact K24 S10 _ _ _ _ _ _ (lp_x (k := (fun s => k_X5_findPairs_40_3_24 y4 s)) (lp_r hf hq24) hz24) hP hD hG hS (lv_sub hl [0, 1, 2] rfl)
            · have hf := (if_neg c23).symm.trans hf
              refine lv_iconst (v := 1) hx hb dX5_findPairs_32 (by decide) ?_
              refine lv_iload_n hx hb dX5_findPairs_33 rfl (lv_at hl 2 rfl) ?_
              refine lv_ishl hx hb dX5_findPairs_34 ?_
              refine lv_iconst (v := 1) hx hb dX5_findPairs_35 (by decide) ?_
              refine lv_iload_n hx hb dX5_findPairs_36 rfl (lv_at hl 3 rfl) ?_
              refine lv_ishl hx hb dX5_findPairs_37 ?_
              refine lv_ior hx hb dX5_findPairs_38 ?_
              refine lv_topi (fun x11 ex11 => ?_)
              have hf := bs ex11 hf
              refine lv_istore (lv' := [(4, .int x11), (0, .ref (h 40)), (1, .ref (h 3)), (2, .int y4), (3, .int y9)]) hx hb dX5_findPairs_39 hl (by decide) rfl (fun ls hl => ?_)
              refine lv_aload_n hx hb dX5_findPairs_41 rfl (lv_at hl 2 rfl) ?_
              refine lv_iload hx hb dX5_findPairs_42 (lv_at hl 0 rfl) ?_
              refine lv_iconst (v := 0) hx hb dX5_findPairs_44 (by decide) ?_
              obtain ⟨r12, er12, hf⟩ := bd hf
              refine klCi (rest := []) (As := [.int x11, .int 0]) ⟨hx, hb, hml, hown, hts⟩ (c_X1_hasNeverSo_3 l dC dI t ts aK aV A h tx H.size (fun q hq => hA q (Nat.le_trans hS.1 hq)) S10 x11 0 r12 er12) (cwV 2 hts gX5_findPairs_X1_hasNeverSo rfl rfl rfl (by decide +kernel) ⟨Nat.le_of_ble_eq_true rfl, Nat.le_of_ble_eq_true rfl⟩) (va_recv hK hP (ci := 1) (q0 := 3) rfl rfl) rfl hl.1 rfl (Nat.le_of_ble_eq_true rfl) dX5_findPairs_45 ⟨Nat.zero_le _, Nat.zero_le _⟩ hE hK ⟨g, LP, pf, hP, hD, hG⟩ hS (fun H locs hC hS => ?_)
              obtain ⟨g, LP, pf, hP, hD, hG⟩ := hC
              refine lv_if_eq (tgt := 54) hx hb dX5_findPairs_48 (by decide) (fun c22 => ?_) (fun c22 => ?_)
              · have hf := (if_pos c22).symm.trans hf
                refine lv_aload_n hx hb dX5_findPairs_54 rfl (lv_at hl 2 rfl) ?_
                refine lv_iload hx hb dX5_findPairs_55 (lv_at hl 0 rfl) ?_
                obtain ⟨r13, er13, hf⟩ := bd hf
                refine klCi (rest := []) (As := [.int x11]) ⟨hx, hb, hml, hown, hts⟩ (c_X1_hasGuide_3 l dC dI t ts aK aV A h tx H.size (fun q hq => hA q (Nat.le_trans hS.1 hq)) S10 x11 r13 er13) (cwV 1 hts gX5_findPairs_X1_hasGuide rfl rfl rfl (by decide +kernel) ⟨Nat.le_of_ble_eq_true rfl, Nat.le_of_ble_eq_true rfl⟩) (va_recv hK hP (ci := 1) (q0 := 3) rfl rfl) rfl hl.1 rfl (Nat.le_of_ble_eq_true rfl) dX5_findPairs_57 ⟨Nat.zero_le _, Nat.zero_le _⟩ hE hK ⟨g, LP, pf, hP, hD, hG⟩ hS (fun H locs hC hS => ?_)
                obtain ⟨g, LP, pf, hP, hD, hG⟩ := hC
                refine lv_if_eq (tgt := 76) hx hb dX5_findPairs_60 (by decide) (fun c20 => ?_) (fun c20 => ?_)
                · have hf := (if_pos c20).symm.trans hf
                  refine lv_aload_n hx hb dX5_findPairs_76 rfl (lv_at hl 1 rfl) ?_
                  refine va_get (D := (dC, dI)) (ci := 5) (v := .ref (h 44)) (C := RX5) (T := TX5) (N := 9) hx hb hts hin5 hown hK hP 40 rfl rfl 5 (by decide) (hts _ lk24_5) (fun _ h9 => h9) rfl dX5_findPairs_77 ?_
                  refine lv_aload_n hx hb dX5_findPairs_80 rfl (lv_at hl 1 rfl) ?_
                  refine va_get (D := (dC, dI)) (ci := 5) (v := .int (S10.1 5007 0)) (C := RX5) (T := TX5) (N := 9) hx hb hts hin5 hown hK hP 40 rfl rfl 7 (by decide) (hts _ lk55_5) (fun _ h9 => h9) rfl dX5_findPairs_81 ?_
                  refine lv_iload_n hx hb dX5_findPairs_84 rfl (lv_at hl 3 rfl) ?_
                  obtain ⟨S14, hiS14, eS14, hf⟩ := wrI_b hf
                  refine va_iast hx hb hK hP hD hS 44 0 rfl rfl hiS14 dX5_findPairs_85 (fun H locs hP hD hS => ?_)
                  have hP : va_P (dC, dI) vwCl (wC t h tx g S14 ++ va_pl LP pf) H := by rw [eS14]; exact hP
                  have hD : va_D A (wC t h tx g S14 ++ va_pl LP pf) := by rw [eS14]; exact hD
                  have hG : rlC g LP pf S14 := by rw [eS14]; exact hG
                  refine lv_aload_n hx hb dX5_findPairs_86 rfl (lv_at hl 1 rfl) ?_
                  refine va_get (D := (dC, dI)) (ci := 5) (v := .ref (h 45)) (C := RX5) (T := TX5) (N := 9) hx hb hts hin5 hown hK hP 40 rfl rfl 6 (by decide) (hts _ lk27_5) (fun _ h9 => h9) rfl dX5_findPairs_87 ?_
                  refine lv_aload_n hx hb dX5_findPairs_90 rfl (lv_at hl 1 rfl) ?_
                  refine va_get (D := (dC, dI)) (ci := 5) (v := .int (S14.1 5007 0)) (C := RX5) (T := TX5) (N := 9) hx hb hts hin5 hown hK hP 40 rfl rfl 7 (by decide) (hts _ lk55_5) (fun _ h9 => h9) rfl dX5_findPairs_91 ?_
                  refine lv_iload_n hx hb dX5_findPairs_94 rfl (lv_at hl 4 rfl) ?_
                  obtain ⟨S15, hiS15, eS15, hf⟩ := wrI_b hf
                  refine va_iast hx hb hK hP hD hS 45 0 rfl rfl hiS15 dX5_findPairs_95 (fun H locs hP hD hS => ?_)
                  have hP : va_P (dC, dI) vwCl (wC t h tx g S15 ++ va_pl LP pf) H := by rw [eS15]; exact hP
                  have hD : va_D A (wC t h tx g S15 ++ va_pl LP pf) := by rw [eS15]; exact hD
                  have hG : rlC g LP pf S15 := by rw [eS15]; exact hG
                  refine lv_aload_n hx hb dX5_findPairs_96 rfl (lv_at hl 1 rfl) ?_
                  refine lv_dup hx hb dX5_findPairs_97 rfl ?_
                  refine va_get (D := (dC, dI)) (ci := 5) (v := .int (S15.1 5007 0)) (C := RX5) (T := TX5) (N := 9) hx hb hts hin5 hown hK hP 40 rfl rfl 7 (by decide) (hts _ lk55_5) (fun _ h9 => h9) rfl dX5_findPairs_98 ?_
                  refine lv_iconst (v := 1) hx hb dX5_findPairs_101 (by decide) ?_
                  refine lv_iadd hx hb dX5_findPairs_102 ?_
                  obtain ⟨S16, eS16, hf⟩ := bn hf
                  refine va_put (D := (dC, dI)) (ci := 5) (v := .int ((S15.1 5007 0) + 1)) (ty := .int) (C := RX5) (T := TX5) (N := 9) hx hb hts hin5 tyX5 tyX5_ok nmX5 hown hK hP hD hS 40 rfl rfl 7 (by decide) (hts _ lk55_5) (fun _ h9 => h9) rfl (by decide +kernel) rfl rfl (Nat.le_of_ble_eq_true rfl) dX5_findPairs_103 (fun H locs hP hD hS => ?_)
                  have hP : va_P (dC, dI) vwCl (wC t h tx g S16 ++ va_pl LP pf) H := by rw [eS16]; exact hP
                  have hD : va_D A (wC t h tx g S16 ++ va_pl LP pf) := by rw [eS16]; exact hD
                  have hG : rlC g LP pf S16 := by rw [eS16]; exact hG
                  obtain ⟨x17, ex17, hf⟩ := bn hf
                  refine lv_iinc (v := x17) (lv' := [(3, .int x17), (4, .int x11), (0, .ref (h 40)), (1, .ref (h 3)), (2, .int y4)]) hx hb dX5_findPairs_106 hl (k := 4) rfl (by rw [ex17]; rfl) (by decide) rfl (fun ls hl => ?_)
                  refine lv_goto (tgt := 24) hx hb dX5_findPairs_109 (by decide) ?_
                  exact ih24 x17 S16 _ _ _ _ _ _ (lp_l hf hq24) hP hD hG hS (lv_sub hl [2, 3, 4, 0] rfl)
                · have hf := (if_neg c20).symm.trans hf
                  refine lv_aload_n hx hb dX5_findPairs_63 rfl (lv_at hl 1 rfl) ?_
                  refine lv_dup hx hb dX5_findPairs_64 rfl ?_
                  refine va_get (D := (dC, dI)) (ci := 5) (v := .int (S10.1 5008 0)) (C := RX5) (T := TX5) (N := 9) hx hb hts hin5 hown hK hP 40 rfl rfl 8 (by decide) (hts _ lk58_5) (fun _ h9 => h9) rfl dX5_findPairs_65 ?_
                  refine lv_iconst (v := 1) hx hb dX5_findPairs_68 (by decide) ?_
                  refine lv_iadd hx hb dX5_findPairs_69 ?_
                  obtain ⟨S18, eS18, hf⟩ := bn hf
                  refine va_put (D := (dC, dI)) (ci := 5) (v := .int ((S10.1 5008 0) + 1)) (ty := .int) (C := RX5) (T := TX5) (N := 9) hx hb hts hin5 tyX5 tyX5_ok nmX5 hown hK hP hD hS 40 rfl rfl 8 (by decide) (hts _ lk58_5) (fun _ h9 => h9) rfl (by decide +kernel) rfl rfl (Nat.le_of_ble_eq_true rfl) dX5_findPairs_70 (fun H locs hP hD hS => ?_)
                  have hP : va_P (dC, dI) vwCl (wC t h tx g S18 ++ va_pl LP pf) H := by rw [eS18]; exact hP
                  have hD : va_D A (wC t h tx g S18 ++ va_pl LP pf) := by rw [eS18]; exact hD
                  have hG : rlC g LP pf S18 := by rw [eS18]; exact hG
                  refine lv_goto (tgt := 106) hx hb dX5_findPairs_73 (by decide) ?_
                  obtain ⟨x19, ex19, hf⟩ := bn hf
                  refine lv_iinc (v := x19) (lv' := [(3, .int x19), (4, .int x11), (0, .ref (h 40)), (1, .ref (h 3)), (2, .int y4)]) hx hb dX5_findPairs_106 hl (k := 4) rfl (by rw [ex19]; rfl) (by decide) rfl (fun ls hl => ?_)
                  refine lv_goto (tgt := 24) hx hb dX5_findPairs_109 (by decide) ?_
                  exact ih24 x19 S18 _ _ _ _ _ _ (lp_l hf hq24) hP hD hG hS (lv_sub hl [2, 3, 4, 0] rfl)
              · have hf := (if_neg c22).symm.trans hf
                refine lv_goto (tgt := 106) hx hb dX5_findPairs_51 (by decide) ?_
                obtain ⟨x21, ex21, hf⟩ := bn hf
                refine lv_iinc (v := x21) (lv' := [(3, .int x21), (4, .int x11), (0, .ref (h 40)), (1, .ref (h 3)), (2, .int y4)]) hx hb dX5_findPairs_106 hl (k := 4) rfl (by rw [ex21]; rfl) (by decide) rfl (fun ls hl => ?_)
                refine lv_goto (tgt := 24) hx hb dX5_findPairs_109 (by decide) ?_
                exact ih24 x21 S10 _ _ _ _ _ _ (lp_l hf hq24) hP hD hG hS (lv_sub hl [2, 3, 4, 0] rfl)
        exact L24 FU x6 S5 _ _ _ _ _ _ ez24 hP hD hG hS (lv_sub hl [1, 2, 3, 0] rfl)
  exact L12 FU 0 S2 _ _ _ _ _ _ ez12 hP hD hG hS (lv_sub hl [1, 2, 0] rfl)

def k_X5_keepIfBetter_40_7 (S : CS) (y2 : Int32) : Option CS :=
  (if y2 ≤ (S.1 5001 0) then (some S) else (Option.bind (some (siI S 5001 (fun _ => y2))) (fun S3 => Option.bind (some (siI S3 41 (va_cpy (S3.1 42) (S3.1 41) 0 0 5))) (fun S4 => some S4))))
def b_X5_keepIfBetter_40_7 (S : CS) (p0 : Int32) (y6 : Int32) (y7 : Int32) : Option ((Int32 × Int32) ⊕ Int32) :=
  (if (S.1 5007 0) ≤ y7 then (some (Sum.inr y6)) else (Option.bind (rdI 21 (S.1 44) y7) (fun x8 => Option.bind (rdI 6 (S.1 43) x8) (fun x9 => Option.bind (rdI 21 (S.1 45) y7) (fun x10 => Option.bind (rdI 6 (S.1 43) x10) (fun x11 => (if (if 0 ≤ (x9 - x11) then (x9 - x11) else 0 - (x9 - x11)) < p0 then (Option.bind (some (y7 + 1)) (fun x12 => some (Sum.inl (y6, x12)))) else (Option.bind (some (y6 + 1)) (fun x13 => Option.bind (some (y7 + 1)) (fun x14 => some (Sum.inl (x13, x14))))))))))))
def f_X5_keepIfBetter_40 (S : CS) (p0 : Int32) : Option CS :=
  Option.bind (some (S.1 5008 0)) (fun x1 => Option.bind (lp (fun s => b_X5_keepIfBetter_40_7 S p0 s.1 s.2) FU (x1, 0)) (fun s => k_X5_keepIfBetter_40_7 S s))
def rmX5_keepIfBetter_40 : Room := { frames := 1, cells := 0, slots := 0, locals := 60 }
abbrev RRX5_keepIfBetter_40 : Room := (headSpec wsX5_keepIfBetter rmX5_keepIfBetter_40).room
theorem in5_X5_keepIfBetter_40 : ∀ w ∈ wsX50, w ∈ wsX5_keepIfBetter := by decide +kernel
set_option maxHeartbeats 4000000 in
set_option maxRecDepth 100000 in
theorem c_X5_keepIfBetter_40 (l : Launch) (dC : Nat → ClassId) (dI : Nat → Nat → Nat) (t : Nat → ClassId) (ts aK aV : Nat → Nat) (A : Nat → Prop) (h : Nat → Nat) (tx : Nat) (sz : Nat) (hA0 : ∀ q : Nat, sz ≤ q → A q) (S : CS) (p0 : Int32) (S' : CS) (hf : f_X5_keepIfBetter_40 S p0 = some S') : cCv l yX5_keepIfBetter wsX5_keepIfBetter rmX5_keepIfBetter_40 dC dI t ts aK aV A h tx tx sz [.ref (h 40), .int p0] S S' := by
  refine Met.ofW (cc := cX5_keepIfBetter) (maxL := 4) (ret := none) (by decide) rfl ?_
  intro p e s m args below meth c s₁ B hml hv
  obtain ⟨hargs, hsz, hE, hC, hK⟩ := hv
  have hx := B.exec
  have hb := B.bytes
  have hr := B.returns
  have hts := atoms_spec (ws := wsX5_keepIfBetter) B.pre
  have hown : s.vm.findClass RX5 = some m.cls := findClass_of_methodNamed B.named
  have hlocks := B.notSynchronized
  have hsz : s.heap.size = sz := hsz
  subst hsz
  have hin5 := in5_X5_keepIfBetter_40
  have lk9_5 : Cond.fieldLink RX5 9 (TX5 2).1 (TX5 2).2.1 (TX5 2).2.2.1 ∈ wsX5_keepIfBetter := by decide +kernel
  have lk15_5 : Cond.fieldLink RX5 15 (TX5 3).1 (TX5 3).2.1 (TX5 3).2.2.1 ∈ wsX5_keepIfBetter := by decide +kernel
  have lk18_5 : Cond.fieldLink RX5 18 (TX5 4).1 (TX5 4).2.1 (TX5 4).2.2.1 ∈ wsX5_keepIfBetter := by decide +kernel
  have lk24_5 : Cond.fieldLink RX5 24 (TX5 5).1 (TX5 5).2.1 (TX5 5).2.2.1 ∈ wsX5_keepIfBetter := by decide +kernel
  have lk27_5 : Cond.fieldLink RX5 27 (TX5 6).1 (TX5 6).2.1 (TX5 6).2.2.1 ∈ wsX5_keepIfBetter := by decide +kernel
  have lk48_5 : Cond.fieldLink RX5 48 (TX5 1).1 (TX5 1).2.1 (TX5 1).2.2.1 ∈ wsX5_keepIfBetter := by decide +kernel
  have lk55_5 : Cond.fieldLink RX5 55 (TX5 7).1 (TX5 7).2.1 (TX5 7).2.2.1 ∈ wsX5_keepIfBetter := by decide +kernel
  have lk58_5 : Cond.fieldLink RX5 58 (TX5 8).1 (TX5 8).2.1 (TX5 8).2.2.1 ∈ wsX5_keepIfBetter := by decide +kernel
  have hA : ∀ q : Nat, s.heap.size ≤ q → A q := hA0
  obtain ⟨g, LP, pf, hP, hD, hG⟩ := hC
  have hS : va_S A s.heap s.heap [] := va_S.rf
  have hl := lv_entry ([.ref (h 40), .int p0]) (n := 4) (Nat.le_of_ble_eq_true rfl)
  rw [show entryFrame m args 4 = entryFrame m ([.ref (h 40), .int p0] : List Value).toArray 4 from by rw [hargs], lg_entry_eq]
  generalize (lg_sl ([.ref (h 40), .int p0]) ++ List.replicate (4 - (lg_sl ([.ref (h 40), .int p0])).length) Slot.unset).toArray = ls at hl ⊢
  have hl : lv_has ls 4 [(0, .ref (h 40)), (1, .int p0)] := hl
  unfold f_X5_keepIfBetter_40 at hf
  refine lv_aload_n hx hb dX5_keepIfBetter_0 rfl (lv_at hl 0 rfl) ?_
  refine va_get (D := (dC, dI)) (ci := 5) (v := .int (S.1 5008 0)) (C := RX5) (T := TX5) (N := 9) hx hb hts hin5 hown hK hP 40 rfl rfl 8 (by decide) (hts _ lk58_5) (fun _ h9 => h9) rfl dX5_keepIfBetter_1 ?_
  refine lv_topi (fun x1 ex1 => ?_)
  have hf := bs ex1 hf
  refine lv_istore_n (lv' := [(2, .int x1), (0, .ref (h 40)), (1, .int p0)]) hx hb dX5_keepIfBetter_4 rfl hl (by decide) rfl (fun ls hl => ?_)
  refine lv_iconst (v := 0) hx hb dX5_keepIfBetter_5 (by decide) ?_
  refine lv_istore_n (lv' := [(3, .int 0), (2, .int x1), (0, .ref (h 40)), (1, .int p0)]) hx hb dX5_keepIfBetter_6 rfl hl (by decide) rfl (fun ls hl => ?_)
  have K7 : ∀ (y2 : Int32) (g : Nat → Nat → Option Nat) (LP : List Nat) (pf : Nat → va_E) (H : Heap) (locs : List Loc) (ls : Array Slot), k_X5_keepIfBetter_40_7 S y2 = some S' → va_P (dC, dI) vwCl (wC t h tx g S ++ va_pl LP pf) H → va_D A (wC t h tx g S ++ va_pl LP pf) → rlC g LP pf S → va_S A s.heap H locs → lv_has ls 4 [(0, .ref (h 40)), (2, .int y2)] → W p l e RRX5_keepIfBetter_40 s m args below meth c H locs 0 0 (MQ below (qcCv dC dI t A h tx S') args s 0 0 A) (F0 m 54 ls []) := by
    intro y2 g LP pf H locs ls hf hP hD hG hS hl
    unfold k_X5_keepIfBetter_40_7 at hf
    refine lv_iload_n hx hb dX5_keepIfBetter_54 rfl (lv_at hl 1 rfl) ?_
    refine lv_aload_n hx hb dX5_keepIfBetter_55 rfl (lv_at hl 0 rfl) ?_
    refine va_get (D := (dC, dI)) (ci := 5) (v := .int (S.1 5001 0)) (C := RX5) (T := TX5) (N := 9) hx hb hts hin5 hown hK hP 40 rfl rfl 1 (by decide) (hts _ lk48_5) (fun _ h9 => h9) rfl dX5_keepIfBetter_56 ?_
    refine lv_icmp_le (tgt := 81) hx hb dX5_keepIfBetter_59 (by decide) (fun c5 => ?_) (fun c5 => ?_)
    · have hf := (if_pos c5).symm.trans hf
      exact rtCv hx hb hr hlocks ⟨g, LP, pf, hP, hD, hG⟩ hS hf dX5_keepIfBetter_81
    · have hf := (if_neg c5).symm.trans hf
      refine lv_aload_n hx hb dX5_keepIfBetter_62 rfl (lv_at hl 0 rfl) ?_
      refine lv_iload_n hx hb dX5_keepIfBetter_63 rfl (lv_at hl 1 rfl) ?_
      obtain ⟨S3, eS3, hf⟩ := bn hf
      refine va_put (D := (dC, dI)) (ci := 5) (v := .int y2) (ty := .int) (C := RX5) (T := TX5) (N := 9) hx hb hts hin5 tyX5 tyX5_ok nmX5 hown hK hP hD hS 40 rfl rfl 1 (by decide) (hts _ lk48_5) (fun _ h9 => h9) rfl (by decide +kernel) rfl rfl (Nat.le_of_ble_eq_true rfl) dX5_keepIfBetter_64 (fun H locs hP hD hS => ?_)
      have hP : va_P (dC, dI) vwCl (wC t h tx g S3 ++ va_pl LP pf) H := by rw [eS3]; exact hP
      have hD : va_D A (wC t h tx g S3 ++ va_pl LP pf) := by rw [eS3]; exact hD
      have hG : rlC g LP pf S3 := by rw [eS3]; exact hG
      refine lv_aload_n hx hb dX5_keepIfBetter_67 rfl (lv_at hl 0 rfl) ?_
      refine va_get (D := (dC, dI)) (ci := 5) (v := .ref (h 42)) (C := RX5) (T := TX5) (N := 9) hx hb hts hin5 hown hK hP 40 rfl rfl 3 (by decide) (hts _ lk15_5) (fun _ h9 => h9) rfl dX5_keepIfBetter_68 ?_
      refine lv_iconst (v := 0) hx hb dX5_keepIfBetter_71 (by decide) ?_
      refine lv_aload_n hx hb dX5_keepIfBetter_72 rfl (lv_at hl 0 rfl) ?_
      refine va_get (D := (dC, dI)) (ci := 5) (v := .ref (h 41)) (C := RX5) (T := TX5) (N := 9) hx hb hts hin5 hown hK hP 40 rfl rfl 2 (by decide) (hts _ lk9_5) (fun _ h9 => h9) rfl dX5_keepIfBetter_73 ?_
      refine lv_iconst (v := 0) hx hb dX5_keepIfBetter_76 (by decide) ?_
      refine lv_iconst (v := 5) hx hb dX5_keepIfBetter_77 (by decide) ?_
      obtain ⟨S4, eS4, hf⟩ := bn hf
      refine va_copyi hx hb (by rw [hml]; exact hl.1.symm) hown (hts (.methodLink RX5 96 arraycopyName) (by decide +kernel)) (hts (.native arraycopyName) (by decide +kernel)) (hts (.static arraycopyName) (by decide +kernel)) (hts (.initialized "java/lang/System") (by decide +kernel)) hK hP hD hS 42 41 0 0 rfl rfl rfl rfl rfl (by decide) (by decide) (by decide) (by decide) (by decide) (fun _ _ => rfl) (Nat.le_of_ble_eq_true rfl) (by decide +kernel) dX5_keepIfBetter_78 (fun H locs hP hD hS => ?_)
      have hP : va_P (dC, dI) vwCl (wC t h tx g S4 ++ va_pl LP pf) H := by rw [eS4]; exact hP
      have hD : va_D A (wC t h tx g S4 ++ va_pl LP pf) := by rw [eS4]; exact hD
      have hG : rlC g LP pf S4 := by rw [eS4]; exact hG
      exact rtCv hx hb hr hlocks ⟨g, LP, pf, hP, hD, hG⟩ hS hf dX5_keepIfBetter_81
  obtain ⟨z7, ez7, hz7⟩ := bd hf
  have L7 : ∀ (n : Nat) (y6 : Int32) (y7 : Int32) (g : Nat → Nat → Option Nat) (LP : List Nat) (pf : Nat → va_E) (H : Heap) (locs : List Loc) (ls : Array Slot), lp (fun s => b_X5_keepIfBetter_40_7 S p0 s.1 s.2) n (y6, y7) = some z7 → va_P (dC, dI) vwCl (wC t h tx g S ++ va_pl LP pf) H → va_D A (wC t h tx g S ++ va_pl LP pf) → rlC g LP pf S → va_S A s.heap H locs → lv_has ls 4 [(0, .ref (h 40)), (1, .int p0), (2, .int y6), (3, .int y7)] → W p l e RRX5_keepIfBetter_40 s m args below meth c H locs 0 0 (MQ below (qcCv dC dI t A h tx S') args s 0 0 A) (F0 m 7 ls []) := by
    intro n
    induction n with
    | zero => intro y6 y7 g LP pf H locs ls hf; exact lp_z hf
    | succ n ih7 =>
      intro y6 y7 g LP pf H locs ls hf hP hD hG hS hl
      obtain ⟨q7, hf, hq7⟩ := lp_i hf
      have hf : b_X5_keepIfBetter_40_7 S p0 y6 y7 = some q7 := hf
      unfold b_X5_keepIfBetter_40_7 at hf
      refine lv_iload_n hx hb dX5_keepIfBetter_7 rfl (lv_at hl 3 rfl) ?_
      refine lv_aload_n hx hb dX5_keepIfBetter_8 rfl (lv_at hl 0 rfl) ?_
      refine va_get (D := (dC, dI)) (ci := 5) (v := .int (S.1 5007 0)) (C := RX5) (T := TX5) (N := 9) hx hb hts hin5 hown hK hP 40 rfl rfl 7 (by decide) (hts _ lk55_5) (fun _ h9 => h9) rfl dX5_keepIfBetter_9 ?_
      refine lv_icmp_ge (tgt := 54) hx hb dX5_keepIfBetter_12 (by decide) (fun c16 => ?_) (fun c16 => ?_)
      · have hf := (if_pos c16).symm.trans hf
        exact K7 y6 _ _ _ _ _ _ (lp_x (k := (fun s => k_X5_keepIfBetter_40_7 S s)) (lp_r hf hq7) hz7) hP hD hG hS (lv_sub hl [0, 2] rfl)
      · have hf := (if_neg c16).symm.trans hf
        refine lv_aload_n hx hb dX5_keepIfBetter_15 rfl (lv_at hl 0 rfl) ?_
        refine va_get (D := (dC, dI)) (ci := 5) (v := .ref (h 43)) (C := RX5) (T := TX5) (N := 9) hx hb hts hin5 hown hK hP 40 rfl rfl 4 (by decide) (hts _ lk18_5) (fun _ h9 => h9) rfl dX5_keepIfBetter_16 ?_
        refine lv_aload_n hx hb dX5_keepIfBetter_19 rfl (lv_at hl 0 rfl) ?_
        refine va_get (D := (dC, dI)) (ci := 5) (v := .ref (h 44)) (C := RX5) (T := TX5) (N := 9) hx hb hts hin5 hown hK hP 40 rfl rfl 5 (by decide) (hts _ lk24_5) (fun _ h9 => h9) rfl dX5_keepIfBetter_20 ?_
        refine lv_iload_n hx hb dX5_keepIfBetter_23 rfl (lv_at hl 3 rfl) ?_
        obtain ⟨x8, hix8, ex8, hf⟩ := rd_b hf
        refine va_iald hx hb hK hP 44 0 rfl rfl hix8 dX5_keepIfBetter_24 (kI ex8 ?_)
        obtain ⟨x9, hix9, ex9, hf⟩ := rd_b hf
        refine va_iald hx hb hK hP 43 0 rfl rfl hix9 dX5_keepIfBetter_25 (kI ex9 ?_)
        refine lv_aload_n hx hb dX5_keepIfBetter_26 rfl (lv_at hl 0 rfl) ?_
        refine va_get (D := (dC, dI)) (ci := 5) (v := .ref (h 43)) (C := RX5) (T := TX5) (N := 9) hx hb hts hin5 hown hK hP 40 rfl rfl 4 (by decide) (hts _ lk18_5) (fun _ h9 => h9) rfl dX5_keepIfBetter_27 ?_
        refine lv_aload_n hx hb dX5_keepIfBetter_30 rfl (lv_at hl 0 rfl) ?_
        refine va_get (D := (dC, dI)) (ci := 5) (v := .ref (h 45)) (C := RX5) (T := TX5) (N := 9) hx hb hts hin5 hown hK hP 40 rfl rfl 6 (by decide) (hts _ lk27_5) (fun _ h9 => h9) rfl dX5_keepIfBetter_31 ?_
        refine lv_iload_n hx hb dX5_keepIfBetter_34 rfl (lv_at hl 3 rfl) ?_
        obtain ⟨x10, hix10, ex10, hf⟩ := rd_b hf
        refine va_iald hx hb hK hP 45 0 rfl rfl hix10 dX5_keepIfBetter_35 (kI ex10 ?_)
        obtain ⟨x11, hix11, ex11, hf⟩ := rd_b hf
        refine va_iald hx hb hK hP 43 0 rfl rfl hix11 dX5_keepIfBetter_36 (kI ex11 ?_)
        refine lv_isub hx hb dX5_keepIfBetter_37 ?_
        refine va_mabs hx hb (by rw [hml]; exact hl.1.symm) hown (hts (.methodLink RX5 90 Lib.Math.abs.name) (by decide +kernel)) (hts (.static Lib.Math.abs.name) (by decide +kernel)) (hts (.initialized "java/lang/Math") (by decide +kernel)) (hts (.code Lib.Math.abs.name Lib.Math.abs.code 1 (some .int)) (by decide +kernel)) (Nat.le_of_ble_eq_true rfl) (Nat.le_of_ble_eq_true rfl) (Nat.zero_le _) (Nat.zero_le _) dX5_keepIfBetter_38 ?_
        refine lv_iload_n hx hb dX5_keepIfBetter_41 rfl (lv_at hl 1 rfl) ?_
        refine lv_icmp_lt (tgt := 48) hx hb dX5_keepIfBetter_42 (by decide) (fun c15 => ?_) (fun c15 => ?_)
        · have hf := (if_pos c15).symm.trans hf
          obtain ⟨x12, ex12, hf⟩ := bn hf
          refine lv_iinc (v := x12) (lv' := [(3, .int x12), (0, .ref (h 40)), (1, .int p0), (2, .int y6)]) hx hb dX5_keepIfBetter_48 hl (k := 3) rfl (by rw [ex12]; rfl) (by decide) rfl (fun ls hl => ?_)
          refine lv_goto (tgt := 7) hx hb dX5_keepIfBetter_51 (by decide) ?_
          exact ih7 y6 x12 _ _ _ _ _ _ (lp_l hf hq7) hP hD hG hS (lv_sub hl [1, 2, 3, 0] rfl)
        · have hf := (if_neg c15).symm.trans hf
          obtain ⟨x13, ex13, hf⟩ := bn hf
          refine lv_iinc (v := x13) (lv' := [(2, .int x13), (0, .ref (h 40)), (1, .int p0), (3, .int y7)]) hx hb dX5_keepIfBetter_45 hl (k := 2) rfl (by rw [ex13]; rfl) (by decide) rfl (fun ls hl => ?_)
          obtain ⟨x14, ex14, hf⟩ := bn hf
          refine lv_iinc (v := x14) (lv' := [(3, .int x14), (2, .int x13), (0, .ref (h 40)), (1, .int p0)]) hx hb dX5_keepIfBetter_48 hl (k := 3) rfl (by rw [ex14]; rfl) (by decide) rfl (fun ls hl => ?_)
          refine lv_goto (tgt := 7) hx hb dX5_keepIfBetter_51 (by decide) ?_
          exact ih7 x13 x14 _ _ _ _ _ _ (lp_l hf hq7) hP hD hG hS (lv_sub hl [2, 3, 1, 0] rfl)
  exact L7 FU x1 0 _ _ _ _ _ _ ez7 hP hD hG hS (lv_sub hl [2, 3, 1, 0] rfl)

def f_X8_isFigure (p0 : Int32) : Option Int32 :=
  (if p0 < 48 then (some 0) else ((if 57 < p0 then (some 0) else (some 1))))
def rmX8_isFigure : Room := { frames := 0, cells := 0, slots := 0, locals := 0 }
abbrev RRX8_isFigure : Room := (headSpec wsX8_isFigure rmX8_isFigure).room
set_option maxHeartbeats 4000000 in
set_option maxRecDepth 100000 in
theorem c_X8_isFigure (l : Launch) (sz : Nat) (p0 : Int32) (r : Int32) (hf : f_X8_isFigure p0 = some r) : cXi l yX8_isFigure wsX8_isFigure rmX8_isFigure sz [.int p0] (fun _ => True) r := by
  refine Met.ofW (cc := cX8_isFigure) (maxL := 1) (ret := (some .boolean)) (by decide) rfl ?_
  intro p e s m args below meth c s₁ B hml hv
  obtain ⟨hargs, hsz, hXX⟩ := hv
  have hx := B.exec
  have hb := B.bytes
  have hr := B.returns
  have hts := atoms_spec (ws := wsX8_isFigure) B.pre
  have hown : s.vm.findClass RX8 = some m.cls := findClass_of_methodNamed B.named
  have hlocks := B.notSynchronized
  have hsz : s.heap.size = sz := hsz
  subst hsz
  obtain ⟨A, hAe⟩ : ∃ A : Nat → Prop, A = fun q => s.heap.size ≤ q := ⟨_, rfl⟩
  rw [← hAe]
  have hA : ∀ q : Nat, s.heap.size ≤ q → A q := fun q h => by rw [hAe]; exact h
  have hS : va_S A s.heap s.heap [] := va_S.rf
  have hl := lv_entry ([.int p0]) (n := 1) (Nat.le_of_ble_eq_true rfl)
  rw [show entryFrame m args 1 = entryFrame m ([.int p0] : List Value).toArray 1 from by rw [hargs], lg_entry_eq]
  generalize (lg_sl ([.int p0]) ++ List.replicate (1 - (lg_sl ([.int p0])).length) Slot.unset).toArray = ls at hl ⊢
  have hl : lv_has ls 1 [(0, .int p0)] := hl
  unfold f_X8_isFigure at hf
  refine lv_iload_n hx hb dX8_isFigure_0 rfl (lv_at hl 0 rfl) ?_
  refine lv_bipush (v := 48) hx hb dX8_isFigure_1 (by decide) ?_
  refine lv_icmp_lt (tgt := 16) hx hb dX8_isFigure_3 (by decide) (fun c2 => ?_) (fun c2 => ?_)
  · have hf := (if_pos c2).symm.trans hf
    refine lv_iconst (v := 0) hx hb dX8_isFigure_16 (by decide) ?_
    exact rtEz hx hb hr hlocks hS rfl hf dX8_isFigure_17
  · have hf := (if_neg c2).symm.trans hf
    refine lv_iload_n hx hb dX8_isFigure_6 rfl (lv_at hl 0 rfl) ?_
    refine lv_bipush (v := 57) hx hb dX8_isFigure_7 (by decide) ?_
    refine lv_icmp_gt (tgt := 16) hx hb dX8_isFigure_9 (by decide) (fun c1 => ?_) (fun c1 => ?_)
    · have hf := (if_pos c1).symm.trans hf
      refine lv_iconst (v := 0) hx hb dX8_isFigure_16 (by decide) ?_
      exact rtEz hx hb hr hlocks hS rfl hf dX8_isFigure_17
    · have hf := (if_neg c1).symm.trans hf
      refine lv_iconst (v := 1) hx hb dX8_isFigure_12 (by decide) ?_
      refine lv_goto (tgt := 17) hx hb dX8_isFigure_13 (by decide) ?_
      exact rtEz hx hb hr hlocks hS rfl hf dX8_isFigure_17

def k_X8_passNumber_31_5 (S2 : CS) : Option CS :=
  (if 3 < ((S2.1 4104 0) - (S2.1 4106 0)) then (Option.bind (some (siI S2 4105 (fun _ => 4))) (fun S3 => some S3)) else (Option.bind (some (siI S2 4105 (fun _ => 2))) (fun S4 => some S4)))
def b_X8_passNumber_31_5 (S6 : CS) : Option (CS ⊕ CS) :=
  (if (S6.1 4103 0) ≤ (S6.1 4104 0) then (some (Sum.inr S6)) else (Option.bind (rdI 200 (S6.1 8) (S6.1 4104 0)) (fun x7 => Option.bind (f_X8_isFigure x7) (fun r8 => (if r8 = 0 then (some (Sum.inr S6)) else ((if 3 ≤ ((S6.1 4104 0) - (S6.1 4106 0)) then (Option.bind (some (siI S6 4104 (fun _ => (S6.1 4104 0) + 1))) (fun S9 => some (Sum.inl S9))) else (Option.bind (rdI 200 (S6.1 8) (S6.1 4104 0)) (fun x10 => Option.bind (some (siI S6 4107 (fun _ => ((10 * (S6.1 4107 0)) + x10) - 48))) (fun S11 => Option.bind (some (siI S11 4104 (fun _ => (S11.1 4104 0) + 1))) (fun S12 => some (Sum.inl S12))))))))))))
def f_X8_passNumber_31 (S : CS)  : Option CS :=
  Option.bind (some (siI S 4107 (fun _ => 0))) (fun S1 => Option.bind (lp (fun s => b_X8_passNumber_31_5 s) FU S1) (fun s => k_X8_passNumber_31_5 s))
def rmX8_passNumber_31 : Room := { frames := 1, cells := 0, slots := 0, locals := 20 }
abbrev RRX8_passNumber_31 : Room := (headSpec wsX8_passNumber rmX8_passNumber_31).room
theorem in8_X8_passNumber_31 : ∀ w ∈ wsX80, w ∈ wsX8_passNumber := by decide +kernel
set_option maxHeartbeats 4000000 in
set_option maxRecDepth 100000 in
theorem c_X8_passNumber_31 (l : Launch) (dC : Nat → ClassId) (dI : Nat → Nat → Nat) (t : Nat → ClassId) (ts aK aV : Nat → Nat) (A : Nat → Prop) (h : Nat → Nat) (sz : Nat) (hA0 : ∀ q : Nat, sz ≤ q → A q) (S : CS)  (S' : CS) (hf : f_X8_passNumber_31 S = some S') : cCv l yX8_passNumber wsX8_passNumber rmX8_passNumber_31 dC dI t ts aK aV A h (h 8) (h 8) sz [.ref (h 31)] S S' := by
  refine Met.ofW (cc := cX8_passNumber) (maxL := 1) (ret := none) (by decide) rfl ?_
  intro p e s m args below meth c s₁ B hml hv
  obtain ⟨hargs, hsz, hE, hC, hK⟩ := hv
  have hx := B.exec
  have hb := B.bytes
  have hr := B.returns
  have hts := atoms_spec (ws := wsX8_passNumber) B.pre
  have hown : s.vm.findClass RX8 = some m.cls := findClass_of_methodNamed B.named
  have hlocks := B.notSynchronized
  have hsz : s.heap.size = sz := hsz
  subst hsz
  have hin8 := in8_X8_passNumber_31
  have lk28_8 : Cond.fieldLink RX8 28 (TX8 2).1 (TX8 2).2.1 (TX8 2).2.2.1 ∈ wsX8_passNumber := by decide +kernel
  have lk39_8 : Cond.fieldLink RX8 39 (TX8 3).1 (TX8 3).2.1 (TX8 3).2.2.1 ∈ wsX8_passNumber := by decide +kernel
  have lk42_8 : Cond.fieldLink RX8 42 (TX8 4).1 (TX8 4).2.1 (TX8 4).2.2.1 ∈ wsX8_passNumber := by decide +kernel
  have lk54_8 : Cond.fieldLink RX8 54 (TX8 5).1 (TX8 5).2.1 (TX8 5).2.2.1 ∈ wsX8_passNumber := by decide +kernel
  have lk72_8 : Cond.fieldLink RX8 72 (TX8 6).1 (TX8 6).2.1 (TX8 6).2.2.1 ∈ wsX8_passNumber := by decide +kernel
  have lk78_8 : Cond.fieldLink RX8 78 (TX8 7).1 (TX8 7).2.1 (TX8 7).2.2.1 ∈ wsX8_passNumber := by decide +kernel
  have hA : ∀ q : Nat, s.heap.size ≤ q → A q := hA0
  obtain ⟨g, LP, pf, hP, hD, hG⟩ := hC
  have hS : va_S A s.heap s.heap [] := va_S.rf
  have hl := lv_entry ([.ref (h 31)]) (n := 1) (Nat.le_of_ble_eq_true rfl)
  rw [show entryFrame m args 1 = entryFrame m ([.ref (h 31)] : List Value).toArray 1 from by rw [hargs], lg_entry_eq]
  generalize (lg_sl ([.ref (h 31)]) ++ List.replicate (1 - (lg_sl ([.ref (h 31)])).length) Slot.unset).toArray = ls at hl ⊢
  have hl : lv_has ls 1 [(0, .ref (h 31))] := hl
  unfold f_X8_passNumber_31 at hf
  refine lv_aload_n hx hb dX8_passNumber_0 rfl (lv_at hl 0 rfl) ?_
  refine lv_iconst (v := 0) hx hb dX8_passNumber_1 (by decide) ?_
  obtain ⟨S1, eS1, hf⟩ := bn hf
  refine va_put (D := (dC, dI)) (ci := 8) (v := .int 0) (ty := .int) (C := RX8) (T := TX8) (N := 9) hx hb hts hin8 tyX8 tyX8_ok nmX8 hown hK hP hD hS 31 rfl rfl 7 (by decide) (hts _ lk78_8) (fun _ h9 => h9) rfl (by decide +kernel) rfl rfl (Nat.le_of_ble_eq_true rfl) dX8_passNumber_2 (fun H locs hP hD hS => ?_)
  have hP : va_P (dC, dI) vwCl (wC t h (h 8) g S1 ++ va_pl LP pf) H := by rw [eS1]; exact hP
  have hD : va_D A (wC t h (h 8) g S1 ++ va_pl LP pf) := by rw [eS1]; exact hD
  have hG : rlC g LP pf S1 := by rw [eS1]; exact hG
  have K5 : ∀ (S2 : CS) (g : Nat → Nat → Option Nat) (LP : List Nat) (pf : Nat → va_E) (H : Heap) (locs : List Loc) (ls : Array Slot), k_X8_passNumber_31_5 S2 = some S' → va_P (dC, dI) vwCl (wC t h (h 8) g S2 ++ va_pl LP pf) H → va_D A (wC t h (h 8) g S2 ++ va_pl LP pf) → rlC g LP pf S2 → va_S A s.heap H locs → lv_has ls 1 [(0, .ref (h 31))] → W p l e RRX8_passNumber_31 s m args below meth c H locs 0 0 (MQ below (qcCv dC dI t A h (h 8) S') args s 0 0 A) (F0 m 81 ls []) := by
    intro S2 g LP pf H locs ls hf hP hD hG hS hl
    unfold k_X8_passNumber_31_5 at hf
    refine lv_aload_n hx hb dX8_passNumber_81 rfl (lv_at hl 0 rfl) ?_
    refine lv_aload_n hx hb dX8_passNumber_82 rfl (lv_at hl 0 rfl) ?_
    refine va_get (D := (dC, dI)) (ci := 8) (v := .int (S2.1 4104 0)) (C := RX8) (T := TX8) (N := 9) hx hb hts hin8 hown hK hP 31 rfl rfl 4 (by decide) (hts _ lk42_8) (fun _ h9 => h9) rfl dX8_passNumber_83 ?_
    refine lv_aload_n hx hb dX8_passNumber_86 rfl (lv_at hl 0 rfl) ?_
    refine va_get (D := (dC, dI)) (ci := 8) (v := .int (S2.1 4106 0)) (C := RX8) (T := TX8) (N := 9) hx hb hts hin8 hown hK hP 31 rfl rfl 6 (by decide) (hts _ lk72_8) (fun _ h9 => h9) rfl dX8_passNumber_87 ?_
    refine lv_isub hx hb dX8_passNumber_90 ?_
    refine lv_iconst (v := 3) hx hb dX8_passNumber_91 (by decide) ?_
    refine lv_icmp_gt (tgt := 99) hx hb dX8_passNumber_92 (by decide) (fun c5 => ?_) (fun c5 => ?_)
    · have hf := (if_pos c5).symm.trans hf
      refine lv_iconst (v := 4) hx hb dX8_passNumber_99 (by decide) ?_
      obtain ⟨S3, eS3, hf⟩ := bn hf
      refine va_put (D := (dC, dI)) (ci := 8) (v := .int 4) (ty := .int) (C := RX8) (T := TX8) (N := 9) hx hb hts hin8 tyX8 tyX8_ok nmX8 hown hK hP hD hS 31 rfl rfl 5 (by decide) (hts _ lk54_8) (fun _ h9 => h9) rfl (by decide +kernel) rfl rfl (Nat.le_of_ble_eq_true rfl) dX8_passNumber_100 (fun H locs hP hD hS => ?_)
      have hP : va_P (dC, dI) vwCl (wC t h (h 8) g S3 ++ va_pl LP pf) H := by rw [eS3]; exact hP
      have hD : va_D A (wC t h (h 8) g S3 ++ va_pl LP pf) := by rw [eS3]; exact hD
      have hG : rlC g LP pf S3 := by rw [eS3]; exact hG
      exact rtCv hx hb hr hlocks ⟨g, LP, pf, hP, hD, hG⟩ hS hf dX8_passNumber_103
    · have hf := (if_neg c5).symm.trans hf
      refine lv_iconst (v := 2) hx hb dX8_passNumber_95 (by decide) ?_
      refine lv_goto (tgt := 100) hx hb dX8_passNumber_96 (by decide) ?_
      obtain ⟨S4, eS4, hf⟩ := bn hf
      refine va_put (D := (dC, dI)) (ci := 8) (v := .int 2) (ty := .int) (C := RX8) (T := TX8) (N := 9) hx hb hts hin8 tyX8 tyX8_ok nmX8 hown hK hP hD hS 31 rfl rfl 5 (by decide) (hts _ lk54_8) (fun _ h9 => h9) rfl (by decide +kernel) rfl rfl (Nat.le_of_ble_eq_true rfl) dX8_passNumber_100 (fun H locs hP hD hS => ?_)
      have hP : va_P (dC, dI) vwCl (wC t h (h 8) g S4 ++ va_pl LP pf) H := by rw [eS4]; exact hP
      have hD : va_D A (wC t h (h 8) g S4 ++ va_pl LP pf) := by rw [eS4]; exact hD
      have hG : rlC g LP pf S4 := by rw [eS4]; exact hG
      exact rtCv hx hb hr hlocks ⟨g, LP, pf, hP, hD, hG⟩ hS hf dX8_passNumber_103
  obtain ⟨z5, ez5, hz5⟩ := bd hf
  have L5 : ∀ (n : Nat) (S6 : CS) (g : Nat → Nat → Option Nat) (LP : List Nat) (pf : Nat → va_E) (H : Heap) (locs : List Loc) (ls : Array Slot), lp (fun s => b_X8_passNumber_31_5 s) n S6 = some z5 → va_P (dC, dI) vwCl (wC t h (h 8) g S6 ++ va_pl LP pf) H → va_D A (wC t h (h 8) g S6 ++ va_pl LP pf) → rlC g LP pf S6 → va_S A s.heap H locs → lv_has ls 1 [(0, .ref (h 31))] → W p l e RRX8_passNumber_31 s m args below meth c H locs 0 0 (MQ below (qcCv dC dI t A h (h 8) S') args s 0 0 A) (F0 m 5 ls []) := by
    intro n
    induction n with
    | zero => intro S6 g LP pf H locs ls hf; exact lp_z hf
    | succ n ih5 =>
      intro S6 g LP pf H locs ls hf hP hD hG hS hl
      obtain ⟨q5, hf, hq5⟩ := lp_i hf
      have hf : b_X8_passNumber_31_5 S6 = some q5 := hf
      unfold b_X8_passNumber_31_5 at hf
      refine lv_aload_n hx hb dX8_passNumber_5 rfl (lv_at hl 0 rfl) ?_
      refine va_get (D := (dC, dI)) (ci := 8) (v := .int (S6.1 4104 0)) (C := RX8) (T := TX8) (N := 9) hx hb hts hin8 hown hK hP 31 rfl rfl 4 (by decide) (hts _ lk42_8) (fun _ h9 => h9) rfl dX8_passNumber_6 ?_
      refine lv_aload_n hx hb dX8_passNumber_9 rfl (lv_at hl 0 rfl) ?_
      refine va_get (D := (dC, dI)) (ci := 8) (v := .int (S6.1 4103 0)) (C := RX8) (T := TX8) (N := 9) hx hb hts hin8 hown hK hP 31 rfl rfl 3 (by decide) (hts _ lk39_8) (fun _ h9 => h9) rfl dX8_passNumber_10 ?_
      refine lv_icmp_ge (tgt := 81) hx hb dX8_passNumber_13 (by decide) (fun c15 => ?_) (fun c15 => ?_)
      · have hf := (if_pos c15).symm.trans hf
        exact K5 S6 _ _ _ _ _ _ (lp_x (k := (fun s => k_X8_passNumber_31_5 s)) (lp_r hf hq5) hz5) hP hD hG hS (lv_sub hl [0] rfl)
      · have hf := (if_neg c15).symm.trans hf
        refine lv_aload_n hx hb dX8_passNumber_16 rfl (lv_at hl 0 rfl) ?_
        refine va_get (D := (dC, dI)) (ci := 8) (v := .ref (h 8)) (C := RX8) (T := TX8) (N := 9) hx hb hts hin8 hown hK hP 31 rfl rfl 2 (by decide) (hts _ lk28_8) (fun _ h9 => h9) rfl dX8_passNumber_17 ?_
        refine lv_aload_n hx hb dX8_passNumber_20 rfl (lv_at hl 0 rfl) ?_
        refine va_get (D := (dC, dI)) (ci := 8) (v := .int (S6.1 4104 0)) (C := RX8) (T := TX8) (N := 9) hx hb hts hin8 hown hK hP 31 rfl rfl 4 (by decide) (hts _ lk42_8) (fun _ h9 => h9) rfl dX8_passNumber_21 ?_
        obtain ⟨x7, hix7, ex7, hf⟩ := rd_b hf
        refine va_iald hx hb hK hP 8 0 rfl rfl hix7 dX8_passNumber_24 (kI ex7 ?_)
        obtain ⟨r8, er8, hf⟩ := bd hf
        refine klXi (rest := []) (As := [.int x7]) ⟨hx, hb, hml, hown, hts⟩ (c_X8_isFigure l H.size x7 r8 er8) (fun _ _ _ _ _ => trivial) (fun _ _ _ => trivial) (va_cwS 1 hts gX8_passNumber_X8_isFigure rfl rfl rfl (by decide +kernel) ⟨Nat.le_of_ble_eq_true rfl, Nat.le_of_ble_eq_true rfl⟩) rfl hl.1 rfl (Nat.le_of_ble_eq_true rfl) dX8_passNumber_25 ⟨Nat.zero_le _, Nat.zero_le _⟩ hS hA (fun H2 locs hk hS => ?_)
        have hP := kpP hP hk
        generalize H2 = H at hP hS ⊢
        refine lv_if_eq (tgt := 81) hx hb dX8_passNumber_28 (by decide) (fun c14 => ?_) (fun c14 => ?_)
        · have hf := (if_pos c14).symm.trans hf
          exact K5 S6 _ _ _ _ _ _ (lp_x (k := (fun s => k_X8_passNumber_31_5 s)) (lp_r hf hq5) hz5) hP hD hG hS (lv_sub hl [0] rfl)
        · have hf := (if_neg c14).symm.trans hf
          refine lv_aload_n hx hb dX8_passNumber_31 rfl (lv_at hl 0 rfl) ?_
          refine va_get (D := (dC, dI)) (ci := 8) (v := .int (S6.1 4104 0)) (C := RX8) (T := TX8) (N := 9) hx hb hts hin8 hown hK hP 31 rfl rfl 4 (by decide) (hts _ lk42_8) (fun _ h9 => h9) rfl dX8_passNumber_32 ?_
          refine lv_aload_n hx hb dX8_passNumber_35 rfl (lv_at hl 0 rfl) ?_
          refine va_get (D := (dC, dI)) (ci := 8) (v := .int (S6.1 4106 0)) (C := RX8) (T := TX8) (N := 9) hx hb hts hin8 hown hK hP 31 rfl rfl 6 (by decide) (hts _ lk72_8) (fun _ h9 => h9) rfl dX8_passNumber_36 ?_
          refine lv_isub hx hb dX8_passNumber_39 ?_
          refine lv_iconst (v := 3) hx hb dX8_passNumber_40 (by decide) ?_
          refine lv_icmp_ge (tgt := 68) hx hb dX8_passNumber_41 (by decide) (fun c13 => ?_) (fun c13 => ?_)
          · have hf := (if_pos c13).symm.trans hf
            refine lv_aload_n hx hb dX8_passNumber_68 rfl (lv_at hl 0 rfl) ?_
            refine lv_dup hx hb dX8_passNumber_69 rfl ?_
            refine va_get (D := (dC, dI)) (ci := 8) (v := .int (S6.1 4104 0)) (C := RX8) (T := TX8) (N := 9) hx hb hts hin8 hown hK hP 31 rfl rfl 4 (by decide) (hts _ lk42_8) (fun _ h9 => h9) rfl dX8_passNumber_70 ?_
            refine lv_iconst (v := 1) hx hb dX8_passNumber_73 (by decide) ?_
            refine lv_iadd hx hb dX8_passNumber_74 ?_
            obtain ⟨S9, eS9, hf⟩ := bn hf
            refine va_put (D := (dC, dI)) (ci := 8) (v := .int ((S6.1 4104 0) + 1)) (ty := .int) (C := RX8) (T := TX8) (N := 9) hx hb hts hin8 tyX8 tyX8_ok nmX8 hown hK hP hD hS 31 rfl rfl 4 (by decide) (hts _ lk42_8) (fun _ h9 => h9) rfl (by decide +kernel) rfl rfl (Nat.le_of_ble_eq_true rfl) dX8_passNumber_75 (fun H locs hP hD hS => ?_)
            have hP : va_P (dC, dI) vwCl (wC t h (h 8) g S9 ++ va_pl LP pf) H := by rw [eS9]; exact hP
            have hD : va_D A (wC t h (h 8) g S9 ++ va_pl LP pf) := by rw [eS9]; exact hD
            have hG : rlC g LP pf S9 := by rw [eS9]; exact hG
            refine lv_goto (tgt := 5) hx hb dX8_passNumber_78 (by decide) ?_
            exact ih5 S9 _ _ _ _ _ _ (lp_l hf hq5) hP hD hG hS (lv_sub hl [0] rfl)
          · have hf := (if_neg c13).symm.trans hf
            refine lv_aload_n hx hb dX8_passNumber_44 rfl (lv_at hl 0 rfl) ?_
            refine lv_bipush (v := 10) hx hb dX8_passNumber_45 (by decide) ?_
            refine lv_aload_n hx hb dX8_passNumber_47 rfl (lv_at hl 0 rfl) ?_
            refine va_get (D := (dC, dI)) (ci := 8) (v := .int (S6.1 4107 0)) (C := RX8) (T := TX8) (N := 9) hx hb hts hin8 hown hK hP 31 rfl rfl 7 (by decide) (hts _ lk78_8) (fun _ h9 => h9) rfl dX8_passNumber_48 ?_
            refine lv_imul hx hb dX8_passNumber_51 ?_
            refine lv_aload_n hx hb dX8_passNumber_52 rfl (lv_at hl 0 rfl) ?_
            refine va_get (D := (dC, dI)) (ci := 8) (v := .ref (h 8)) (C := RX8) (T := TX8) (N := 9) hx hb hts hin8 hown hK hP 31 rfl rfl 2 (by decide) (hts _ lk28_8) (fun _ h9 => h9) rfl dX8_passNumber_53 ?_
            refine lv_aload_n hx hb dX8_passNumber_56 rfl (lv_at hl 0 rfl) ?_
            refine va_get (D := (dC, dI)) (ci := 8) (v := .int (S6.1 4104 0)) (C := RX8) (T := TX8) (N := 9) hx hb hts hin8 hown hK hP 31 rfl rfl 4 (by decide) (hts _ lk42_8) (fun _ h9 => h9) rfl dX8_passNumber_57 ?_
            obtain ⟨x10, hix10, ex10, hf⟩ := rd_b hf
            refine va_iald hx hb hK hP 8 0 rfl rfl hix10 dX8_passNumber_60 (kI ex10 ?_)
            refine lv_iadd hx hb dX8_passNumber_61 ?_
            refine lv_bipush (v := 48) hx hb dX8_passNumber_62 (by decide) ?_
            refine lv_isub hx hb dX8_passNumber_64 ?_
            obtain ⟨S11, eS11, hf⟩ := bn hf
            refine va_put (D := (dC, dI)) (ci := 8) (v := .int (((10 * (S6.1 4107 0)) + x10) - 48)) (ty := .int) (C := RX8) (T := TX8) (N := 9) hx hb hts hin8 tyX8 tyX8_ok nmX8 hown hK hP hD hS 31 rfl rfl 7 (by decide) (hts _ lk78_8) (fun _ h9 => h9) rfl (by decide +kernel) rfl rfl (Nat.le_of_ble_eq_true rfl) dX8_passNumber_65 (fun H locs hP hD hS => ?_)
            have hP : va_P (dC, dI) vwCl (wC t h (h 8) g S11 ++ va_pl LP pf) H := by rw [eS11]; exact hP
            have hD : va_D A (wC t h (h 8) g S11 ++ va_pl LP pf) := by rw [eS11]; exact hD
            have hG : rlC g LP pf S11 := by rw [eS11]; exact hG
            refine lv_aload_n hx hb dX8_passNumber_68 rfl (lv_at hl 0 rfl) ?_
            refine lv_dup hx hb dX8_passNumber_69 rfl ?_
            refine va_get (D := (dC, dI)) (ci := 8) (v := .int (S11.1 4104 0)) (C := RX8) (T := TX8) (N := 9) hx hb hts hin8 hown hK hP 31 rfl rfl 4 (by decide) (hts _ lk42_8) (fun _ h9 => h9) rfl dX8_passNumber_70 ?_
            refine lv_iconst (v := 1) hx hb dX8_passNumber_73 (by decide) ?_
            refine lv_iadd hx hb dX8_passNumber_74 ?_
            obtain ⟨S12, eS12, hf⟩ := bn hf
            refine va_put (D := (dC, dI)) (ci := 8) (v := .int ((S11.1 4104 0) + 1)) (ty := .int) (C := RX8) (T := TX8) (N := 9) hx hb hts hin8 tyX8 tyX8_ok nmX8 hown hK hP hD hS 31 rfl rfl 4 (by decide) (hts _ lk42_8) (fun _ h9 => h9) rfl (by decide +kernel) rfl rfl (Nat.le_of_ble_eq_true rfl) dX8_passNumber_75 (fun H locs hP hD hS => ?_)
            have hP : va_P (dC, dI) vwCl (wC t h (h 8) g S12 ++ va_pl LP pf) H := by rw [eS12]; exact hP
            have hD : va_D A (wC t h (h 8) g S12 ++ va_pl LP pf) := by rw [eS12]; exact hD
            have hG : rlC g LP pf S12 := by rw [eS12]; exact hG
            refine lv_goto (tgt := 5) hx hb dX8_passNumber_78 (by decide) ?_
            exact ih5 S12 _ _ _ _ _ _ (lp_l hf hq5) hP hD hG hS (lv_sub hl [0] rfl)
  exact L5 FU S1 _ _ _ _ _ _ ez5 hP hD hG hS (lv_sub hl [0] rfl)

def f_X8_isLetter (p0 : Int32) : Option Int32 :=
  (if p0 < 97 then (some 0) else ((if 122 < p0 then (some 0) else (some 1))))
def rmX8_isLetter : Room := { frames := 0, cells := 0, slots := 0, locals := 0 }
abbrev RRX8_isLetter : Room := (headSpec wsX8_isLetter rmX8_isLetter).room
set_option maxHeartbeats 4000000 in
set_option maxRecDepth 100000 in
theorem c_X8_isLetter (l : Launch) (sz : Nat) (p0 : Int32) (r : Int32) (hf : f_X8_isLetter p0 = some r) : cXi l yX8_isLetter wsX8_isLetter rmX8_isLetter sz [.int p0] (fun _ => True) r := by
  refine Met.ofW (cc := cX8_isLetter) (maxL := 1) (ret := (some .boolean)) (by decide) rfl ?_
  intro p e s m args below meth c s₁ B hml hv
  obtain ⟨hargs, hsz, hXX⟩ := hv
  have hx := B.exec
  have hb := B.bytes
  have hr := B.returns
  have hts := atoms_spec (ws := wsX8_isLetter) B.pre
  have hown : s.vm.findClass RX8 = some m.cls := findClass_of_methodNamed B.named
  have hlocks := B.notSynchronized
  have hsz : s.heap.size = sz := hsz
  subst hsz
  obtain ⟨A, hAe⟩ : ∃ A : Nat → Prop, A = fun q => s.heap.size ≤ q := ⟨_, rfl⟩
  rw [← hAe]
  have hA : ∀ q : Nat, s.heap.size ≤ q → A q := fun q h => by rw [hAe]; exact h
  have hS : va_S A s.heap s.heap [] := va_S.rf
  have hl := lv_entry ([.int p0]) (n := 1) (Nat.le_of_ble_eq_true rfl)
  rw [show entryFrame m args 1 = entryFrame m ([.int p0] : List Value).toArray 1 from by rw [hargs], lg_entry_eq]
  generalize (lg_sl ([.int p0]) ++ List.replicate (1 - (lg_sl ([.int p0])).length) Slot.unset).toArray = ls at hl ⊢
  have hl : lv_has ls 1 [(0, .int p0)] := hl
  unfold f_X8_isLetter at hf
  refine lv_iload_n hx hb dX8_isLetter_0 rfl (lv_at hl 0 rfl) ?_
  refine lv_bipush (v := 97) hx hb dX8_isLetter_1 (by decide) ?_
  refine lv_icmp_lt (tgt := 16) hx hb dX8_isLetter_3 (by decide) (fun c2 => ?_) (fun c2 => ?_)
  · have hf := (if_pos c2).symm.trans hf
    refine lv_iconst (v := 0) hx hb dX8_isLetter_16 (by decide) ?_
    exact rtEz hx hb hr hlocks hS rfl hf dX8_isLetter_17
  · have hf := (if_neg c2).symm.trans hf
    refine lv_iload_n hx hb dX8_isLetter_6 rfl (lv_at hl 0 rfl) ?_
    refine lv_bipush (v := 122) hx hb dX8_isLetter_7 (by decide) ?_
    refine lv_icmp_gt (tgt := 16) hx hb dX8_isLetter_9 (by decide) (fun c1 => ?_) (fun c1 => ?_)
    · have hf := (if_pos c1).symm.trans hf
      refine lv_iconst (v := 0) hx hb dX8_isLetter_16 (by decide) ?_
      exact rtEz hx hb hr hlocks hS rfl hf dX8_isLetter_17
    · have hf := (if_neg c1).symm.trans hf
      refine lv_iconst (v := 1) hx hb dX8_isLetter_12 (by decide) ?_
      refine lv_goto (tgt := 17) hx hb dX8_isLetter_13 (by decide) ?_
      exact rtEz hx hb hr hlocks hS rfl hf dX8_isLetter_17

def k_X8_nextToken_31_85 (S16 : CS) : Option CS :=
  some S16
def b_X8_nextToken_31_85 (S17 : CS) : Option (CS ⊕ CS) :=
  (if (S17.1 4103 0) ≤ (S17.1 4104 0) then (some (Sum.inr S17)) else (Option.bind (rdI 200 (S17.1 8) (S17.1 4104 0)) (fun x18 => Option.bind (f_X8_isLetter x18) (fun r19 => (if r19 = 0 then (some (Sum.inr S17)) else (Option.bind (some (siI S17 4104 (fun _ => (S17.1 4104 0) + 1))) (fun S20 => some (Sum.inl S20))))))))
def k_X8_nextToken_31_0 (S1 : CS) : Option CS :=
  Option.bind (some (siI S1 4106 (fun _ => S1.1 4104 0))) (fun S2 => (if (S2.1 4104 0) < (S2.1 4103 0) then (Option.bind (rdI 200 (S2.1 8) (S2.1 4104 0)) (fun x3 => Option.bind (f_X8_isLetter x3) (fun r4 => (if r4 = 0 then (Option.bind (rdI 200 (S2.1 8) (S2.1 4104 0)) (fun x5 => Option.bind (f_X8_isFigure x5) (fun r6 => (if r6 = 0 then (Option.bind (rdI 200 (S2.1 8) (S2.1 4104 0)) (fun x7 => (if x7 = 59 then (Option.bind (some (siI S2 4105 (fun _ => 3))) (fun S10 => Option.bind (some (siI S10 4104 (fun _ => (S10.1 4104 0) + 1))) (fun S11 => some S11))) else (Option.bind (some (siI S2 4105 (fun _ => 4))) (fun S8 => Option.bind (some (siI S8 4104 (fun _ => (S8.1 4104 0) + 1))) (fun S9 => some S9)))))) else (Option.bind (f_X8_passNumber_31 S2) (fun S13 => some S13)))))) else (Option.bind (some (siI S2 4105 (fun _ => 1))) (fun S15 => Option.bind (lp (fun s => b_X8_nextToken_31_85 s) FU S15) (fun s => k_X8_nextToken_31_85 s))))))) else (Option.bind (some (siI S2 4105 (fun _ => 0))) (fun S24 => some S24))))
def b_X8_nextToken_31_0 (S26 : CS) : Option (CS ⊕ CS) :=
  (if (S26.1 4103 0) ≤ (S26.1 4104 0) then (some (Sum.inr S26)) else (Option.bind (rdI 200 (S26.1 8) (S26.1 4104 0)) (fun x27 => (if x27 = 32 then (Option.bind (some (siI S26 4104 (fun _ => (S26.1 4104 0) + 1))) (fun S28 => some (Sum.inl S28))) else (some (Sum.inr S26))))))
def f_X8_nextToken_31 (S : CS)  : Option CS :=
  Option.bind (lp (fun s => b_X8_nextToken_31_0 s) FU S) (fun s => k_X8_nextToken_31_0 s)
def rmX8_nextToken_31 : Room := { frames := 2, cells := 0, slots := 0, locals := 40 }
abbrev RRX8_nextToken_31 : Room := (headSpec wsX8_nextToken rmX8_nextToken_31).room
theorem in8_X8_nextToken_31 : ∀ w ∈ wsX80, w ∈ wsX8_nextToken := by decide +kernel
set_option maxHeartbeats 4000000 in
set_option maxRecDepth 100000 in
theorem c_X8_nextToken_31 (l : Launch) (dC : Nat → ClassId) (dI : Nat → Nat → Nat) (t : Nat → ClassId) (ts aK aV : Nat → Nat) (A : Nat → Prop) (h : Nat → Nat) (sz : Nat) (hA0 : ∀ q : Nat, sz ≤ q → A q) (S : CS)  (S' : CS) (hf : f_X8_nextToken_31 S = some S') : cCv l yX8_nextToken wsX8_nextToken rmX8_nextToken_31 dC dI t ts aK aV A h (h 8) (h 8) sz [.ref (h 31)] S S' := by
  refine Met.ofW (cc := cX8_nextToken) (maxL := 1) (ret := none) (by decide) rfl ?_
  intro p e s m args below meth c s₁ B hml hv
  obtain ⟨hargs, hsz, hE, hC, hK⟩ := hv
  have hx := B.exec
  have hb := B.bytes
  have hr := B.returns
  have hts := atoms_spec (ws := wsX8_nextToken) B.pre
  have hown : s.vm.findClass RX8 = some m.cls := findClass_of_methodNamed B.named
  have hlocks := B.notSynchronized
  have hsz : s.heap.size = sz := hsz
  subst hsz
  have hin8 := in8_X8_nextToken_31
  have lk28_8 : Cond.fieldLink RX8 28 (TX8 2).1 (TX8 2).2.1 (TX8 2).2.2.1 ∈ wsX8_nextToken := by decide +kernel
  have lk39_8 : Cond.fieldLink RX8 39 (TX8 3).1 (TX8 3).2.1 (TX8 3).2.2.1 ∈ wsX8_nextToken := by decide +kernel
  have lk42_8 : Cond.fieldLink RX8 42 (TX8 4).1 (TX8 4).2.1 (TX8 4).2.2.1 ∈ wsX8_nextToken := by decide +kernel
  have lk54_8 : Cond.fieldLink RX8 54 (TX8 5).1 (TX8 5).2.1 (TX8 5).2.2.1 ∈ wsX8_nextToken := by decide +kernel
  have lk72_8 : Cond.fieldLink RX8 72 (TX8 6).1 (TX8 6).2.1 (TX8 6).2.2.1 ∈ wsX8_nextToken := by decide +kernel
  have hA : ∀ q : Nat, s.heap.size ≤ q → A q := hA0
  obtain ⟨g, LP, pf, hP, hD, hG⟩ := hC
  have hS : va_S A s.heap s.heap [] := va_S.rf
  have hl := lv_entry ([.ref (h 31)]) (n := 1) (Nat.le_of_ble_eq_true rfl)
  rw [show entryFrame m args 1 = entryFrame m ([.ref (h 31)] : List Value).toArray 1 from by rw [hargs], lg_entry_eq]
  generalize (lg_sl ([.ref (h 31)]) ++ List.replicate (1 - (lg_sl ([.ref (h 31)])).length) Slot.unset).toArray = ls at hl ⊢
  have hl : lv_has ls 1 [(0, .ref (h 31))] := hl
  unfold f_X8_nextToken_31 at hf
  have K0 : ∀ (S1 : CS) (g : Nat → Nat → Option Nat) (LP : List Nat) (pf : Nat → va_E) (H : Heap) (locs : List Loc) (ls : Array Slot), k_X8_nextToken_31_0 S1 = some S' → va_P (dC, dI) vwCl (wC t h (h 8) g S1 ++ va_pl LP pf) H → va_D A (wC t h (h 8) g S1 ++ va_pl LP pf) → rlC g LP pf S1 → va_S A s.heap H locs → lv_has ls 1 [(0, .ref (h 31))] → W p l e RRX8_nextToken_31 s m args below meth c H locs 0 0 (MQ below (qcCv dC dI t A h (h 8) S') args s 0 0 A) (F0 m 38 ls []) := by
    intro S1 g LP pf H locs ls hf hP hD hG hS hl
    unfold k_X8_nextToken_31_0 at hf
    refine lv_aload_n hx hb dX8_nextToken_38 rfl (lv_at hl 0 rfl) ?_
    refine lv_aload_n hx hb dX8_nextToken_39 rfl (lv_at hl 0 rfl) ?_
    refine va_get (D := (dC, dI)) (ci := 8) (v := .int (S1.1 4104 0)) (C := RX8) (T := TX8) (N := 9) hx hb hts hin8 hown hK hP 31 rfl rfl 4 (by decide) (hts _ lk42_8) (fun _ h9 => h9) rfl dX8_nextToken_40 ?_
    obtain ⟨S2, eS2, hf⟩ := bn hf
    refine va_put (D := (dC, dI)) (ci := 8) (v := .int (S1.1 4104 0)) (ty := .int) (C := RX8) (T := TX8) (N := 9) hx hb hts hin8 tyX8 tyX8_ok nmX8 hown hK hP hD hS 31 rfl rfl 6 (by decide) (hts _ lk72_8) (fun _ h9 => h9) rfl (by decide +kernel) rfl rfl (Nat.le_of_ble_eq_true rfl) dX8_nextToken_43 (fun H locs hP hD hS => ?_)
    have hP : va_P (dC, dI) vwCl (wC t h (h 8) g S2 ++ va_pl LP pf) H := by rw [eS2]; exact hP
    have hD : va_D A (wC t h (h 8) g S2 ++ va_pl LP pf) := by rw [eS2]; exact hD
    have hG : rlC g LP pf S2 := by rw [eS2]; exact hG
    refine lv_aload_n hx hb dX8_nextToken_46 rfl (lv_at hl 0 rfl) ?_
    refine va_get (D := (dC, dI)) (ci := 8) (v := .int (S2.1 4104 0)) (C := RX8) (T := TX8) (N := 9) hx hb hts hin8 hown hK hP 31 rfl rfl 4 (by decide) (hts _ lk42_8) (fun _ h9 => h9) rfl dX8_nextToken_47 ?_
    refine lv_aload_n hx hb dX8_nextToken_50 rfl (lv_at hl 0 rfl) ?_
    refine va_get (D := (dC, dI)) (ci := 8) (v := .int (S2.1 4103 0)) (C := RX8) (T := TX8) (N := 9) hx hb hts hin8 hown hK hP 31 rfl rfl 3 (by decide) (hts _ lk39_8) (fun _ h9 => h9) rfl dX8_nextToken_51 ?_
    refine lv_icmp_lt (tgt := 65) hx hb dX8_nextToken_54 (by decide) (fun c25 => ?_) (fun c25 => ?_)
    · have hf := (if_pos c25).symm.trans hf
      refine lv_aload_n hx hb dX8_nextToken_65 rfl (lv_at hl 0 rfl) ?_
      refine va_get (D := (dC, dI)) (ci := 8) (v := .ref (h 8)) (C := RX8) (T := TX8) (N := 9) hx hb hts hin8 hown hK hP 31 rfl rfl 2 (by decide) (hts _ lk28_8) (fun _ h9 => h9) rfl dX8_nextToken_66 ?_
      refine lv_aload_n hx hb dX8_nextToken_69 rfl (lv_at hl 0 rfl) ?_
      refine va_get (D := (dC, dI)) (ci := 8) (v := .int (S2.1 4104 0)) (C := RX8) (T := TX8) (N := 9) hx hb hts hin8 hown hK hP 31 rfl rfl 4 (by decide) (hts _ lk42_8) (fun _ h9 => h9) rfl dX8_nextToken_70 ?_
      obtain ⟨x3, hix3, ex3, hf⟩ := rd_b hf
      refine va_iald hx hb hK hP 8 0 rfl rfl hix3 dX8_nextToken_73 (kI ex3 ?_)
      obtain ⟨r4, er4, hf⟩ := bd hf
      refine klXi (rest := []) (As := [.int x3]) ⟨hx, hb, hml, hown, hts⟩ (c_X8_isLetter l H.size x3 r4 er4) (fun _ _ _ _ _ => trivial) (fun _ _ _ => trivial) (va_cwS 1 hts gX8_nextToken_X8_isLetter rfl rfl rfl (by decide +kernel) ⟨Nat.le_of_ble_eq_true rfl, Nat.le_of_ble_eq_true rfl⟩) rfl hl.1 rfl (Nat.le_of_ble_eq_true rfl) dX8_nextToken_74 ⟨Nat.zero_le _, Nat.zero_le _⟩ hS hA (fun H2 locs hk hS => ?_)
      have hP := kpP hP hk
      generalize H2 = H at hP hS ⊢
      refine lv_if_eq (tgt := 124) hx hb dX8_nextToken_77 (by decide) (fun c23 => ?_) (fun c23 => ?_)
      · have hf := (if_pos c23).symm.trans hf
        refine lv_aload_n hx hb dX8_nextToken_124 rfl (lv_at hl 0 rfl) ?_
        refine va_get (D := (dC, dI)) (ci := 8) (v := .ref (h 8)) (C := RX8) (T := TX8) (N := 9) hx hb hts hin8 hown hK hP 31 rfl rfl 2 (by decide) (hts _ lk28_8) (fun _ h9 => h9) rfl dX8_nextToken_125 ?_
        refine lv_aload_n hx hb dX8_nextToken_128 rfl (lv_at hl 0 rfl) ?_
        refine va_get (D := (dC, dI)) (ci := 8) (v := .int (S2.1 4104 0)) (C := RX8) (T := TX8) (N := 9) hx hb hts hin8 hown hK hP 31 rfl rfl 4 (by decide) (hts _ lk42_8) (fun _ h9 => h9) rfl dX8_nextToken_129 ?_
        obtain ⟨x5, hix5, ex5, hf⟩ := rd_b hf
        refine va_iald hx hb hK hP 8 0 rfl rfl hix5 dX8_nextToken_132 (kI ex5 ?_)
        obtain ⟨r6, er6, hf⟩ := bd hf
        refine klXi (rest := []) (As := [.int x5]) ⟨hx, hb, hml, hown, hts⟩ (c_X8_isFigure l H.size x5 r6 er6) (fun _ _ _ _ _ => trivial) (fun _ _ _ => trivial) (va_cwS 1 hts gX8_nextToken_X8_isFigure rfl rfl rfl (by decide +kernel) ⟨Nat.le_of_ble_eq_true rfl, Nat.le_of_ble_eq_true rfl⟩) rfl hl.1 rfl (Nat.le_of_ble_eq_true rfl) dX8_nextToken_133 ⟨Nat.zero_le _, Nat.zero_le _⟩ hS hA (fun H2 locs hk hS => ?_)
        have hP := kpP hP hk
        generalize H2 = H at hP hS ⊢
        refine lv_if_eq (tgt := 146) hx hb dX8_nextToken_136 (by decide) (fun c14 => ?_) (fun c14 => ?_)
        · have hf := (if_pos c14).symm.trans hf
          refine lv_aload_n hx hb dX8_nextToken_146 rfl (lv_at hl 0 rfl) ?_
          refine lv_aload_n hx hb dX8_nextToken_147 rfl (lv_at hl 0 rfl) ?_
          refine va_get (D := (dC, dI)) (ci := 8) (v := .ref (h 8)) (C := RX8) (T := TX8) (N := 9) hx hb hts hin8 hown hK hP 31 rfl rfl 2 (by decide) (hts _ lk28_8) (fun _ h9 => h9) rfl dX8_nextToken_148 ?_
          refine lv_aload_n hx hb dX8_nextToken_151 rfl (lv_at hl 0 rfl) ?_
          refine va_get (D := (dC, dI)) (ci := 8) (v := .int (S2.1 4104 0)) (C := RX8) (T := TX8) (N := 9) hx hb hts hin8 hown hK hP 31 rfl rfl 4 (by decide) (hts _ lk42_8) (fun _ h9 => h9) rfl dX8_nextToken_152 ?_
          obtain ⟨x7, hix7, ex7, hf⟩ := rd_b hf
          refine va_iald hx hb hK hP 8 0 rfl rfl hix7 dX8_nextToken_155 (kI ex7 ?_)
          refine lv_bipush (v := 59) hx hb dX8_nextToken_156 (by decide) ?_
          refine lv_icmp_ne (tgt := 165) hx hb dX8_nextToken_158 (by decide) (fun c12 => ?_) (fun c12 => ?_)
          · have hf := (if_neg c12).symm.trans hf
            refine lv_iconst (v := 4) hx hb dX8_nextToken_165 (by decide) ?_
            obtain ⟨S8, eS8, hf⟩ := bn hf
            refine va_put (D := (dC, dI)) (ci := 8) (v := .int 4) (ty := .int) (C := RX8) (T := TX8) (N := 9) hx hb hts hin8 tyX8 tyX8_ok nmX8 hown hK hP hD hS 31 rfl rfl 5 (by decide) (hts _ lk54_8) (fun _ h9 => h9) rfl (by decide +kernel) rfl rfl (Nat.le_of_ble_eq_true rfl) dX8_nextToken_166 (fun H locs hP hD hS => ?_)
            have hP : va_P (dC, dI) vwCl (wC t h (h 8) g S8 ++ va_pl LP pf) H := by rw [eS8]; exact hP
            have hD : va_D A (wC t h (h 8) g S8 ++ va_pl LP pf) := by rw [eS8]; exact hD
            have hG : rlC g LP pf S8 := by rw [eS8]; exact hG
            refine lv_aload_n hx hb dX8_nextToken_169 rfl (lv_at hl 0 rfl) ?_
            refine lv_dup hx hb dX8_nextToken_170 rfl ?_
            refine va_get (D := (dC, dI)) (ci := 8) (v := .int (S8.1 4104 0)) (C := RX8) (T := TX8) (N := 9) hx hb hts hin8 hown hK hP 31 rfl rfl 4 (by decide) (hts _ lk42_8) (fun _ h9 => h9) rfl dX8_nextToken_171 ?_
            refine lv_iconst (v := 1) hx hb dX8_nextToken_174 (by decide) ?_
            refine lv_iadd hx hb dX8_nextToken_175 ?_
            obtain ⟨S9, eS9, hf⟩ := bn hf
            refine va_put (D := (dC, dI)) (ci := 8) (v := .int ((S8.1 4104 0) + 1)) (ty := .int) (C := RX8) (T := TX8) (N := 9) hx hb hts hin8 tyX8 tyX8_ok nmX8 hown hK hP hD hS 31 rfl rfl 4 (by decide) (hts _ lk42_8) (fun _ h9 => h9) rfl (by decide +kernel) rfl rfl (Nat.le_of_ble_eq_true rfl) dX8_nextToken_176 (fun H locs hP hD hS => ?_)
            have hP : va_P (dC, dI) vwCl (wC t h (h 8) g S9 ++ va_pl LP pf) H := by rw [eS9]; exact hP
            have hD : va_D A (wC t h (h 8) g S9 ++ va_pl LP pf) := by rw [eS9]; exact hD
            have hG : rlC g LP pf S9 := by rw [eS9]; exact hG
            exact rtCv hx hb hr hlocks ⟨g, LP, pf, hP, hD, hG⟩ hS hf dX8_nextToken_179
          · have hf := (if_pos c12).symm.trans hf
            refine lv_iconst (v := 3) hx hb dX8_nextToken_161 (by decide) ?_
            refine lv_goto (tgt := 166) hx hb dX8_nextToken_162 (by decide) ?_
            obtain ⟨S10, eS10, hf⟩ := bn hf
            refine va_put (D := (dC, dI)) (ci := 8) (v := .int 3) (ty := .int) (C := RX8) (T := TX8) (N := 9) hx hb hts hin8 tyX8 tyX8_ok nmX8 hown hK hP hD hS 31 rfl rfl 5 (by decide) (hts _ lk54_8) (fun _ h9 => h9) rfl (by decide +kernel) rfl rfl (Nat.le_of_ble_eq_true rfl) dX8_nextToken_166 (fun H locs hP hD hS => ?_)
            have hP : va_P (dC, dI) vwCl (wC t h (h 8) g S10 ++ va_pl LP pf) H := by rw [eS10]; exact hP
            have hD : va_D A (wC t h (h 8) g S10 ++ va_pl LP pf) := by rw [eS10]; exact hD
            have hG : rlC g LP pf S10 := by rw [eS10]; exact hG
            refine lv_aload_n hx hb dX8_nextToken_169 rfl (lv_at hl 0 rfl) ?_
            refine lv_dup hx hb dX8_nextToken_170 rfl ?_
            refine va_get (D := (dC, dI)) (ci := 8) (v := .int (S10.1 4104 0)) (C := RX8) (T := TX8) (N := 9) hx hb hts hin8 hown hK hP 31 rfl rfl 4 (by decide) (hts _ lk42_8) (fun _ h9 => h9) rfl dX8_nextToken_171 ?_
            refine lv_iconst (v := 1) hx hb dX8_nextToken_174 (by decide) ?_
            refine lv_iadd hx hb dX8_nextToken_175 ?_
            obtain ⟨S11, eS11, hf⟩ := bn hf
            refine va_put (D := (dC, dI)) (ci := 8) (v := .int ((S10.1 4104 0) + 1)) (ty := .int) (C := RX8) (T := TX8) (N := 9) hx hb hts hin8 tyX8 tyX8_ok nmX8 hown hK hP hD hS 31 rfl rfl 4 (by decide) (hts _ lk42_8) (fun _ h9 => h9) rfl (by decide +kernel) rfl rfl (Nat.le_of_ble_eq_true rfl) dX8_nextToken_176 (fun H locs hP hD hS => ?_)
            have hP : va_P (dC, dI) vwCl (wC t h (h 8) g S11 ++ va_pl LP pf) H := by rw [eS11]; exact hP
            have hD : va_D A (wC t h (h 8) g S11 ++ va_pl LP pf) := by rw [eS11]; exact hD
            have hG : rlC g LP pf S11 := by rw [eS11]; exact hG
            exact rtCv hx hb hr hlocks ⟨g, LP, pf, hP, hD, hG⟩ hS hf dX8_nextToken_179
        · have hf := (if_neg c14).symm.trans hf
          refine lv_aload_n hx hb dX8_nextToken_139 rfl (lv_at hl 0 rfl) ?_
          obtain ⟨S13, eS13, hf⟩ := bd hf
          refine klCv (rest := []) (As := []) ⟨hx, hb, hml, hown, hts⟩ (c_X8_passNumber_31 l dC dI t ts aK aV A h H.size (fun q hq => hA q (Nat.le_trans hS.1 hq)) S2 S13 eS13) (cwV 0 hts gX8_nextToken_X8_passNumber rfl rfl rfl (by decide +kernel) ⟨Nat.le_of_ble_eq_true rfl, Nat.le_of_ble_eq_true rfl⟩) (va_recv hK hP (ci := 8) (q0 := 31) rfl rfl) rfl hl.1 rfl (Nat.le_of_ble_eq_true rfl) dX8_nextToken_140 ⟨Nat.zero_le _, Nat.zero_le _⟩ hE hK ⟨g, LP, pf, hP, hD, hG⟩ hS (fun H locs hC hS => ?_)
          obtain ⟨g, LP, pf, hP, hD, hG⟩ := hC
          refine lv_goto (tgt := 179) hx hb dX8_nextToken_143 (by decide) ?_
          exact rtCv hx hb hr hlocks ⟨g, LP, pf, hP, hD, hG⟩ hS hf dX8_nextToken_179
      · have hf := (if_neg c23).symm.trans hf
        refine lv_aload_n hx hb dX8_nextToken_80 rfl (lv_at hl 0 rfl) ?_
        refine lv_iconst (v := 1) hx hb dX8_nextToken_81 (by decide) ?_
        obtain ⟨S15, eS15, hf⟩ := bn hf
        refine va_put (D := (dC, dI)) (ci := 8) (v := .int 1) (ty := .int) (C := RX8) (T := TX8) (N := 9) hx hb hts hin8 tyX8 tyX8_ok nmX8 hown hK hP hD hS 31 rfl rfl 5 (by decide) (hts _ lk54_8) (fun _ h9 => h9) rfl (by decide +kernel) rfl rfl (Nat.le_of_ble_eq_true rfl) dX8_nextToken_82 (fun H locs hP hD hS => ?_)
        have hP : va_P (dC, dI) vwCl (wC t h (h 8) g S15 ++ va_pl LP pf) H := by rw [eS15]; exact hP
        have hD : va_D A (wC t h (h 8) g S15 ++ va_pl LP pf) := by rw [eS15]; exact hD
        have hG : rlC g LP pf S15 := by rw [eS15]; exact hG
        have K85 : ∀ (S16 : CS) (g : Nat → Nat → Option Nat) (LP : List Nat) (pf : Nat → va_E) (H : Heap) (locs : List Loc) (ls : Array Slot), k_X8_nextToken_31_85 S16 = some S' → va_P (dC, dI) vwCl (wC t h (h 8) g S16 ++ va_pl LP pf) H → va_D A (wC t h (h 8) g S16 ++ va_pl LP pf) → rlC g LP pf S16 → va_S A s.heap H locs → lv_has ls 1 [] → W p l e RRX8_nextToken_31 s m args below meth c H locs 0 0 (MQ below (qcCv dC dI t A h (h 8) S') args s 0 0 A) (F0 m 179 ls []) := by
          intro S16 g LP pf H locs ls hf hP hD hG hS hl
          unfold k_X8_nextToken_31_85 at hf
          exact rtCv hx hb hr hlocks ⟨g, LP, pf, hP, hD, hG⟩ hS hf dX8_nextToken_179
        obtain ⟨z85, ez85, hz85⟩ := bd hf
        have L85 : ∀ (n : Nat) (S17 : CS) (g : Nat → Nat → Option Nat) (LP : List Nat) (pf : Nat → va_E) (H : Heap) (locs : List Loc) (ls : Array Slot), lp (fun s => b_X8_nextToken_31_85 s) n S17 = some z85 → va_P (dC, dI) vwCl (wC t h (h 8) g S17 ++ va_pl LP pf) H → va_D A (wC t h (h 8) g S17 ++ va_pl LP pf) → rlC g LP pf S17 → va_S A s.heap H locs → lv_has ls 1 [(0, .ref (h 31))] → W p l e RRX8_nextToken_31 s m args below meth c H locs 0 0 (MQ below (qcCv dC dI t A h (h 8) S') args s 0 0 A) (F0 m 85 ls []) := by
          intro n
          induction n with
          | zero => intro S17 g LP pf H locs ls hf; exact lp_z hf
          | succ n ih85 =>
            intro S17 g LP pf H locs ls hf hP hD hG hS hl
            obtain ⟨q85, hf, hq85⟩ := lp_i hf
            have hf : b_X8_nextToken_31_85 S17 = some q85 := hf
            unfold b_X8_nextToken_31_85 at hf
            refine lv_aload_n hx hb dX8_nextToken_85 rfl (lv_at hl 0 rfl) ?_
            refine va_get (D := (dC, dI)) (ci := 8) (v := .int (S17.1 4104 0)) (C := RX8) (T := TX8) (N := 9) hx hb hts hin8 hown hK hP 31 rfl rfl 4 (by decide) (hts _ lk42_8) (fun _ h9 => h9) rfl dX8_nextToken_86 ?_
            refine lv_aload_n hx hb dX8_nextToken_89 rfl (lv_at hl 0 rfl) ?_
            refine va_get (D := (dC, dI)) (ci := 8) (v := .int (S17.1 4103 0)) (C := RX8) (T := TX8) (N := 9) hx hb hts hin8 hown hK hP 31 rfl rfl 3 (by decide) (hts _ lk39_8) (fun _ h9 => h9) rfl dX8_nextToken_90 ?_
            refine lv_icmp_ge (tgt := 179) hx hb dX8_nextToken_93 (by decide) (fun c22 => ?_) (fun c22 => ?_)
            · have hf := (if_pos c22).symm.trans hf
              exact K85 S17 _ _ _ _ _ _ (lp_x (k := (fun s => k_X8_nextToken_31_85 s)) (lp_r hf hq85) hz85) hP hD hG hS (lv_sub hl [] rfl)
            · have hf := (if_neg c22).symm.trans hf
              refine lv_aload_n hx hb dX8_nextToken_96 rfl (lv_at hl 0 rfl) ?_
              refine va_get (D := (dC, dI)) (ci := 8) (v := .ref (h 8)) (C := RX8) (T := TX8) (N := 9) hx hb hts hin8 hown hK hP 31 rfl rfl 2 (by decide) (hts _ lk28_8) (fun _ h9 => h9) rfl dX8_nextToken_97 ?_
              refine lv_aload_n hx hb dX8_nextToken_100 rfl (lv_at hl 0 rfl) ?_
              refine va_get (D := (dC, dI)) (ci := 8) (v := .int (S17.1 4104 0)) (C := RX8) (T := TX8) (N := 9) hx hb hts hin8 hown hK hP 31 rfl rfl 4 (by decide) (hts _ lk42_8) (fun _ h9 => h9) rfl dX8_nextToken_101 ?_
              obtain ⟨x18, hix18, ex18, hf⟩ := rd_b hf
              refine va_iald hx hb hK hP 8 0 rfl rfl hix18 dX8_nextToken_104 (kI ex18 ?_)
              obtain ⟨r19, er19, hf⟩ := bd hf
              refine klXi (rest := []) (As := [.int x18]) ⟨hx, hb, hml, hown, hts⟩ (c_X8_isLetter l H.size x18 r19 er19) (fun _ _ _ _ _ => trivial) (fun _ _ _ => trivial) (va_cwS 1 hts gX8_nextToken_X8_isLetter rfl rfl rfl (by decide +kernel) ⟨Nat.le_of_ble_eq_true rfl, Nat.le_of_ble_eq_true rfl⟩) rfl hl.1 rfl (Nat.le_of_ble_eq_true rfl) dX8_nextToken_105 ⟨Nat.zero_le _, Nat.zero_le _⟩ hS hA (fun H2 locs hk hS => ?_)
              have hP := kpP hP hk
              generalize H2 = H at hP hS ⊢
              refine lv_if_eq (tgt := 179) hx hb dX8_nextToken_108 (by decide) (fun c21 => ?_) (fun c21 => ?_)
              · have hf := (if_pos c21).symm.trans hf
                exact K85 S17 _ _ _ _ _ _ (lp_x (k := (fun s => k_X8_nextToken_31_85 s)) (lp_r hf hq85) hz85) hP hD hG hS (lv_sub hl [] rfl)
              · have hf := (if_neg c21).symm.trans hf
                refine lv_aload_n hx hb dX8_nextToken_111 rfl (lv_at hl 0 rfl) ?_
                refine lv_dup hx hb dX8_nextToken_112 rfl ?_
                refine va_get (D := (dC, dI)) (ci := 8) (v := .int (S17.1 4104 0)) (C := RX8) (T := TX8) (N := 9) hx hb hts hin8 hown hK hP 31 rfl rfl 4 (by decide) (hts _ lk42_8) (fun _ h9 => h9) rfl dX8_nextToken_113 ?_
                refine lv_iconst (v := 1) hx hb dX8_nextToken_116 (by decide) ?_
                refine lv_iadd hx hb dX8_nextToken_117 ?_
                obtain ⟨S20, eS20, hf⟩ := bn hf
                refine va_put (D := (dC, dI)) (ci := 8) (v := .int ((S17.1 4104 0) + 1)) (ty := .int) (C := RX8) (T := TX8) (N := 9) hx hb hts hin8 tyX8 tyX8_ok nmX8 hown hK hP hD hS 31 rfl rfl 4 (by decide) (hts _ lk42_8) (fun _ h9 => h9) rfl (by decide +kernel) rfl rfl (Nat.le_of_ble_eq_true rfl) dX8_nextToken_118 (fun H locs hP hD hS => ?_)
                have hP : va_P (dC, dI) vwCl (wC t h (h 8) g S20 ++ va_pl LP pf) H := by rw [eS20]; exact hP
                have hD : va_D A (wC t h (h 8) g S20 ++ va_pl LP pf) := by rw [eS20]; exact hD
                have hG : rlC g LP pf S20 := by rw [eS20]; exact hG
                refine lv_goto (tgt := 85) hx hb dX8_nextToken_121 (by decide) ?_
                exact ih85 S20 _ _ _ _ _ _ (lp_l hf hq85) hP hD hG hS (lv_sub hl [0] rfl)
        exact L85 FU S15 _ _ _ _ _ _ ez85 hP hD hG hS (lv_sub hl [0] rfl)
    · have hf := (if_neg c25).symm.trans hf
      refine lv_aload_n hx hb dX8_nextToken_57 rfl (lv_at hl 0 rfl) ?_
      refine lv_iconst (v := 0) hx hb dX8_nextToken_58 (by decide) ?_
      obtain ⟨S24, eS24, hf⟩ := bn hf
      refine va_put (D := (dC, dI)) (ci := 8) (v := .int 0) (ty := .int) (C := RX8) (T := TX8) (N := 9) hx hb hts hin8 tyX8 tyX8_ok nmX8 hown hK hP hD hS 31 rfl rfl 5 (by decide) (hts _ lk54_8) (fun _ h9 => h9) rfl (by decide +kernel) rfl rfl (Nat.le_of_ble_eq_true rfl) dX8_nextToken_59 (fun H locs hP hD hS => ?_)
      have hP : va_P (dC, dI) vwCl (wC t h (h 8) g S24 ++ va_pl LP pf) H := by rw [eS24]; exact hP
      have hD : va_D A (wC t h (h 8) g S24 ++ va_pl LP pf) := by rw [eS24]; exact hD
      have hG : rlC g LP pf S24 := by rw [eS24]; exact hG
      refine lv_goto (tgt := 179) hx hb dX8_nextToken_62 (by decide) ?_
      exact rtCv hx hb hr hlocks ⟨g, LP, pf, hP, hD, hG⟩ hS hf dX8_nextToken_179
  obtain ⟨z0, ez0, hz0⟩ := bd hf
  have L0 : ∀ (n : Nat) (S26 : CS) (g : Nat → Nat → Option Nat) (LP : List Nat) (pf : Nat → va_E) (H : Heap) (locs : List Loc) (ls : Array Slot), lp (fun s => b_X8_nextToken_31_0 s) n S26 = some z0 → va_P (dC, dI) vwCl (wC t h (h 8) g S26 ++ va_pl LP pf) H → va_D A (wC t h (h 8) g S26 ++ va_pl LP pf) → rlC g LP pf S26 → va_S A s.heap H locs → lv_has ls 1 [(0, .ref (h 31))] → W p l e RRX8_nextToken_31 s m args below meth c H locs 0 0 (MQ below (qcCv dC dI t A h (h 8) S') args s 0 0 A) (F0 m 0 ls []) := by
    intro n
    induction n with
    | zero => intro S26 g LP pf H locs ls hf; exact lp_z hf
    | succ n ih0 =>
      intro S26 g LP pf H locs ls hf hP hD hG hS hl
      obtain ⟨q0, hf, hq0⟩ := lp_i hf
      have hf : b_X8_nextToken_31_0 S26 = some q0 := hf
      unfold b_X8_nextToken_31_0 at hf
      refine lv_aload_n hx hb dX8_nextToken_0 rfl (lv_at hl 0 rfl) ?_
      refine va_get (D := (dC, dI)) (ci := 8) (v := .int (S26.1 4104 0)) (C := RX8) (T := TX8) (N := 9) hx hb hts hin8 hown hK hP 31 rfl rfl 4 (by decide) (hts _ lk42_8) (fun _ h9 => h9) rfl dX8_nextToken_1 ?_
      refine lv_aload_n hx hb dX8_nextToken_4 rfl (lv_at hl 0 rfl) ?_
      refine va_get (D := (dC, dI)) (ci := 8) (v := .int (S26.1 4103 0)) (C := RX8) (T := TX8) (N := 9) hx hb hts hin8 hown hK hP 31 rfl rfl 3 (by decide) (hts _ lk39_8) (fun _ h9 => h9) rfl dX8_nextToken_5 ?_
      refine lv_icmp_ge (tgt := 38) hx hb dX8_nextToken_8 (by decide) (fun c30 => ?_) (fun c30 => ?_)
      · have hf := (if_pos c30).symm.trans hf
        exact K0 S26 _ _ _ _ _ _ (lp_x (k := (fun s => k_X8_nextToken_31_0 s)) (lp_r hf hq0) hz0) hP hD hG hS (lv_sub hl [0] rfl)
      · have hf := (if_neg c30).symm.trans hf
        refine lv_aload_n hx hb dX8_nextToken_11 rfl (lv_at hl 0 rfl) ?_
        refine va_get (D := (dC, dI)) (ci := 8) (v := .ref (h 8)) (C := RX8) (T := TX8) (N := 9) hx hb hts hin8 hown hK hP 31 rfl rfl 2 (by decide) (hts _ lk28_8) (fun _ h9 => h9) rfl dX8_nextToken_12 ?_
        refine lv_aload_n hx hb dX8_nextToken_15 rfl (lv_at hl 0 rfl) ?_
        refine va_get (D := (dC, dI)) (ci := 8) (v := .int (S26.1 4104 0)) (C := RX8) (T := TX8) (N := 9) hx hb hts hin8 hown hK hP 31 rfl rfl 4 (by decide) (hts _ lk42_8) (fun _ h9 => h9) rfl dX8_nextToken_16 ?_
        obtain ⟨x27, hix27, ex27, hf⟩ := rd_b hf
        refine va_iald hx hb hK hP 8 0 rfl rfl hix27 dX8_nextToken_19 (kI ex27 ?_)
        refine lv_bipush (v := 32) hx hb dX8_nextToken_20 (by decide) ?_
        refine lv_icmp_ne (tgt := 38) hx hb dX8_nextToken_22 (by decide) (fun c29 => ?_) (fun c29 => ?_)
        · have hf := (if_neg c29).symm.trans hf
          exact K0 S26 _ _ _ _ _ _ (lp_x (k := (fun s => k_X8_nextToken_31_0 s)) (lp_r hf hq0) hz0) hP hD hG hS (lv_sub hl [0] rfl)
        · have hf := (if_pos c29).symm.trans hf
          refine lv_aload_n hx hb dX8_nextToken_25 rfl (lv_at hl 0 rfl) ?_
          refine lv_dup hx hb dX8_nextToken_26 rfl ?_
          refine va_get (D := (dC, dI)) (ci := 8) (v := .int (S26.1 4104 0)) (C := RX8) (T := TX8) (N := 9) hx hb hts hin8 hown hK hP 31 rfl rfl 4 (by decide) (hts _ lk42_8) (fun _ h9 => h9) rfl dX8_nextToken_27 ?_
          refine lv_iconst (v := 1) hx hb dX8_nextToken_30 (by decide) ?_
          refine lv_iadd hx hb dX8_nextToken_31 ?_
          obtain ⟨S28, eS28, hf⟩ := bn hf
          refine va_put (D := (dC, dI)) (ci := 8) (v := .int ((S26.1 4104 0) + 1)) (ty := .int) (C := RX8) (T := TX8) (N := 9) hx hb hts hin8 tyX8 tyX8_ok nmX8 hown hK hP hD hS 31 rfl rfl 4 (by decide) (hts _ lk42_8) (fun _ h9 => h9) rfl (by decide +kernel) rfl rfl (Nat.le_of_ble_eq_true rfl) dX8_nextToken_32 (fun H locs hP hD hS => ?_)
          have hP : va_P (dC, dI) vwCl (wC t h (h 8) g S28 ++ va_pl LP pf) H := by rw [eS28]; exact hP
          have hD : va_D A (wC t h (h 8) g S28 ++ va_pl LP pf) := by rw [eS28]; exact hD
          have hG : rlC g LP pf S28 := by rw [eS28]; exact hG
          refine lv_goto (tgt := 0) hx hb dX8_nextToken_35 (by decide) ?_
          exact ih0 S28 _ _ _ _ _ _ (lp_l hf hq0) hP hD hG hS (lv_sub hl [0] rfl)
  exact L0 FU S _ _ _ _ _ _ ez0 hP hD hG hS (lv_sub hl [0] rfl)

def f_X8_takesIfIn_31 (S : CS) (p0 : Int32) (p1 : Int32) : Option (Int32 × CS) :=
  (if (S.1 4105 0) = 2 then ((if (S.1 4107 0) < p0 then (some ((0, S))) else ((if (S.1 4107 0) ≤ p1 then (Option.bind (f_X8_nextToken_31 S) (fun S1 => some ((1, S1)))) else (some ((0, S))))))) else (some ((0, S))))
def rmX8_takesIfIn_31 : Room := { frames := 3, cells := 0, slots := 0, locals := 60 }
abbrev RRX8_takesIfIn_31 : Room := (headSpec wsX8_takesIfIn rmX8_takesIfIn_31).room
theorem in8_X8_takesIfIn_31 : ∀ w ∈ wsX80, w ∈ wsX8_takesIfIn := by decide +kernel
set_option maxHeartbeats 4000000 in
set_option maxRecDepth 100000 in
theorem c_X8_takesIfIn_31 (l : Launch) (dC : Nat → ClassId) (dI : Nat → Nat → Nat) (t : Nat → ClassId) (ts aK aV : Nat → Nat) (A : Nat → Prop) (h : Nat → Nat) (sz : Nat) (hA0 : ∀ q : Nat, sz ≤ q → A q) (S : CS) (p0 : Int32) (p1 : Int32) (r : Int32) (S' : CS) (hf : f_X8_takesIfIn_31 S p0 p1 = some (r, S')) : cCi l yX8_takesIfIn wsX8_takesIfIn rmX8_takesIfIn_31 dC dI t ts aK aV A h (h 8) (h 8) sz [.ref (h 31), .int p0, .int p1] S r S' := by
  refine Met.ofW (cc := cX8_takesIfIn) (maxL := 3) (ret := (some .boolean)) (by decide) rfl ?_
  intro p e s m args below meth c s₁ B hml hv
  obtain ⟨hargs, hsz, hE, hC, hK⟩ := hv
  have hx := B.exec
  have hb := B.bytes
  have hr := B.returns
  have hts := atoms_spec (ws := wsX8_takesIfIn) B.pre
  have hown : s.vm.findClass RX8 = some m.cls := findClass_of_methodNamed B.named
  have hlocks := B.notSynchronized
  have hsz : s.heap.size = sz := hsz
  subst hsz
  have hin8 := in8_X8_takesIfIn_31
  have lk54_8 : Cond.fieldLink RX8 54 (TX8 5).1 (TX8 5).2.1 (TX8 5).2.2.1 ∈ wsX8_takesIfIn := by decide +kernel
  have lk78_8 : Cond.fieldLink RX8 78 (TX8 7).1 (TX8 7).2.1 (TX8 7).2.2.1 ∈ wsX8_takesIfIn := by decide +kernel
  have hA : ∀ q : Nat, s.heap.size ≤ q → A q := hA0
  obtain ⟨g, LP, pf, hP, hD, hG⟩ := hC
  have hS : va_S A s.heap s.heap [] := va_S.rf
  have hl := lv_entry ([.ref (h 31), .int p0, .int p1]) (n := 3) (Nat.le_of_ble_eq_true rfl)
  rw [show entryFrame m args 3 = entryFrame m ([.ref (h 31), .int p0, .int p1] : List Value).toArray 3 from by rw [hargs], lg_entry_eq]
  generalize (lg_sl ([.ref (h 31), .int p0, .int p1]) ++ List.replicate (3 - (lg_sl ([.ref (h 31), .int p0, .int p1])).length) Slot.unset).toArray = ls at hl ⊢
  have hl : lv_has ls 3 [(0, .ref (h 31)), (1, .int p0), (2, .int p1)] := hl
  unfold f_X8_takesIfIn_31 at hf
  refine lv_aload_n hx hb dX8_takesIfIn_0 rfl (lv_at hl 0 rfl) ?_
  refine va_get (D := (dC, dI)) (ci := 8) (v := .int (S.1 4105 0)) (C := RX8) (T := TX8) (N := 9) hx hb hts hin8 hown hK hP 31 rfl rfl 5 (by decide) (hts _ lk54_8) (fun _ h9 => h9) rfl dX8_takesIfIn_1 ?_
  refine lv_iconst (v := 2) hx hb dX8_takesIfIn_4 (by decide) ?_
  refine lv_icmp_ne (tgt := 24) hx hb dX8_takesIfIn_5 (by decide) (fun c4 => ?_) (fun c4 => ?_)
  · have hf := (if_neg c4).symm.trans hf
    refine lv_iconst (v := 0) hx hb dX8_takesIfIn_24 (by decide) ?_
    exact rtCz hx hb hr hlocks ⟨g, LP, pf, hP, hD, hG⟩ hS rfl hf dX8_takesIfIn_25
  · have hf := (if_pos c4).symm.trans hf
    refine lv_aload_n hx hb dX8_takesIfIn_8 rfl (lv_at hl 0 rfl) ?_
    refine va_get (D := (dC, dI)) (ci := 8) (v := .int (S.1 4107 0)) (C := RX8) (T := TX8) (N := 9) hx hb hts hin8 hown hK hP 31 rfl rfl 7 (by decide) (hts _ lk78_8) (fun _ h9 => h9) rfl dX8_takesIfIn_9 ?_
    refine lv_iload_n hx hb dX8_takesIfIn_12 rfl (lv_at hl 1 rfl) ?_
    refine lv_icmp_lt (tgt := 24) hx hb dX8_takesIfIn_13 (by decide) (fun c3 => ?_) (fun c3 => ?_)
    · have hf := (if_pos c3).symm.trans hf
      refine lv_iconst (v := 0) hx hb dX8_takesIfIn_24 (by decide) ?_
      exact rtCz hx hb hr hlocks ⟨g, LP, pf, hP, hD, hG⟩ hS rfl hf dX8_takesIfIn_25
    · have hf := (if_neg c3).symm.trans hf
      refine lv_aload_n hx hb dX8_takesIfIn_16 rfl (lv_at hl 0 rfl) ?_
      refine va_get (D := (dC, dI)) (ci := 8) (v := .int (S.1 4107 0)) (C := RX8) (T := TX8) (N := 9) hx hb hts hin8 hown hK hP 31 rfl rfl 7 (by decide) (hts _ lk78_8) (fun _ h9 => h9) rfl dX8_takesIfIn_17 ?_
      refine lv_iload_n hx hb dX8_takesIfIn_20 rfl (lv_at hl 2 rfl) ?_
      refine lv_icmp_le (tgt := 26) hx hb dX8_takesIfIn_21 (by decide) (fun c2 => ?_) (fun c2 => ?_)
      · have hf := (if_pos c2).symm.trans hf
        refine lv_aload_n hx hb dX8_takesIfIn_26 rfl (lv_at hl 0 rfl) ?_
        obtain ⟨S1, eS1, hf⟩ := bd hf
        refine klCv (rest := []) (As := []) ⟨hx, hb, hml, hown, hts⟩ (c_X8_nextToken_31 l dC dI t ts aK aV A h s.heap.size (fun q hq => hA q (Nat.le_trans hS.1 hq)) S S1 eS1) (cwV 0 hts gX8_takesIfIn_X8_nextToken rfl rfl rfl (by decide +kernel) ⟨Nat.le_of_ble_eq_true rfl, Nat.le_of_ble_eq_true rfl⟩) (va_recv hK hP (ci := 8) (q0 := 31) rfl rfl) rfl hl.1 rfl (Nat.le_of_ble_eq_true rfl) dX8_takesIfIn_27 ⟨Nat.zero_le _, Nat.zero_le _⟩ hE hK ⟨g, LP, pf, hP, hD, hG⟩ hS (fun H locs hC hS => ?_)
        obtain ⟨g, LP, pf, hP, hD, hG⟩ := hC
        refine lv_iconst (v := 1) hx hb dX8_takesIfIn_30 (by decide) ?_
        exact rtCz hx hb hr hlocks ⟨g, LP, pf, hP, hD, hG⟩ hS rfl hf dX8_takesIfIn_31
      · have hf := (if_neg c2).symm.trans hf
        refine lv_iconst (v := 0) hx hb dX8_takesIfIn_24 (by decide) ?_
        exact rtCz hx hb hr hlocks ⟨g, LP, pf, hP, hD, hG⟩ hS rfl hf dX8_takesIfIn_25

def f_X8_takesNumber_31 (S : CS) (p0 : Int32) : Option (Int32 × CS) :=
  (if p0 < 0 then (some ((0, S))) else ((if p0 < 4 then (Option.bind (f_X8_nextToken_31 S) (fun S1 => Option.bind (some (S1.1 4107 0)) (fun x2 => Option.bind (rdI 4 (ssI 3) p0) (fun x3 => bi2 (f_X8_takesIfIn_31 S1 0 x3) (fun r4 S5 => (if r4 = 0 then (some ((0, S5))) else (Option.bind (wrI S5 26 4 p0 x2) (fun S6 => some ((1, S6)))))))))) else (some ((0, S))))))
def rmX8_takesNumber_31 : Room := { frames := 4, cells := 0, slots := 0, locals := 82 }
abbrev RRX8_takesNumber_31 : Room := (headSpec wsX8_takesNumber rmX8_takesNumber_31).room
theorem in1_X8_takesNumber_31 : ∀ w ∈ wsX10, w ∈ wsX8_takesNumber := by decide +kernel
theorem in8_X8_takesNumber_31 : ∀ w ∈ wsX80, w ∈ wsX8_takesNumber := by decide +kernel
set_option maxHeartbeats 4000000 in
set_option maxRecDepth 100000 in
theorem c_X8_takesNumber_31 (l : Launch) (dC : Nat → ClassId) (dI : Nat → Nat → Nat) (t : Nat → ClassId) (ts aK aV : Nat → Nat) (A : Nat → Prop) (h : Nat → Nat) (sz : Nat) (hA0 : ∀ q : Nat, sz ≤ q → A q) (S : CS) (p0 : Int32) (r : Int32) (S' : CS) (hf : f_X8_takesNumber_31 S p0 = some (r, S')) : cCi l yX8_takesNumber wsX8_takesNumber rmX8_takesNumber_31 dC dI t ts aK aV A h (h 8) (h 8) sz [.ref (h 31), .int p0] S r S' := by
  refine Met.ofW (cc := cX8_takesNumber) (maxL := 3) (ret := (some .boolean)) (by decide) rfl ?_
  intro p e s m args below meth c s₁ B hml hv
  obtain ⟨hargs, hsz, hE, hC, hK⟩ := hv
  have hx := B.exec
  have hb := B.bytes
  have hr := B.returns
  have hts := atoms_spec (ws := wsX8_takesNumber) B.pre
  have hown : s.vm.findClass RX8 = some m.cls := findClass_of_methodNamed B.named
  have hlocks := B.notSynchronized
  have hsz : s.heap.size = sz := hsz
  subst hsz
  have hin1 := in1_X8_takesNumber_31
  have hin8 := in8_X8_takesNumber_31
  have lk12_8 : Cond.fieldLink RX8 12 (TX8 0).1 (TX8 0).2.1 (TX8 0).2.2.1 ∈ wsX8_takesNumber := by decide +kernel
  have lk78_8 : Cond.fieldLink RX8 78 (TX8 7).1 (TX8 7).2.1 (TX8 7).2.2.1 ∈ wsX8_takesNumber := by decide +kernel
  have lk99_1 : Cond.fieldLink RX8 99 (TX1 1).1 (TX1 1).2.1 (TX1 1).2.2.1 ∈ wsX8_takesNumber := by decide +kernel
  have hA : ∀ q : Nat, s.heap.size ≤ q → A q := hA0
  obtain ⟨g, LP, pf, hP, hD, hG⟩ := hC
  have hS : va_S A s.heap s.heap [] := va_S.rf
  have hl := lv_entry ([.ref (h 31), .int p0]) (n := 3) (Nat.le_of_ble_eq_true rfl)
  rw [show entryFrame m args 3 = entryFrame m ([.ref (h 31), .int p0] : List Value).toArray 3 from by rw [hargs], lg_entry_eq]
  generalize (lg_sl ([.ref (h 31), .int p0]) ++ List.replicate (3 - (lg_sl ([.ref (h 31), .int p0])).length) Slot.unset).toArray = ls at hl ⊢
  have hl : lv_has ls 3 [(0, .ref (h 31)), (1, .int p0)] := hl
  unfold f_X8_takesNumber_31 at hf
  refine lv_iload_n hx hb dX8_takesNumber_0 rfl (lv_at hl 1 rfl) ?_
  refine lv_if_lt (tgt := 9) hx hb dX8_takesNumber_1 (by decide) (fun c9 => ?_) (fun c9 => ?_)
  · have hf := (if_pos c9).symm.trans hf
    refine lv_iconst (v := 0) hx hb dX8_takesNumber_9 (by decide) ?_
    exact rtCz hx hb hr hlocks ⟨g, LP, pf, hP, hD, hG⟩ hS rfl hf dX8_takesNumber_10
  · have hf := (if_neg c9).symm.trans hf
    refine lv_iload_n hx hb dX8_takesNumber_4 rfl (lv_at hl 1 rfl) ?_
    refine lv_iconst (v := 4) hx hb dX8_takesNumber_5 (by decide) ?_
    refine lv_icmp_lt (tgt := 11) hx hb dX8_takesNumber_6 (by decide) (fun c8 => ?_) (fun c8 => ?_)
    · have hf := (if_pos c8).symm.trans hf
      refine lv_aload_n hx hb dX8_takesNumber_11 rfl (lv_at hl 0 rfl) ?_
      obtain ⟨S1, eS1, hf⟩ := bd hf
      refine klCv (rest := []) (As := []) ⟨hx, hb, hml, hown, hts⟩ (c_X8_nextToken_31 l dC dI t ts aK aV A h s.heap.size (fun q hq => hA q (Nat.le_trans hS.1 hq)) S S1 eS1) (cwV 0 hts gX8_takesNumber_X8_nextToken rfl rfl rfl (by decide +kernel) ⟨Nat.le_of_ble_eq_true rfl, Nat.le_of_ble_eq_true rfl⟩) (va_recv hK hP (ci := 8) (q0 := 31) rfl rfl) rfl hl.1 rfl (Nat.le_of_ble_eq_true rfl) dX8_takesNumber_12 ⟨Nat.zero_le _, Nat.zero_le _⟩ hE hK ⟨g, LP, pf, hP, hD, hG⟩ hS (fun H locs hC hS => ?_)
      obtain ⟨g, LP, pf, hP, hD, hG⟩ := hC
      refine lv_aload_n hx hb dX8_takesNumber_15 rfl (lv_at hl 0 rfl) ?_
      refine va_get (D := (dC, dI)) (ci := 8) (v := .int (S1.1 4107 0)) (C := RX8) (T := TX8) (N := 9) hx hb hts hin8 hown hK hP 31 rfl rfl 7 (by decide) (hts _ lk78_8) (fun _ h9 => h9) rfl dX8_takesNumber_16 ?_
      refine lv_topi (fun x2 ex2 => ?_)
      have hf := bs ex2 hf
      refine lv_istore_n (lv' := [(2, .int x2), (0, .ref (h 31)), (1, .int p0)]) hx hb dX8_takesNumber_19 rfl hl (by decide) rfl (fun ls hl => ?_)
      refine lv_aload_n hx hb dX8_takesNumber_20 rfl (lv_at hl 1 rfl) ?_
      refine lv_iconst (v := 0) hx hb dX8_takesNumber_21 (by decide) ?_
      refine va_getsN hx hb hE.2.2.2.2.1.1 hS hown (va_Nw.use rfl (hE.1.2.1 ("OnlyTwo$Reader", 96, "OnlyTwo", "HIGHEST_NUMBER", "[I", "OnlyTwo") (by decide +kernel))) (fun _ h9 => h9) dX8_takesNumber_22 ?_
      refine lv_iload_n hx hb dX8_takesNumber_25 rfl (lv_at hl 2 rfl) ?_
      obtain ⟨x3, hix3, ex3, hf⟩ := rd_b hf
      refine va_ti hx hb hE.2.2.2.2.1.2 hS hix3 rfl dX8_takesNumber_26 (kI ex3 ?_)
      obtain ⟨r4, S5, er4, hf⟩ := b2 hf
      refine klCi (rest := []) (As := [.int 0, .int x3]) ⟨hx, hb, hml, hown, hts⟩ (c_X8_takesIfIn_31 l dC dI t ts aK aV A h H.size (fun q hq => hA q (Nat.le_trans hS.1 hq)) S1 0 x3 r4 S5 er4) (cwV 2 hts gX8_takesNumber_X8_takesIfIn rfl rfl rfl (by decide +kernel) ⟨Nat.le_of_ble_eq_true rfl, Nat.le_of_ble_eq_true rfl⟩) (va_recv hK hP (ci := 8) (q0 := 31) rfl rfl) rfl hl.1 rfl (Nat.le_of_ble_eq_true rfl) dX8_takesNumber_27 ⟨Nat.zero_le _, Nat.zero_le _⟩ hE hK ⟨g, LP, pf, hP, hD, hG⟩ hS (fun H locs hC hS => ?_)
      obtain ⟨g, LP, pf, hP, hD, hG⟩ := hC
      refine lv_if_ne (tgt := 35) hx hb dX8_takesNumber_30 (by decide) (fun c7 => ?_) (fun c7 => ?_)
      · have hf := (if_neg c7).symm.trans hf
        refine lv_aload_n hx hb dX8_takesNumber_35 rfl (lv_at hl 1 rfl) ?_
        refine va_get (D := (dC, dI)) (ci := 8) (v := .ref (h 24)) (C := RX8) (T := TX8) (N := 9) hx hb hts hin8 hown hK hP 31 rfl rfl 0 (by decide) (hts _ lk12_8) (fun _ h9 => h9) rfl dX8_takesNumber_36 ?_
        refine va_get (D := (dC, dI)) (ci := 1) (v := .ref (h 26)) (C := RX1) (T := TX1) (N := 10) hx hb hts hin1 hown hK hP 24 rfl rfl 1 (by decide) (hts _ lk99_1) (fun _ h9 => h9) rfl dX8_takesNumber_39 ?_
        refine lv_iload_n hx hb dX8_takesNumber_42 rfl (lv_at hl 2 rfl) ?_
        refine lv_iload_n hx hb dX8_takesNumber_43 rfl (lv_at hl 0 rfl) ?_
        obtain ⟨S6, hiS6, eS6, hf⟩ := wrI_b hf
        refine va_iast hx hb hK hP hD hS 26 0 rfl rfl hiS6 dX8_takesNumber_44 (fun H locs hP hD hS => ?_)
        have hP : va_P (dC, dI) vwCl (wC t h (h 8) g S6 ++ va_pl LP pf) H := by rw [eS6]; exact hP
        have hD : va_D A (wC t h (h 8) g S6 ++ va_pl LP pf) := by rw [eS6]; exact hD
        have hG : rlC g LP pf S6 := by rw [eS6]; exact hG
        refine lv_iconst (v := 1) hx hb dX8_takesNumber_45 (by decide) ?_
        exact rtCz hx hb hr hlocks ⟨g, LP, pf, hP, hD, hG⟩ hS rfl hf dX8_takesNumber_46
      · have hf := (if_pos c7).symm.trans hf
        refine lv_iconst (v := 0) hx hb dX8_takesNumber_33 (by decide) ?_
        exact rtCz hx hb hr hlocks ⟨g, LP, pf, hP, hD, hG⟩ hS rfl hf dX8_takesNumber_34
    · have hf := (if_neg c8).symm.trans hf
      refine lv_iconst (v := 0) hx hb dX8_takesNumber_9 (by decide) ?_
      exact rtCz hx hb hr hlocks ⟨g, LP, pf, hP, hD, hG⟩ hS rfl hf dX8_takesNumber_10

def j_X8_takesGo_31_102 (x2 : Int32) (x5 : Int32) (y8 : Int32) (S9 : CS) : Option (Int32 × CS) :=
  Option.bind (some (siI S9 4108 (fun _ => x2))) (fun S10 => Option.bind (f_X1_addGo_24 S10 x2 ((1 <<< (x5 &&& 31)) ||| (1 <<< (y8 &&& 31)))) (fun S11 => some ((1, S11))))
def f_X8_takesGo_31 (S : CS)  : Option (Int32 × CS) :=
  (if (S.1 3407 0) < 20 then (Option.bind (f_X8_nextToken_31 S) (fun S1 => Option.bind (some (S1.1 4107 0)) (fun x2 => bi2 (f_X8_takesIfIn_31 S1 (S1.1 4108 0) 239) (fun r3 S4 => (if r3 = 0 then (some ((0, S4))) else (Option.bind (some (S4.1 4107 0)) (fun x5 => bi2 (f_X8_takesIfIn_31 S4 0 ((S4.1 3406 0) - 1)) (fun r6 S7 => (if r6 = 0 then (some ((0, S7))) else ((if (S7.1 4105 0) = 2 then (Option.bind (some (S7.1 4107 0)) (fun x12 => (if x12 = x5 then (some ((0, S7))) else (bi2 (f_X8_takesIfIn_31 S7 0 ((S7.1 3406 0) - 1)) (fun r13 S14 => (if r13 = 0 then (some ((0, S14))) else (j_X8_takesGo_31_102 x2 x5 x12 S14))))))) else (j_X8_takesGo_31_102 x2 x5 x5 S7)))))))))))) else (some ((0, S))))
def rmX8_takesGo_31 : Room := { frames := 4, cells := 0, slots := 0, locals := 82 }
abbrev RRX8_takesGo_31 : Room := (headSpec wsX8_takesGo rmX8_takesGo_31).room
theorem in1_X8_takesGo_31 : ∀ w ∈ wsX10, w ∈ wsX8_takesGo := by decide +kernel
theorem in8_X8_takesGo_31 : ∀ w ∈ wsX80, w ∈ wsX8_takesGo := by decide +kernel
set_option maxHeartbeats 4000000 in
set_option maxRecDepth 100000 in
theorem c_X8_takesGo_31 (l : Launch) (dC : Nat → ClassId) (dI : Nat → Nat → Nat) (t : Nat → ClassId) (ts aK aV : Nat → Nat) (A : Nat → Prop) (h : Nat → Nat) (sz : Nat) (hA0 : ∀ q : Nat, sz ≤ q → A q) (S : CS)  (r : Int32) (S' : CS) (hf : f_X8_takesGo_31 S = some (r, S')) : cCi l yX8_takesGo wsX8_takesGo rmX8_takesGo_31 dC dI t ts aK aV A h (h 8) (h 8) sz [.ref (h 31)] S r S' := by
  refine Met.ofW (cc := cX8_takesGo) (maxL := 4) (ret := (some .boolean)) (by decide) rfl ?_
  intro p e s m args below meth c s₁ B hml hv
  obtain ⟨hargs, hsz, hE, hC, hK⟩ := hv
  have hx := B.exec
  have hb := B.bytes
  have hr := B.returns
  have hts := atoms_spec (ws := wsX8_takesGo) B.pre
  have hown : s.vm.findClass RX8 = some m.cls := findClass_of_methodNamed B.named
  have hlocks := B.notSynchronized
  have hsz : s.heap.size = sz := hsz
  subst hsz
  have hin1 := in1_X8_takesGo_31
  have hin8 := in8_X8_takesGo_31
  have lk12_8 : Cond.fieldLink RX8 12 (TX8 0).1 (TX8 0).2.1 (TX8 0).2.2.1 ∈ wsX8_takesGo := by decide +kernel
  have lk45_8 : Cond.fieldLink RX8 45 (TX8 8).1 (TX8 8).2.1 (TX8 8).2.2.1 ∈ wsX8_takesGo := by decide +kernel
  have lk54_8 : Cond.fieldLink RX8 54 (TX8 5).1 (TX8 5).2.1 (TX8 5).2.2.1 ∈ wsX8_takesGo := by decide +kernel
  have lk75_1 : Cond.fieldLink RX8 75 (TX1 6).1 (TX1 6).2.1 (TX1 6).2.2.1 ∈ wsX8_takesGo := by decide +kernel
  have lk78_8 : Cond.fieldLink RX8 78 (TX8 7).1 (TX8 7).2.1 (TX8 7).2.2.1 ∈ wsX8_takesGo := by decide +kernel
  have lk102_1 : Cond.fieldLink RX8 102 (TX1 7).1 (TX1 7).2.1 (TX1 7).2.2.1 ∈ wsX8_takesGo := by decide +kernel
  have hA : ∀ q : Nat, s.heap.size ≤ q → A q := hA0
  obtain ⟨g, LP, pf, hP, hD, hG⟩ := hC
  have hS : va_S A s.heap s.heap [] := va_S.rf
  have hl := lv_entry ([.ref (h 31)]) (n := 4) (Nat.le_of_ble_eq_true rfl)
  rw [show entryFrame m args 4 = entryFrame m ([.ref (h 31)] : List Value).toArray 4 from by rw [hargs], lg_entry_eq]
  generalize (lg_sl ([.ref (h 31)]) ++ List.replicate (4 - (lg_sl ([.ref (h 31)])).length) Slot.unset).toArray = ls at hl ⊢
  have hl : lv_has ls 4 [(0, .ref (h 31))] := hl
  unfold f_X8_takesGo_31 at hf
  refine lv_aload_n hx hb dX8_takesGo_0 rfl (lv_at hl 0 rfl) ?_
  refine va_get (D := (dC, dI)) (ci := 8) (v := .ref (h 24)) (C := RX8) (T := TX8) (N := 9) hx hb hts hin8 hown hK hP 31 rfl rfl 0 (by decide) (hts _ lk12_8) (fun _ h9 => h9) rfl dX8_takesGo_1 ?_
  refine va_get (D := (dC, dI)) (ci := 1) (v := .int (S.1 3407 0)) (C := RX1) (T := TX1) (N := 10) hx hb hts hin1 hown hK hP 24 rfl rfl 7 (by decide) (hts _ lk102_1) (fun _ h9 => h9) rfl dX8_takesGo_4 ?_
  refine lv_bipush (v := 20) hx hb dX8_takesGo_7 (by decide) ?_
  refine lv_icmp_lt (tgt := 14) hx hb dX8_takesGo_9 (by decide) (fun c20 => ?_) (fun c20 => ?_)
  · have hf := (if_pos c20).symm.trans hf
    refine lv_aload_n hx hb dX8_takesGo_14 rfl (lv_at hl 0 rfl) ?_
    obtain ⟨S1, eS1, hf⟩ := bd hf
    refine klCv (rest := []) (As := []) ⟨hx, hb, hml, hown, hts⟩ (c_X8_nextToken_31 l dC dI t ts aK aV A h s.heap.size (fun q hq => hA q (Nat.le_trans hS.1 hq)) S S1 eS1) (cwV 0 hts gX8_takesGo_X8_nextToken rfl rfl rfl (by decide +kernel) ⟨Nat.le_of_ble_eq_true rfl, Nat.le_of_ble_eq_true rfl⟩) (va_recv hK hP (ci := 8) (q0 := 31) rfl rfl) rfl hl.1 rfl (Nat.le_of_ble_eq_true rfl) dX8_takesGo_15 ⟨Nat.zero_le _, Nat.zero_le _⟩ hE hK ⟨g, LP, pf, hP, hD, hG⟩ hS (fun H locs hC hS => ?_)
    obtain ⟨g, LP, pf, hP, hD, hG⟩ := hC
    refine lv_aload_n hx hb dX8_takesGo_18 rfl (lv_at hl 0 rfl) ?_
    refine va_get (D := (dC, dI)) (ci := 8) (v := .int (S1.1 4107 0)) (C := RX8) (T := TX8) (N := 9) hx hb hts hin8 hown hK hP 31 rfl rfl 7 (by decide) (hts _ lk78_8) (fun _ h9 => h9) rfl dX8_takesGo_19 ?_
    refine lv_topi (fun x2 ex2 => ?_)
    have hf := bs ex2 hf
    refine lv_istore_n (lv' := [(1, .int x2), (0, .ref (h 31))]) hx hb dX8_takesGo_22 rfl hl (by decide) rfl (fun ls hl => ?_)
    refine lv_aload_n hx hb dX8_takesGo_23 rfl (lv_at hl 1 rfl) ?_
    refine lv_aload_n hx hb dX8_takesGo_24 rfl (lv_at hl 1 rfl) ?_
    refine va_get (D := (dC, dI)) (ci := 8) (v := .int (S1.1 4108 0)) (C := RX8) (T := TX8) (N := 9) hx hb hts hin8 hown hK hP 31 rfl rfl 8 (by decide) (hts _ lk45_8) (fun _ h9 => h9) rfl dX8_takesGo_25 ?_
    refine lv_sipush (v := 239) hx hb dX8_takesGo_28 (by decide) ?_
    obtain ⟨r3, S4, er3, hf⟩ := b2 hf
    refine klCi (rest := []) (As := [.int (S1.1 4108 0), .int 239]) ⟨hx, hb, hml, hown, hts⟩ (c_X8_takesIfIn_31 l dC dI t ts aK aV A h H.size (fun q hq => hA q (Nat.le_trans hS.1 hq)) S1 (S1.1 4108 0) 239 r3 S4 er3) (cwV 2 hts gX8_takesGo_X8_takesIfIn rfl rfl rfl (by decide +kernel) ⟨Nat.le_of_ble_eq_true rfl, Nat.le_of_ble_eq_true rfl⟩) (va_recv hK hP (ci := 8) (q0 := 31) rfl rfl) rfl hl.1 rfl (Nat.le_of_ble_eq_true rfl) dX8_takesGo_31 ⟨Nat.zero_le _, Nat.zero_le _⟩ hE hK ⟨g, LP, pf, hP, hD, hG⟩ hS (fun H locs hC hS => ?_)
    obtain ⟨g, LP, pf, hP, hD, hG⟩ := hC
    refine lv_if_ne (tgt := 39) hx hb dX8_takesGo_34 (by decide) (fun c19 => ?_) (fun c19 => ?_)
    · have hf := (if_neg c19).symm.trans hf
      refine lv_aload_n hx hb dX8_takesGo_39 rfl (lv_at hl 1 rfl) ?_
      refine va_get (D := (dC, dI)) (ci := 8) (v := .int (S4.1 4107 0)) (C := RX8) (T := TX8) (N := 9) hx hb hts hin8 hown hK hP 31 rfl rfl 7 (by decide) (hts _ lk78_8) (fun _ h9 => h9) rfl dX8_takesGo_40 ?_
      refine lv_topi (fun x5 ex5 => ?_)
      have hf := bs ex5 hf
      refine lv_istore_n (lv' := [(2, .int x5), (1, .int x2), (0, .ref (h 31))]) hx hb dX8_takesGo_43 rfl hl (by decide) rfl (fun ls hl => ?_)
      refine lv_aload_n hx hb dX8_takesGo_44 rfl (lv_at hl 2 rfl) ?_
      refine lv_iconst (v := 0) hx hb dX8_takesGo_45 (by decide) ?_
      refine lv_aload_n hx hb dX8_takesGo_46 rfl (lv_at hl 2 rfl) ?_
      refine va_get (D := (dC, dI)) (ci := 8) (v := .ref (h 24)) (C := RX8) (T := TX8) (N := 9) hx hb hts hin8 hown hK hP 31 rfl rfl 0 (by decide) (hts _ lk12_8) (fun _ h9 => h9) rfl dX8_takesGo_47 ?_
      refine va_get (D := (dC, dI)) (ci := 1) (v := .int (S4.1 3406 0)) (C := RX1) (T := TX1) (N := 10) hx hb hts hin1 hown hK hP 24 rfl rfl 6 (by decide) (hts _ lk75_1) (fun _ h9 => h9) rfl dX8_takesGo_50 ?_
      refine lv_iconst (v := 1) hx hb dX8_takesGo_53 (by decide) ?_
      refine lv_isub hx hb dX8_takesGo_54 ?_
      obtain ⟨r6, S7, er6, hf⟩ := b2 hf
      refine klCi (rest := []) (As := [.int 0, .int ((S4.1 3406 0) - 1)]) ⟨hx, hb, hml, hown, hts⟩ (c_X8_takesIfIn_31 l dC dI t ts aK aV A h H.size (fun q hq => hA q (Nat.le_trans hS.1 hq)) S4 0 ((S4.1 3406 0) - 1) r6 S7 er6) (cwV 2 hts gX8_takesGo_X8_takesIfIn rfl rfl rfl (by decide +kernel) ⟨Nat.le_of_ble_eq_true rfl, Nat.le_of_ble_eq_true rfl⟩) (va_recv hK hP (ci := 8) (q0 := 31) rfl rfl) rfl hl.1 rfl (Nat.le_of_ble_eq_true rfl) dX8_takesGo_55 ⟨Nat.zero_le _, Nat.zero_le _⟩ hE hK ⟨g, LP, pf, hP, hD, hG⟩ hS (fun H locs hC hS => ?_)
      obtain ⟨g, LP, pf, hP, hD, hG⟩ := hC
      refine lv_if_ne (tgt := 63) hx hb dX8_takesGo_58 (by decide) (fun c18 => ?_) (fun c18 => ?_)
      · have hf := (if_neg c18).symm.trans hf
        refine lv_iload_n hx hb dX8_takesGo_63 rfl (lv_at hl 0 rfl) ?_
        refine lv_istore_n (lv' := [(3, .int x5), (2, .int x5), (1, .int x2), (0, .ref (h 31))]) hx hb dX8_takesGo_64 rfl hl (by decide) rfl (fun ls hl => ?_)
        refine lv_aload_n hx hb dX8_takesGo_65 rfl (lv_at hl 3 rfl) ?_
        refine va_get (D := (dC, dI)) (ci := 8) (v := .int (S7.1 4105 0)) (C := RX8) (T := TX8) (N := 9) hx hb hts hin8 hown hK hP 31 rfl rfl 5 (by decide) (hts _ lk54_8) (fun _ h9 => h9) rfl dX8_takesGo_66 ?_
        refine lv_iconst (v := 2) hx hb dX8_takesGo_69 (by decide) ?_
        have J102 : ∀ (y8 : Int32) (S9 : CS) (g : Nat → Nat → Option Nat) (LP : List Nat) (pf : Nat → va_E) (H : Heap) (locs : List Loc) (ls : Array Slot), j_X8_takesGo_31_102 x2 x5 y8 S9 = some (r, S') → va_P (dC, dI) vwCl (wC t h (h 8) g S9 ++ va_pl LP pf) H → va_D A (wC t h (h 8) g S9 ++ va_pl LP pf) → rlC g LP pf S9 → va_S A s.heap H locs → lv_has ls 4 [(0, .ref (h 31)), (1, .int x2), (2, .int x5), (3, .int y8)] → W p l e RRX8_takesGo_31 s m args below meth c H locs 0 0 (MQ below (qcCi dC dI t A h (h 8) r S') args s 0 0 A) (F0 m 102 ls []) := by
          intro y8 S9 g LP pf H locs ls hf hP hD hG hS hl
          unfold j_X8_takesGo_31_102 at hf
          refine lv_aload_n hx hb dX8_takesGo_102 rfl (lv_at hl 0 rfl) ?_
          refine lv_iload_n hx hb dX8_takesGo_103 rfl (lv_at hl 1 rfl) ?_
          obtain ⟨S10, eS10, hf⟩ := bn hf
          refine va_put (D := (dC, dI)) (ci := 8) (v := .int x2) (ty := .int) (C := RX8) (T := TX8) (N := 9) hx hb hts hin8 tyX8 tyX8_ok nmX8 hown hK hP hD hS 31 rfl rfl 8 (by decide) (hts _ lk45_8) (fun _ h9 => h9) rfl (by decide +kernel) rfl rfl (Nat.le_of_ble_eq_true rfl) dX8_takesGo_104 (fun H locs hP hD hS => ?_)
          have hP : va_P (dC, dI) vwCl (wC t h (h 8) g S10 ++ va_pl LP pf) H := by rw [eS10]; exact hP
          have hD : va_D A (wC t h (h 8) g S10 ++ va_pl LP pf) := by rw [eS10]; exact hD
          have hG : rlC g LP pf S10 := by rw [eS10]; exact hG
          refine lv_aload_n hx hb dX8_takesGo_107 rfl (lv_at hl 0 rfl) ?_
          refine va_get (D := (dC, dI)) (ci := 8) (v := .ref (h 24)) (C := RX8) (T := TX8) (N := 9) hx hb hts hin8 hown hK hP 31 rfl rfl 0 (by decide) (hts _ lk12_8) (fun _ h9 => h9) rfl dX8_takesGo_108 ?_
          refine lv_iload_n hx hb dX8_takesGo_111 rfl (lv_at hl 1 rfl) ?_
          refine lv_iconst (v := 1) hx hb dX8_takesGo_112 (by decide) ?_
          refine lv_iload_n hx hb dX8_takesGo_113 rfl (lv_at hl 2 rfl) ?_
          refine lv_ishl hx hb dX8_takesGo_114 ?_
          refine lv_iconst (v := 1) hx hb dX8_takesGo_115 (by decide) ?_
          refine lv_iload_n hx hb dX8_takesGo_116 rfl (lv_at hl 3 rfl) ?_
          refine lv_ishl hx hb dX8_takesGo_117 ?_
          refine lv_ior hx hb dX8_takesGo_118 ?_
          obtain ⟨S11, eS11, hf⟩ := bd hf
          refine klCv (rest := []) (As := [.int x2, .int ((1 <<< (x5 &&& 31)) ||| (1 <<< (y8 &&& 31)))]) ⟨hx, hb, hml, hown, hts⟩ (c_X1_addGo_24 l dC dI t ts aK aV A h (h 8) H.size (fun q hq => hA q (Nat.le_trans hS.1 hq)) S10 x2 ((1 <<< (x5 &&& 31)) ||| (1 <<< (y8 &&& 31))) S11 eS11) (cwV 2 hts gX8_takesGo_X1_addGo rfl rfl rfl (by decide +kernel) ⟨Nat.le_of_ble_eq_true rfl, Nat.le_of_ble_eq_true rfl⟩) (va_recv hK hP (ci := 1) (q0 := 24) rfl rfl) rfl hl.1 rfl (Nat.le_of_ble_eq_true rfl) dX8_takesGo_119 ⟨Nat.zero_le _, Nat.zero_le _⟩ hE hK ⟨g, LP, pf, hP, hD, hG⟩ hS (fun H locs hC hS => ?_)
          obtain ⟨g, LP, pf, hP, hD, hG⟩ := hC
          refine lv_iconst (v := 1) hx hb dX8_takesGo_122 (by decide) ?_
          exact rtCz hx hb hr hlocks ⟨g, LP, pf, hP, hD, hG⟩ hS rfl hf dX8_takesGo_123
        refine lv_icmp_ne (tgt := 102) hx hb dX8_takesGo_70 (by decide) (fun c17 => ?_) (fun c17 => ?_)
        · have hf := (if_neg c17).symm.trans hf
          exact J102 x5 S7 _ _ _ _ _ _ hf hP hD hG hS (lv_sub hl [3, 2, 1, 0] rfl)
        · have hf := (if_pos c17).symm.trans hf
          refine lv_aload_n hx hb dX8_takesGo_73 rfl (lv_at hl 3 rfl) ?_
          refine va_get (D := (dC, dI)) (ci := 8) (v := .int (S7.1 4107 0)) (C := RX8) (T := TX8) (N := 9) hx hb hts hin8 hown hK hP 31 rfl rfl 7 (by decide) (hts _ lk78_8) (fun _ h9 => h9) rfl dX8_takesGo_74 ?_
          refine lv_topi (fun x12 ex12 => ?_)
          have hf := bs ex12 hf
          refine lv_istore_n (lv' := [(3, .int x12), (2, .int x5), (1, .int x2), (0, .ref (h 31))]) hx hb dX8_takesGo_77 rfl hl (by decide) rfl (fun ls hl => ?_)
          refine lv_iload_n hx hb dX8_takesGo_78 rfl (lv_at hl 0 rfl) ?_
          refine lv_iload_n hx hb dX8_takesGo_79 rfl (lv_at hl 1 rfl) ?_
          refine lv_icmp_eq (tgt := 100) hx hb dX8_takesGo_80 (by decide) (fun c16 => ?_) (fun c16 => ?_)
          · have hf := (if_pos c16).symm.trans hf
            refine lv_iconst (v := 0) hx hb dX8_takesGo_100 (by decide) ?_
            exact rtCz hx hb hr hlocks ⟨g, LP, pf, hP, hD, hG⟩ hS rfl hf dX8_takesGo_101
          · have hf := (if_neg c16).symm.trans hf
            refine lv_aload_n hx hb dX8_takesGo_83 rfl (lv_at hl 3 rfl) ?_
            refine lv_iconst (v := 0) hx hb dX8_takesGo_84 (by decide) ?_
            refine lv_aload_n hx hb dX8_takesGo_85 rfl (lv_at hl 3 rfl) ?_
            refine va_get (D := (dC, dI)) (ci := 8) (v := .ref (h 24)) (C := RX8) (T := TX8) (N := 9) hx hb hts hin8 hown hK hP 31 rfl rfl 0 (by decide) (hts _ lk12_8) (fun _ h9 => h9) rfl dX8_takesGo_86 ?_
            refine va_get (D := (dC, dI)) (ci := 1) (v := .int (S7.1 3406 0)) (C := RX1) (T := TX1) (N := 10) hx hb hts hin1 hown hK hP 24 rfl rfl 6 (by decide) (hts _ lk75_1) (fun _ h9 => h9) rfl dX8_takesGo_89 ?_
            refine lv_iconst (v := 1) hx hb dX8_takesGo_92 (by decide) ?_
            refine lv_isub hx hb dX8_takesGo_93 ?_
            obtain ⟨r13, S14, er13, hf⟩ := b2 hf
            refine klCi (rest := []) (As := [.int 0, .int ((S7.1 3406 0) - 1)]) ⟨hx, hb, hml, hown, hts⟩ (c_X8_takesIfIn_31 l dC dI t ts aK aV A h H.size (fun q hq => hA q (Nat.le_trans hS.1 hq)) S7 0 ((S7.1 3406 0) - 1) r13 S14 er13) (cwV 2 hts gX8_takesGo_X8_takesIfIn rfl rfl rfl (by decide +kernel) ⟨Nat.le_of_ble_eq_true rfl, Nat.le_of_ble_eq_true rfl⟩) (va_recv hK hP (ci := 8) (q0 := 31) rfl rfl) rfl hl.1 rfl (Nat.le_of_ble_eq_true rfl) dX8_takesGo_94 ⟨Nat.zero_le _, Nat.zero_le _⟩ hE hK ⟨g, LP, pf, hP, hD, hG⟩ hS (fun H locs hC hS => ?_)
            obtain ⟨g, LP, pf, hP, hD, hG⟩ := hC
            refine lv_if_ne (tgt := 102) hx hb dX8_takesGo_97 (by decide) (fun c15 => ?_) (fun c15 => ?_)
            · have hf := (if_neg c15).symm.trans hf
              exact J102 x12 S14 _ _ _ _ _ _ hf hP hD hG hS (lv_sub hl [3, 2, 1, 0] rfl)
            · have hf := (if_pos c15).symm.trans hf
              refine lv_iconst (v := 0) hx hb dX8_takesGo_100 (by decide) ?_
              exact rtCz hx hb hr hlocks ⟨g, LP, pf, hP, hD, hG⟩ hS rfl hf dX8_takesGo_101
      · have hf := (if_pos c18).symm.trans hf
        refine lv_iconst (v := 0) hx hb dX8_takesGo_61 (by decide) ?_
        exact rtCz hx hb hr hlocks ⟨g, LP, pf, hP, hD, hG⟩ hS rfl hf dX8_takesGo_62
    · have hf := (if_pos c19).symm.trans hf
      refine lv_iconst (v := 0) hx hb dX8_takesGo_37 (by decide) ?_
      exact rtCz hx hb hr hlocks ⟨g, LP, pf, hP, hD, hG⟩ hS rfl hf dX8_takesGo_38
  · have hf := (if_neg c20).symm.trans hf
    refine lv_iconst (v := 0) hx hb dX8_takesGo_12 (by decide) ?_
    exact rtCz hx hb hr hlocks ⟨g, LP, pf, hP, hD, hG⟩ hS rfl hf dX8_takesGo_13

def f_X10_fitsPorter (p0 : Int32) (p1 : Int32) : Option Int32 :=
  Option.bind (rdI 4 (ssI 4) p0) (fun x1 => (if p1 < x1 then (some 0) else (Option.bind (rdI 4 (ssI 5) p0) (fun x2 => (if x2 < p1 then (some 0) else (some 1))))))
def rmX10_fitsPorter : Room := { frames := 0, cells := 0, slots := 0, locals := 0 }
abbrev RRX10_fitsPorter : Room := (headSpec wsX10_fitsPorter rmX10_fitsPorter).room
set_option maxHeartbeats 4000000 in
set_option maxRecDepth 100000 in
theorem c_X10_fitsPorter (l : Launch) (ts aK aV : Nat → Nat) (sz : Nat) (p0 : Int32) (p1 : Int32) (r : Int32) (hf : f_X10_fitsPorter p0 p1 = some r) : cXi l yX10_fitsPorter wsX10_fitsPorter rmX10_fitsPorter sz [.int p0, .int p1] (fun U => enC ts aK aV (fun q => sz ≤ q) U U.heap) r := by
  refine Met.ofW (cc := cX10_fitsPorter) (maxL := 2) (ret := (some .boolean)) (by decide) rfl ?_
  intro p e s m args below meth c s₁ B hml hv
  obtain ⟨hargs, hsz, hXX⟩ := hv
  have hx := B.exec
  have hb := B.bytes
  have hr := B.returns
  have hts := atoms_spec (ws := wsX10_fitsPorter) B.pre
  have hown : s.vm.findClass RX10 = some m.cls := findClass_of_methodNamed B.named
  have hlocks := B.notSynchronized
  have hsz : s.heap.size = sz := hsz
  subst hsz
  obtain ⟨A, hAe⟩ : ∃ A : Nat → Prop, A = fun q => s.heap.size ≤ q := ⟨_, rfl⟩
  rw [← hAe]
  have hA : ∀ q : Nat, s.heap.size ≤ q → A q := fun q h => by rw [hAe]; exact h
  have hE : enC ts aK aV A s s.heap := by rw [hAe]; exact hXX
  have hS : va_S A s.heap s.heap [] := va_S.rf
  have hl := lv_entry ([.int p0, .int p1]) (n := 2) (Nat.le_of_ble_eq_true rfl)
  rw [show entryFrame m args 2 = entryFrame m ([.int p0, .int p1] : List Value).toArray 2 from by rw [hargs], lg_entry_eq]
  generalize (lg_sl ([.int p0, .int p1]) ++ List.replicate (2 - (lg_sl ([.int p0, .int p1])).length) Slot.unset).toArray = ls at hl ⊢
  have hl : lv_has ls 2 [(0, .int p0), (1, .int p1)] := hl
  unfold f_X10_fitsPorter at hf
  refine lv_iload_n hx hb dX10_fitsPorter_0 rfl (lv_at hl 1 rfl) ?_
  refine va_gets hx hb hE.2.2.2.2.2.1.1 hS hown (hts (.fieldLink RX10 199 "OnlyTwo" "LOWEST_OF_PORTER" "[I") (by decide +kernel)) (fun _ h9 => h9) dX10_fitsPorter_1 ?_
  refine lv_iload_n hx hb dX10_fitsPorter_4 rfl (lv_at hl 0 rfl) ?_
  obtain ⟨x1, hix1, ex1, hf⟩ := rd_b hf
  refine va_ti hx hb hE.2.2.2.2.2.1.2 hS hix1 rfl dX10_fitsPorter_5 (kI ex1 ?_)
  refine lv_icmp_lt (tgt := 22) hx hb dX10_fitsPorter_6 (by decide) (fun c4 => ?_) (fun c4 => ?_)
  · have hf := (if_pos c4).symm.trans hf
    refine lv_iconst (v := 0) hx hb dX10_fitsPorter_22 (by decide) ?_
    exact rtEz hx hb hr hlocks hS rfl hf dX10_fitsPorter_23
  · have hf := (if_neg c4).symm.trans hf
    refine lv_iload_n hx hb dX10_fitsPorter_9 rfl (lv_at hl 1 rfl) ?_
    refine va_gets hx hb hE.2.2.2.2.2.2.1.1 hS hown (hts (.fieldLink RX10 202 "OnlyTwo" "HIGHEST_OF_PORTER" "[I") (by decide +kernel)) (fun _ h9 => h9) dX10_fitsPorter_10 ?_
    refine lv_iload_n hx hb dX10_fitsPorter_13 rfl (lv_at hl 0 rfl) ?_
    obtain ⟨x2, hix2, ex2, hf⟩ := rd_b hf
    refine va_ti hx hb hE.2.2.2.2.2.2.1.2 hS hix2 rfl dX10_fitsPorter_14 (kI ex2 ?_)
    refine lv_icmp_gt (tgt := 22) hx hb dX10_fitsPorter_15 (by decide) (fun c3 => ?_) (fun c3 => ?_)
    · have hf := (if_pos c3).symm.trans hf
      refine lv_iconst (v := 0) hx hb dX10_fitsPorter_22 (by decide) ?_
      exact rtEz hx hb hr hlocks hS rfl hf dX10_fitsPorter_23
    · have hf := (if_neg c3).symm.trans hf
      refine lv_iconst (v := 1) hx hb dX10_fitsPorter_18 (by decide) ?_
      refine lv_goto (tgt := 23) hx hb dX10_fitsPorter_19 (by decide) ?_
      exact rtEz hx hb hr hlocks hS rfl hf dX10_fitsPorter_23
