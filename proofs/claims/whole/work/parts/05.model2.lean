def f_X11_goOn (M : MS)  : Option MS :=
  Option.bind (f_X11_look M ((M 5 0) + (M 6 0))) (fun M1 => some M1)
def rmX11_goOn : Room := { frames := 3, cells := 0, slots := 0, locals := 69 }
abbrev RRX11_goOn : Room := (headSpec wsX11_goOn rmX11_goOn).room
theorem inX11_goOn : ∀ w ∈ wsX110, w ∈ wsX11_goOn := by decide +kernel
set_option maxHeartbeats 4000000 in
set_option maxRecDepth 100000 in
theorem c_X11_goOn (l : Launch) (dC : Nat → ClassId) (dI : Nat → Nat → Nat) (tI tZ : ClassId) (h : Nat → Nat) (sz : Nat) (M : MS)  (M' : MS) (hf : f_X11_goOn M  = some M') : cMv l yX11_goOn wsX11_goOn rmX11_goOn dC dI tI tZ h sz [.ref (h 0)] M M' := by
  refine Met.ofW (cc := cX11_goOn) (maxL := 1) (ret := none) (by decide) rfl ?_
  intro p e s m args below meth c s₁ B hml hv
  obtain ⟨hargs, hsz, hP, hK, hD0⟩ := hv
  have hx := B.exec
  have hb := B.bytes
  have hr := B.returns
  have hts := atoms_spec (ws := wsX11_goOn) B.pre
  have hown : s.vm.findClass RX11 = some m.cls := findClass_of_methodNamed B.named
  have hlocks := B.notSynchronized
  have hin := inX11_goOn
  have hsz : s.heap.size = sz := hsz
  subst hsz
  have lk149 : Cond.fieldLink RX11 149 (TX11 5).1 (TX11 5).2.1 (TX11 5).2.2.1 ∈ wsX11_goOn := by decide +kernel
  have lk156 : Cond.fieldLink RX11 156 (TX11 6).1 (TX11 6).2.1 (TX11 6).2.2.1 ∈ wsX11_goOn := by decide +kernel
  have hD := hD0.self (sz := s.heap.size)
  generalize hAe : va_A (wM tI tZ h M) s.heap.size = A at hD ⊢
  have hA : ∀ q : Nat, s.heap.size ≤ q → A q := fun q h => by rw [← hAe]; exact Or.inr h
  have hS : va_S A s.heap s.heap [] := va_S.rf
  have hl := lv_entry ([.ref (h 0)]) (n := 1) (Nat.le_of_ble_eq_true rfl)
  rw [show entryFrame m args 1 = entryFrame m ([.ref (h 0)] : List Value).toArray 1 from by rw [hargs], lg_entry_eq]
  generalize (lg_sl ([.ref (h 0)]) ++ List.replicate (1 - (lg_sl ([.ref (h 0)])).length) Slot.unset).toArray = ls at hl ⊢
  have hl : lv_has ls 1 [(0, .ref (h 0))] := hl
  unfold f_X11_goOn at hf
  refine lv_aload_n hx hb dX11_goOn_0 rfl (lv_at hl 0 rfl) ?_
  refine lv_aload_n hx hb dX11_goOn_1 rfl (lv_at hl 0 rfl) ?_
  refine geM hx hb hts hin hown hK hP 5 (by decide) lk149 rfl dX11_goOn_2 ?_
  refine lv_aload_n hx hb dX11_goOn_5 rfl (lv_at hl 0 rfl) ?_
  refine geM hx hb hts hin hown hK hP 6 (by decide) lk156 rfl dX11_goOn_6 ?_
  refine lv_iadd hx hb dX11_goOn_9 ?_
  obtain ⟨M1, eM1, hf⟩ := bd hf
  refine klMv (rest := []) (As := [.int ((M 5 0) + (M 6 0))]) ⟨hx, hb, hml, hown, hts⟩ (c_X11_look l dC dI tI tZ h s.heap.size M ((M 5 0) + (M 6 0)) M1 eM1) (cwV 1 hts gX11_goOn_X11_look rfl rfl rfl (by decide +kernel) ⟨Nat.le_of_ble_eq_true rfl, Nat.le_of_ble_eq_true rfl⟩) rfl hl.1 rfl (Nat.le_of_ble_eq_true rfl) dX11_goOn_10 ⟨Nat.zero_le _, Nat.zero_le _⟩ hK hP hD hS hA (fun H locs hP hD hS => ?_)
  exact rtMv hx hb hr hlocks hK hP hD hS hf dX11_goOn_13

def k_X11_isWord_76 (y3 : Int32) : Option Int32 :=
  Option.bind (zr y3) (fun z4 => some z4)
def b_X11_isWord_76 (M : MS) (p0 : Int32) (p1 : Int32) (p2 : Int32) (p3 : Int32) (p4 : Int32) (p5 : Int32) (p6 : Int32) (k1 : Int32) (y5 : Int32) (y6 : Int32) : Option ((Int32 × Int32) ⊕ Int32) :=
  (if k1 ≤ y6 then (some (Sum.inr y5)) else ((if y5 = 0 then (some (Sum.inr y5)) else (Option.bind (f_X11_byteAt M ((M 5 0) + y6)) (fun r7 => (if y6 = 0 then ((if r7 = p0 then (Option.bind (some (y6 + 1)) (fun x32 => some (Sum.inl (1, x32)))) else (Option.bind (some (y6 + 1)) (fun x31 => some (Sum.inl (0, x31)))))) else ((if y6 = 1 then ((if r7 = p1 then (Option.bind (some (y6 + 1)) (fun x28 => some (Sum.inl (1, x28)))) else (Option.bind (some (y6 + 1)) (fun x27 => some (Sum.inl (0, x27)))))) else ((if y6 = 2 then ((if r7 = p2 then (Option.bind (some (y6 + 1)) (fun x24 => some (Sum.inl (1, x24)))) else (Option.bind (some (y6 + 1)) (fun x23 => some (Sum.inl (0, x23)))))) else ((if y6 = 3 then ((if r7 = p3 then (Option.bind (some (y6 + 1)) (fun x20 => some (Sum.inl (1, x20)))) else (Option.bind (some (y6 + 1)) (fun x19 => some (Sum.inl (0, x19)))))) else ((if y6 = 4 then ((if r7 = p4 then (Option.bind (some (y6 + 1)) (fun x16 => some (Sum.inl (1, x16)))) else (Option.bind (some (y6 + 1)) (fun x15 => some (Sum.inl (0, x15)))))) else ((if y6 = 5 then ((if r7 = p5 then (Option.bind (some (y6 + 1)) (fun x12 => some (Sum.inl (1, x12)))) else (Option.bind (some (y6 + 1)) (fun x11 => some (Sum.inl (0, x11)))))) else ((if r7 = p6 then (Option.bind (some (y6 + 1)) (fun x9 => some (Sum.inl (1, x9)))) else (Option.bind (some (y6 + 1)) (fun x8 => some (Sum.inl (0, x8))))))))))))))))))))))
def j_X11_isWord_71 (M : MS) (p0 : Int32) (p1 : Int32) (p2 : Int32) (p3 : Int32) (p4 : Int32) (p5 : Int32) (p6 : Int32) (k1 : Int32) (k2 : Int32) : Option Int32 :=
  Option.bind (lp (fun s => b_X11_isWord_76 M p0 p1 p2 p3 p4 p5 p6 k1 s.1 s.2) FU (k2, 0)) (fun s => k_X11_isWord_76 s)
def j_X11_isWord_70 (M : MS) (p0 : Int32) (p1 : Int32) (p2 : Int32) (p3 : Int32) (p4 : Int32) (p5 : Int32) (p6 : Int32) (k1 : Int32) : Option Int32 :=
  j_X11_isWord_71 M p0 p1 p2 p3 p4 p5 p6 k1 0
def j_X11_isWord_47 (M : MS) (p0 : Int32) (p1 : Int32) (p2 : Int32) (p3 : Int32) (p4 : Int32) (p5 : Int32) (p6 : Int32) (k1 : Int32) : Option Int32 :=
  (if (M 7 0) = 1 then ((if (M 6 0) = k1 then (j_X11_isWord_71 M p0 p1 p2 p3 p4 p5 p6 k1 1) else (j_X11_isWord_70 M p0 p1 p2 p3 p4 p5 p6 k1))) else (j_X11_isWord_70 M p0 p1 p2 p3 p4 p5 p6 k1))
def f_X11_isWord (M : MS) (p0 : Int32) (p1 : Int32) (p2 : Int32) (p3 : Int32) (p4 : Int32) (p5 : Int32) (p6 : Int32) : Option Int32 :=
  (if p2 = 0 then (j_X11_isWord_47 M p0 p1 p2 p3 p4 p5 p6 2) else ((if p3 = 0 then (j_X11_isWord_47 M p0 p1 p2 p3 p4 p5 p6 3) else ((if p4 = 0 then (j_X11_isWord_47 M p0 p1 p2 p3 p4 p5 p6 4) else ((if p5 = 0 then (j_X11_isWord_47 M p0 p1 p2 p3 p4 p5 p6 5) else ((if p6 = 0 then (j_X11_isWord_47 M p0 p1 p2 p3 p4 p5 p6 6) else (j_X11_isWord_47 M p0 p1 p2 p3 p4 p5 p6 7))))))))))
def rmX11_isWord : Room := { frames := 1, cells := 0, slots := 0, locals := 21 }
abbrev RRX11_isWord : Room := (headSpec wsX11_isWord rmX11_isWord).room
theorem inX11_isWord : ∀ w ∈ wsX110, w ∈ wsX11_isWord := by decide +kernel
set_option maxHeartbeats 4000000 in
set_option maxRecDepth 100000 in
theorem c_X11_isWord (l : Launch) (dC : Nat → ClassId) (dI : Nat → Nat → Nat) (tI tZ : ClassId) (h : Nat → Nat) (sz : Nat) (M : MS) (p0 : Int32) (p1 : Int32) (p2 : Int32) (p3 : Int32) (p4 : Int32) (p5 : Int32) (p6 : Int32) (r : Int32) (hf : f_X11_isWord M p0 p1 p2 p3 p4 p5 p6 = some r) : cMi l yX11_isWord wsX11_isWord rmX11_isWord dC dI tI tZ h sz [.ref (h 0), .int p0, .int p1, .int p2, .int p3, .int p4, .int p5, .int p6] M r M := by
  refine Met.ofW (cc := cX11_isWord) (maxL := 11) (ret := (some .boolean)) (by decide) rfl ?_
  intro p e s m args below meth c s₁ B hml hv
  obtain ⟨hargs, hsz, hP, hK, hD0⟩ := hv
  have hx := B.exec
  have hb := B.bytes
  have hr := B.returns
  have hts := atoms_spec (ws := wsX11_isWord) B.pre
  have hown : s.vm.findClass RX11 = some m.cls := findClass_of_methodNamed B.named
  have hlocks := B.notSynchronized
  have hin := inX11_isWord
  have hsz : s.heap.size = sz := hsz
  subst hsz
  have lk149 : Cond.fieldLink RX11 149 (TX11 5).1 (TX11 5).2.1 (TX11 5).2.2.1 ∈ wsX11_isWord := by decide +kernel
  have lk156 : Cond.fieldLink RX11 156 (TX11 6).1 (TX11 6).2.1 (TX11 6).2.2.1 ∈ wsX11_isWord := by decide +kernel
  have lk159 : Cond.fieldLink RX11 159 (TX11 7).1 (TX11 7).2.1 (TX11 7).2.2.1 ∈ wsX11_isWord := by decide +kernel
  have hD := hD0.self (sz := s.heap.size)
  generalize hAe : va_A (wM tI tZ h M) s.heap.size = A at hD ⊢
  have hA : ∀ q : Nat, s.heap.size ≤ q → A q := fun q h => by rw [← hAe]; exact Or.inr h
  have hS : va_S A s.heap s.heap [] := va_S.rf
  have hl := lv_entry ([.ref (h 0), .int p0, .int p1, .int p2, .int p3, .int p4, .int p5, .int p6]) (n := 11) (Nat.le_of_ble_eq_true rfl)
  rw [show entryFrame m args 11 = entryFrame m ([.ref (h 0), .int p0, .int p1, .int p2, .int p3, .int p4, .int p5, .int p6] : List Value).toArray 11 from by rw [hargs], lg_entry_eq]
  generalize (lg_sl ([.ref (h 0), .int p0, .int p1, .int p2, .int p3, .int p4, .int p5, .int p6]) ++ List.replicate (11 - (lg_sl ([.ref (h 0), .int p0, .int p1, .int p2, .int p3, .int p4, .int p5, .int p6])).length) Slot.unset).toArray = ls at hl ⊢
  have hl : lv_has ls 11 [(0, .ref (h 0)), (1, .int p0), (2, .int p1), (3, .int p2), (4, .int p3), (5, .int p4), (6, .int p5), (7, .int p6)] := hl
  unfold f_X11_isWord at hf
  refine lv_iload_n hx hb dX11_isWord_0 rfl (lv_at hl 3 rfl) ?_
  have J47 : ∀ (k1 : Int32) (H : Heap) (locs : List Loc) (ls : Array Slot), j_X11_isWord_47 M p0 p1 p2 p3 p4 p5 p6 k1 = some r → va_P (dC, dI) vwCl (wM tI tZ h M) H → va_D A (wM tI tZ h M) → va_S A s.heap H locs → lv_has ls 11 [(0, .ref (h 0)), (1, .int p0), (2, .int p1), (3, .int p2), (4, .int p3), (5, .int p4), (6, .int p5), (7, .int p6)] → W p l e RRX11_isWord s m args below meth c H locs 0 0 (MQ below (qcMi dC dI tI tZ A h r M) args s 0 0 A) (F0 m 47 ls [.int k1]) := by
    intro k1 H locs ls hf hP hD hS hl
    unfold j_X11_isWord_47 at hf
    refine lv_istore (lv' := [(8, .int k1), (0, .ref (h 0)), (1, .int p0), (2, .int p1), (3, .int p2), (4, .int p3), (5, .int p4), (6, .int p5), (7, .int p6)]) hx hb dX11_isWord_47 hl (by decide) rfl (fun ls hl => ?_)
    refine lv_aload_n hx hb dX11_isWord_49 rfl (lv_at hl 1 rfl) ?_
    refine geM hx hb hts hin hown hK hP 7 (by decide) lk159 rfl dX11_isWord_50 ?_
    refine lv_iconst (v := 1) hx hb dX11_isWord_53 (by decide) ?_
    have J71 : ∀ (k2 : Int32) (H : Heap) (locs : List Loc) (ls : Array Slot), j_X11_isWord_71 M p0 p1 p2 p3 p4 p5 p6 k1 k2 = some r → va_P (dC, dI) vwCl (wM tI tZ h M) H → va_D A (wM tI tZ h M) → va_S A s.heap H locs → lv_has ls 11 [(0, .ref (h 0)), (1, .int p0), (2, .int p1), (3, .int p2), (4, .int p3), (5, .int p4), (6, .int p5), (7, .int p6), (8, .int k1)] → W p l e RRX11_isWord s m args below meth c H locs 0 0 (MQ below (qcMi dC dI tI tZ A h r M) args s 0 0 A) (F0 m 71 ls [.int k2]) := by
      intro k2 H locs ls hf hP hD hS hl
      unfold j_X11_isWord_71 at hf
      refine lv_istore (lv' := [(9, .int k2), (0, .ref (h 0)), (1, .int p0), (2, .int p1), (3, .int p2), (4, .int p3), (5, .int p4), (6, .int p5), (7, .int p6), (8, .int k1)]) hx hb dX11_isWord_71 hl (by decide) rfl (fun ls hl => ?_)
      refine lv_iconst (v := 0) hx hb dX11_isWord_73 (by decide) ?_
      refine lv_istore (lv' := [(10, .int 0), (9, .int k2), (0, .ref (h 0)), (1, .int p0), (2, .int p1), (3, .int p2), (4, .int p3), (5, .int p4), (6, .int p5), (7, .int p6), (8, .int k1)]) hx hb dX11_isWord_74 hl (by decide) rfl (fun ls hl => ?_)
      have K76 : ∀ (y3 : Int32) (H : Heap) (locs : List Loc) (ls : Array Slot), k_X11_isWord_76 y3 = some r → va_P (dC, dI) vwCl (wM tI tZ h M) H → va_D A (wM tI tZ h M) → va_S A s.heap H locs → lv_has ls 11 [(9, .int y3)] → W p l e RRX11_isWord s m args below meth c H locs 0 0 (MQ below (qcMi dC dI tI tZ A h r M) args s 0 0 A) (F0 m 179 ls []) := by
        intro y3 H locs ls hf hP hD hS hl
        unfold k_X11_isWord_76 at hf
        refine lv_iload hx hb dX11_isWord_179 (lv_at hl 0 rfl) ?_
        obtain ⟨hnz4, hf⟩ := zr_b hf
        exact rtMz hx hb hr hlocks hK hP hD hS hnz4 (congrArg (fun z => some (z, M)) (Option.some.inj hf)) dX11_isWord_181
      obtain ⟨z76, ez76, hz76⟩ := bd hf
      have L76 : ∀ (n : Nat) (y5 : Int32) (y6 : Int32) (H : Heap) (locs : List Loc) (ls : Array Slot), lp (fun s => b_X11_isWord_76 M p0 p1 p2 p3 p4 p5 p6 k1 s.1 s.2) n (y5, y6) = some z76 → va_P (dC, dI) vwCl (wM tI tZ h M) H → va_D A (wM tI tZ h M) → va_S A s.heap H locs → lv_has ls 11 [(0, .ref (h 0)), (1, .int p0), (2, .int p1), (3, .int p2), (4, .int p3), (5, .int p4), (6, .int p5), (7, .int p6), (8, .int k1), (9, .int y5), (10, .int y6)] → W p l e RRX11_isWord s m args below meth c H locs 0 0 (MQ below (qcMi dC dI tI tZ A h r M) args s 0 0 A) (F0 m 76 ls []) := by
        intro n
        induction n with
        | zero => intro y5 y6 H locs ls hf; exact lp_z hf
        | succ n ih76 =>
          intro y5 y6 H locs ls hf hP hD hS hl
          obtain ⟨q76, hf, hq76⟩ := lp_i hf
          have hf : b_X11_isWord_76 M p0 p1 p2 p3 p4 p5 p6 k1 y5 y6 = some q76 := hf
          unfold b_X11_isWord_76 at hf
          refine lv_iload hx hb dX11_isWord_76 (lv_at hl 10 rfl) ?_
          refine lv_iload hx hb dX11_isWord_78 (lv_at hl 8 rfl) ?_
          refine lv_icmp_ge (tgt := 179) hx hb dX11_isWord_80 (by decide) (fun c36 => ?_) (fun c36 => ?_)
          · have hf := (if_pos c36).symm.trans hf
            exact K76 y5 _ _ _ (lp_x (k := (fun s => k_X11_isWord_76 s)) (lp_r hf hq76) hz76) hP hD hS (lv_sub hl [9] rfl)
          · have hf := (if_neg c36).symm.trans hf
            refine lv_iload hx hb dX11_isWord_83 (lv_at hl 9 rfl) ?_
            refine lv_if_eq (tgt := 179) hx hb dX11_isWord_85 (by decide) (fun c35 => ?_) (fun c35 => ?_)
            · have hf := (if_pos c35).symm.trans hf
              exact K76 y5 _ _ _ (lp_x (k := (fun s => k_X11_isWord_76 s)) (lp_r hf hq76) hz76) hP hD hS (lv_sub hl [9] rfl)
            · have hf := (if_neg c35).symm.trans hf
              refine lv_aload_n hx hb dX11_isWord_88 rfl (lv_at hl 0 rfl) ?_
              refine lv_aload_n hx hb dX11_isWord_89 rfl (lv_at hl 0 rfl) ?_
              refine geM hx hb hts hin hown hK hP 5 (by decide) lk149 rfl dX11_isWord_90 ?_
              refine lv_iload hx hb dX11_isWord_93 (lv_at hl 10 rfl) ?_
              refine lv_iadd hx hb dX11_isWord_95 ?_
              obtain ⟨r7, er7, hf⟩ := bd hf
              refine klMi (rest := []) (As := [.int ((M 5 0) + y6)]) ⟨hx, hb, hml, hown, hts⟩ (c_X11_byteAt l dC dI tI tZ h H.size M ((M 5 0) + y6) r7 er7) (cwV 1 hts gX11_isWord_X11_byteAt rfl rfl rfl (by decide +kernel) ⟨Nat.le_of_ble_eq_true rfl, Nat.le_of_ble_eq_true rfl⟩) rfl hl.1 rfl (Nat.le_of_ble_eq_true rfl) dX11_isWord_96 ⟨Nat.zero_le _, Nat.zero_le _⟩ hK hP hD hS hA (fun H locs hP hD hS => ?_)
              refine lv_iload hx hb dX11_isWord_99 (lv_at hl 10 rfl) ?_
              refine lv_if_ne (tgt := 108) hx hb dX11_isWord_101 (by decide) (fun c34 => ?_) (fun c34 => ?_)
              · have hf := (if_neg c34).symm.trans hf
                refine lv_iload hx hb dX11_isWord_108 (lv_at hl 10 rfl) ?_
                refine lv_iconst (v := 1) hx hb dX11_isWord_110 (by decide) ?_
                refine lv_icmp_ne (tgt := 118) hx hb dX11_isWord_111 (by decide) (fun c30 => ?_) (fun c30 => ?_)
                · have hf := (if_neg c30).symm.trans hf
                  refine lv_iload hx hb dX11_isWord_118 (lv_at hl 10 rfl) ?_
                  refine lv_iconst (v := 2) hx hb dX11_isWord_120 (by decide) ?_
                  refine lv_icmp_ne (tgt := 128) hx hb dX11_isWord_121 (by decide) (fun c26 => ?_) (fun c26 => ?_)
                  · have hf := (if_neg c26).symm.trans hf
                    refine lv_iload hx hb dX11_isWord_128 (lv_at hl 10 rfl) ?_
                    refine lv_iconst (v := 3) hx hb dX11_isWord_130 (by decide) ?_
                    refine lv_icmp_ne (tgt := 139) hx hb dX11_isWord_131 (by decide) (fun c22 => ?_) (fun c22 => ?_)
                    · have hf := (if_neg c22).symm.trans hf
                      refine lv_iload hx hb dX11_isWord_139 (lv_at hl 10 rfl) ?_
                      refine lv_iconst (v := 4) hx hb dX11_isWord_141 (by decide) ?_
                      refine lv_icmp_ne (tgt := 150) hx hb dX11_isWord_142 (by decide) (fun c18 => ?_) (fun c18 => ?_)
                      · have hf := (if_neg c18).symm.trans hf
                        refine lv_iload hx hb dX11_isWord_150 (lv_at hl 10 rfl) ?_
                        refine lv_iconst (v := 5) hx hb dX11_isWord_152 (by decide) ?_
                        refine lv_icmp_ne (tgt := 161) hx hb dX11_isWord_153 (by decide) (fun c14 => ?_) (fun c14 => ?_)
                        · have hf := (if_neg c14).symm.trans hf
                          refine lv_iload hx hb dX11_isWord_161 (lv_at hl 7 rfl) ?_
                          refine lv_icmp_ne (tgt := 170) hx hb dX11_isWord_163 (by decide) (fun c10 => ?_) (fun c10 => ?_)
                          · have hf := (if_neg c10).symm.trans hf
                            refine lv_iconst (v := 0) hx hb dX11_isWord_170 (by decide) ?_
                            refine lv_istore (lv' := [(9, .int 0), (0, .ref (h 0)), (1, .int p0), (2, .int p1), (3, .int p2), (4, .int p3), (5, .int p4), (6, .int p5), (7, .int p6), (8, .int k1), (10, .int y6)]) hx hb dX11_isWord_171 hl (by decide) rfl (fun ls hl => ?_)
                            obtain ⟨x8, ex8, hf⟩ := bn hf
                            refine lv_iinc (v := x8) (lv' := [(10, .int x8), (9, .int 0), (0, .ref (h 0)), (1, .int p0), (2, .int p1), (3, .int p2), (4, .int p3), (5, .int p4), (6, .int p5), (7, .int p6), (8, .int k1)]) hx hb dX11_isWord_173 hl (k := 10) rfl (by rw [ex8]; rfl) (by decide) rfl (fun ls hl => ?_)
                            refine lv_goto (tgt := 76) hx hb dX11_isWord_176 (by decide) ?_
                            exact ih76 0 x8 _ _ _ (lp_l hf hq76) hP hD hS (lv_sub hl [2, 3, 4, 5, 6, 7, 8, 9, 10, 1, 0] rfl)
                          · have hf := (if_pos c10).symm.trans hf
                            refine lv_iconst (v := 1) hx hb dX11_isWord_166 (by decide) ?_
                            refine lv_goto (tgt := 171) hx hb dX11_isWord_167 (by decide) ?_
                            refine lv_istore (lv' := [(9, .int 1), (0, .ref (h 0)), (1, .int p0), (2, .int p1), (3, .int p2), (4, .int p3), (5, .int p4), (6, .int p5), (7, .int p6), (8, .int k1), (10, .int y6)]) hx hb dX11_isWord_171 hl (by decide) rfl (fun ls hl => ?_)
                            obtain ⟨x9, ex9, hf⟩ := bn hf
                            refine lv_iinc (v := x9) (lv' := [(10, .int x9), (9, .int 1), (0, .ref (h 0)), (1, .int p0), (2, .int p1), (3, .int p2), (4, .int p3), (5, .int p4), (6, .int p5), (7, .int p6), (8, .int k1)]) hx hb dX11_isWord_173 hl (k := 10) rfl (by rw [ex9]; rfl) (by decide) rfl (fun ls hl => ?_)
                            refine lv_goto (tgt := 76) hx hb dX11_isWord_176 (by decide) ?_
                            exact ih76 1 x9 _ _ _ (lp_l hf hq76) hP hD hS (lv_sub hl [2, 3, 4, 5, 6, 7, 8, 9, 10, 1, 0] rfl)
                        · have hf := (if_pos c14).symm.trans hf
                          refine lv_iload hx hb dX11_isWord_156 (lv_at hl 6 rfl) ?_
                          refine lv_goto (tgt := 163) hx hb dX11_isWord_158 (by decide) ?_
                          refine lv_icmp_ne (tgt := 170) hx hb dX11_isWord_163 (by decide) (fun c13 => ?_) (fun c13 => ?_)
                          · have hf := (if_neg c13).symm.trans hf
                            refine lv_iconst (v := 0) hx hb dX11_isWord_170 (by decide) ?_
                            refine lv_istore (lv' := [(9, .int 0), (0, .ref (h 0)), (1, .int p0), (2, .int p1), (3, .int p2), (4, .int p3), (5, .int p4), (6, .int p5), (7, .int p6), (8, .int k1), (10, .int y6)]) hx hb dX11_isWord_171 hl (by decide) rfl (fun ls hl => ?_)
                            obtain ⟨x11, ex11, hf⟩ := bn hf
                            refine lv_iinc (v := x11) (lv' := [(10, .int x11), (9, .int 0), (0, .ref (h 0)), (1, .int p0), (2, .int p1), (3, .int p2), (4, .int p3), (5, .int p4), (6, .int p5), (7, .int p6), (8, .int k1)]) hx hb dX11_isWord_173 hl (k := 10) rfl (by rw [ex11]; rfl) (by decide) rfl (fun ls hl => ?_)
                            refine lv_goto (tgt := 76) hx hb dX11_isWord_176 (by decide) ?_
                            exact ih76 0 x11 _ _ _ (lp_l hf hq76) hP hD hS (lv_sub hl [2, 3, 4, 5, 6, 7, 8, 9, 10, 1, 0] rfl)
                          · have hf := (if_pos c13).symm.trans hf
                            refine lv_iconst (v := 1) hx hb dX11_isWord_166 (by decide) ?_
                            refine lv_goto (tgt := 171) hx hb dX11_isWord_167 (by decide) ?_
                            refine lv_istore (lv' := [(9, .int 1), (0, .ref (h 0)), (1, .int p0), (2, .int p1), (3, .int p2), (4, .int p3), (5, .int p4), (6, .int p5), (7, .int p6), (8, .int k1), (10, .int y6)]) hx hb dX11_isWord_171 hl (by decide) rfl (fun ls hl => ?_)
                            obtain ⟨x12, ex12, hf⟩ := bn hf
                            refine lv_iinc (v := x12) (lv' := [(10, .int x12), (9, .int 1), (0, .ref (h 0)), (1, .int p0), (2, .int p1), (3, .int p2), (4, .int p3), (5, .int p4), (6, .int p5), (7, .int p6), (8, .int k1)]) hx hb dX11_isWord_173 hl (k := 10) rfl (by rw [ex12]; rfl) (by decide) rfl (fun ls hl => ?_)
                            refine lv_goto (tgt := 76) hx hb dX11_isWord_176 (by decide) ?_
                            exact ih76 1 x12 _ _ _ (lp_l hf hq76) hP hD hS (lv_sub hl [2, 3, 4, 5, 6, 7, 8, 9, 10, 1, 0] rfl)
                      · have hf := (if_pos c18).symm.trans hf
                        refine lv_iload hx hb dX11_isWord_145 (lv_at hl 5 rfl) ?_
                        refine lv_goto (tgt := 163) hx hb dX11_isWord_147 (by decide) ?_
                        refine lv_icmp_ne (tgt := 170) hx hb dX11_isWord_163 (by decide) (fun c17 => ?_) (fun c17 => ?_)
                        · have hf := (if_neg c17).symm.trans hf
                          refine lv_iconst (v := 0) hx hb dX11_isWord_170 (by decide) ?_
                          refine lv_istore (lv' := [(9, .int 0), (0, .ref (h 0)), (1, .int p0), (2, .int p1), (3, .int p2), (4, .int p3), (5, .int p4), (6, .int p5), (7, .int p6), (8, .int k1), (10, .int y6)]) hx hb dX11_isWord_171 hl (by decide) rfl (fun ls hl => ?_)
                          obtain ⟨x15, ex15, hf⟩ := bn hf
                          refine lv_iinc (v := x15) (lv' := [(10, .int x15), (9, .int 0), (0, .ref (h 0)), (1, .int p0), (2, .int p1), (3, .int p2), (4, .int p3), (5, .int p4), (6, .int p5), (7, .int p6), (8, .int k1)]) hx hb dX11_isWord_173 hl (k := 10) rfl (by rw [ex15]; rfl) (by decide) rfl (fun ls hl => ?_)
                          refine lv_goto (tgt := 76) hx hb dX11_isWord_176 (by decide) ?_
                          exact ih76 0 x15 _ _ _ (lp_l hf hq76) hP hD hS (lv_sub hl [2, 3, 4, 5, 6, 7, 8, 9, 10, 1, 0] rfl)
                        · have hf := (if_pos c17).symm.trans hf
                          refine lv_iconst (v := 1) hx hb dX11_isWord_166 (by decide) ?_
                          refine lv_goto (tgt := 171) hx hb dX11_isWord_167 (by decide) ?_
                          refine lv_istore (lv' := [(9, .int 1), (0, .ref (h 0)), (1, .int p0), (2, .int p1), (3, .int p2), (4, .int p3), (5, .int p4), (6, .int p5), (7, .int p6), (8, .int k1), (10, .int y6)]) hx hb dX11_isWord_171 hl (by decide) rfl (fun ls hl => ?_)
                          obtain ⟨x16, ex16, hf⟩ := bn hf
                          refine lv_iinc (v := x16) (lv' := [(10, .int x16), (9, .int 1), (0, .ref (h 0)), (1, .int p0), (2, .int p1), (3, .int p2), (4, .int p3), (5, .int p4), (6, .int p5), (7, .int p6), (8, .int k1)]) hx hb dX11_isWord_173 hl (k := 10) rfl (by rw [ex16]; rfl) (by decide) rfl (fun ls hl => ?_)
                          refine lv_goto (tgt := 76) hx hb dX11_isWord_176 (by decide) ?_
                          exact ih76 1 x16 _ _ _ (lp_l hf hq76) hP hD hS (lv_sub hl [2, 3, 4, 5, 6, 7, 8, 9, 10, 1, 0] rfl)
                    · have hf := (if_pos c22).symm.trans hf
                      refine lv_iload hx hb dX11_isWord_134 (lv_at hl 4 rfl) ?_
                      refine lv_goto (tgt := 163) hx hb dX11_isWord_136 (by decide) ?_
                      refine lv_icmp_ne (tgt := 170) hx hb dX11_isWord_163 (by decide) (fun c21 => ?_) (fun c21 => ?_)
                      · have hf := (if_neg c21).symm.trans hf
                        refine lv_iconst (v := 0) hx hb dX11_isWord_170 (by decide) ?_
                        refine lv_istore (lv' := [(9, .int 0), (0, .ref (h 0)), (1, .int p0), (2, .int p1), (3, .int p2), (4, .int p3), (5, .int p4), (6, .int p5), (7, .int p6), (8, .int k1), (10, .int y6)]) hx hb dX11_isWord_171 hl (by decide) rfl (fun ls hl => ?_)
                        obtain ⟨x19, ex19, hf⟩ := bn hf
                        refine lv_iinc (v := x19) (lv' := [(10, .int x19), (9, .int 0), (0, .ref (h 0)), (1, .int p0), (2, .int p1), (3, .int p2), (4, .int p3), (5, .int p4), (6, .int p5), (7, .int p6), (8, .int k1)]) hx hb dX11_isWord_173 hl (k := 10) rfl (by rw [ex19]; rfl) (by decide) rfl (fun ls hl => ?_)
                        refine lv_goto (tgt := 76) hx hb dX11_isWord_176 (by decide) ?_
                        exact ih76 0 x19 _ _ _ (lp_l hf hq76) hP hD hS (lv_sub hl [2, 3, 4, 5, 6, 7, 8, 9, 10, 1, 0] rfl)
                      · have hf := (if_pos c21).symm.trans hf
                        refine lv_iconst (v := 1) hx hb dX11_isWord_166 (by decide) ?_
                        refine lv_goto (tgt := 171) hx hb dX11_isWord_167 (by decide) ?_
                        refine lv_istore (lv' := [(9, .int 1), (0, .ref (h 0)), (1, .int p0), (2, .int p1), (3, .int p2), (4, .int p3), (5, .int p4), (6, .int p5), (7, .int p6), (8, .int k1), (10, .int y6)]) hx hb dX11_isWord_171 hl (by decide) rfl (fun ls hl => ?_)
                        obtain ⟨x20, ex20, hf⟩ := bn hf
                        refine lv_iinc (v := x20) (lv' := [(10, .int x20), (9, .int 1), (0, .ref (h 0)), (1, .int p0), (2, .int p1), (3, .int p2), (4, .int p3), (5, .int p4), (6, .int p5), (7, .int p6), (8, .int k1)]) hx hb dX11_isWord_173 hl (k := 10) rfl (by rw [ex20]; rfl) (by decide) rfl (fun ls hl => ?_)
                        refine lv_goto (tgt := 76) hx hb dX11_isWord_176 (by decide) ?_
                        exact ih76 1 x20 _ _ _ (lp_l hf hq76) hP hD hS (lv_sub hl [2, 3, 4, 5, 6, 7, 8, 9, 10, 1, 0] rfl)
                  · have hf := (if_pos c26).symm.trans hf
                    refine lv_iload_n hx hb dX11_isWord_124 rfl (lv_at hl 3 rfl) ?_
                    refine lv_goto (tgt := 163) hx hb dX11_isWord_125 (by decide) ?_
                    refine lv_icmp_ne (tgt := 170) hx hb dX11_isWord_163 (by decide) (fun c25 => ?_) (fun c25 => ?_)
                    · have hf := (if_neg c25).symm.trans hf
                      refine lv_iconst (v := 0) hx hb dX11_isWord_170 (by decide) ?_
                      refine lv_istore (lv' := [(9, .int 0), (0, .ref (h 0)), (1, .int p0), (2, .int p1), (3, .int p2), (4, .int p3), (5, .int p4), (6, .int p5), (7, .int p6), (8, .int k1), (10, .int y6)]) hx hb dX11_isWord_171 hl (by decide) rfl (fun ls hl => ?_)
                      obtain ⟨x23, ex23, hf⟩ := bn hf
                      refine lv_iinc (v := x23) (lv' := [(10, .int x23), (9, .int 0), (0, .ref (h 0)), (1, .int p0), (2, .int p1), (3, .int p2), (4, .int p3), (5, .int p4), (6, .int p5), (7, .int p6), (8, .int k1)]) hx hb dX11_isWord_173 hl (k := 10) rfl (by rw [ex23]; rfl) (by decide) rfl (fun ls hl => ?_)
                      refine lv_goto (tgt := 76) hx hb dX11_isWord_176 (by decide) ?_
                      exact ih76 0 x23 _ _ _ (lp_l hf hq76) hP hD hS (lv_sub hl [2, 3, 4, 5, 6, 7, 8, 9, 10, 1, 0] rfl)
                    · have hf := (if_pos c25).symm.trans hf
                      refine lv_iconst (v := 1) hx hb dX11_isWord_166 (by decide) ?_
                      refine lv_goto (tgt := 171) hx hb dX11_isWord_167 (by decide) ?_
                      refine lv_istore (lv' := [(9, .int 1), (0, .ref (h 0)), (1, .int p0), (2, .int p1), (3, .int p2), (4, .int p3), (5, .int p4), (6, .int p5), (7, .int p6), (8, .int k1), (10, .int y6)]) hx hb dX11_isWord_171 hl (by decide) rfl (fun ls hl => ?_)
                      obtain ⟨x24, ex24, hf⟩ := bn hf
                      refine lv_iinc (v := x24) (lv' := [(10, .int x24), (9, .int 1), (0, .ref (h 0)), (1, .int p0), (2, .int p1), (3, .int p2), (4, .int p3), (5, .int p4), (6, .int p5), (7, .int p6), (8, .int k1)]) hx hb dX11_isWord_173 hl (k := 10) rfl (by rw [ex24]; rfl) (by decide) rfl (fun ls hl => ?_)
                      refine lv_goto (tgt := 76) hx hb dX11_isWord_176 (by decide) ?_
                      exact ih76 1 x24 _ _ _ (lp_l hf hq76) hP hD hS (lv_sub hl [2, 3, 4, 5, 6, 7, 8, 9, 10, 1, 0] rfl)
                · have hf := (if_pos c30).symm.trans hf
                  refine lv_iload_n hx hb dX11_isWord_114 rfl (lv_at hl 2 rfl) ?_
                  refine lv_goto (tgt := 163) hx hb dX11_isWord_115 (by decide) ?_
                  refine lv_icmp_ne (tgt := 170) hx hb dX11_isWord_163 (by decide) (fun c29 => ?_) (fun c29 => ?_)
                  · have hf := (if_neg c29).symm.trans hf
                    refine lv_iconst (v := 0) hx hb dX11_isWord_170 (by decide) ?_
                    refine lv_istore (lv' := [(9, .int 0), (0, .ref (h 0)), (1, .int p0), (2, .int p1), (3, .int p2), (4, .int p3), (5, .int p4), (6, .int p5), (7, .int p6), (8, .int k1), (10, .int y6)]) hx hb dX11_isWord_171 hl (by decide) rfl (fun ls hl => ?_)
                    obtain ⟨x27, ex27, hf⟩ := bn hf
                    refine lv_iinc (v := x27) (lv' := [(10, .int x27), (9, .int 0), (0, .ref (h 0)), (1, .int p0), (2, .int p1), (3, .int p2), (4, .int p3), (5, .int p4), (6, .int p5), (7, .int p6), (8, .int k1)]) hx hb dX11_isWord_173 hl (k := 10) rfl (by rw [ex27]; rfl) (by decide) rfl (fun ls hl => ?_)
                    refine lv_goto (tgt := 76) hx hb dX11_isWord_176 (by decide) ?_
                    exact ih76 0 x27 _ _ _ (lp_l hf hq76) hP hD hS (lv_sub hl [2, 3, 4, 5, 6, 7, 8, 9, 10, 1, 0] rfl)
                  · have hf := (if_pos c29).symm.trans hf
                    refine lv_iconst (v := 1) hx hb dX11_isWord_166 (by decide) ?_
                    refine lv_goto (tgt := 171) hx hb dX11_isWord_167 (by decide) ?_
                    refine lv_istore (lv' := [(9, .int 1), (0, .ref (h 0)), (1, .int p0), (2, .int p1), (3, .int p2), (4, .int p3), (5, .int p4), (6, .int p5), (7, .int p6), (8, .int k1), (10, .int y6)]) hx hb dX11_isWord_171 hl (by decide) rfl (fun ls hl => ?_)
                    obtain ⟨x28, ex28, hf⟩ := bn hf
                    refine lv_iinc (v := x28) (lv' := [(10, .int x28), (9, .int 1), (0, .ref (h 0)), (1, .int p0), (2, .int p1), (3, .int p2), (4, .int p3), (5, .int p4), (6, .int p5), (7, .int p6), (8, .int k1)]) hx hb dX11_isWord_173 hl (k := 10) rfl (by rw [ex28]; rfl) (by decide) rfl (fun ls hl => ?_)
                    refine lv_goto (tgt := 76) hx hb dX11_isWord_176 (by decide) ?_
                    exact ih76 1 x28 _ _ _ (lp_l hf hq76) hP hD hS (lv_sub hl [2, 3, 4, 5, 6, 7, 8, 9, 10, 1, 0] rfl)
              · have hf := (if_pos c34).symm.trans hf
                refine lv_iload_n hx hb dX11_isWord_104 rfl (lv_at hl 1 rfl) ?_
                refine lv_goto (tgt := 163) hx hb dX11_isWord_105 (by decide) ?_
                refine lv_icmp_ne (tgt := 170) hx hb dX11_isWord_163 (by decide) (fun c33 => ?_) (fun c33 => ?_)
                · have hf := (if_neg c33).symm.trans hf
                  refine lv_iconst (v := 0) hx hb dX11_isWord_170 (by decide) ?_
                  refine lv_istore (lv' := [(9, .int 0), (0, .ref (h 0)), (1, .int p0), (2, .int p1), (3, .int p2), (4, .int p3), (5, .int p4), (6, .int p5), (7, .int p6), (8, .int k1), (10, .int y6)]) hx hb dX11_isWord_171 hl (by decide) rfl (fun ls hl => ?_)
                  obtain ⟨x31, ex31, hf⟩ := bn hf
                  refine lv_iinc (v := x31) (lv' := [(10, .int x31), (9, .int 0), (0, .ref (h 0)), (1, .int p0), (2, .int p1), (3, .int p2), (4, .int p3), (5, .int p4), (6, .int p5), (7, .int p6), (8, .int k1)]) hx hb dX11_isWord_173 hl (k := 10) rfl (by rw [ex31]; rfl) (by decide) rfl (fun ls hl => ?_)
                  refine lv_goto (tgt := 76) hx hb dX11_isWord_176 (by decide) ?_
                  exact ih76 0 x31 _ _ _ (lp_l hf hq76) hP hD hS (lv_sub hl [2, 3, 4, 5, 6, 7, 8, 9, 10, 1, 0] rfl)
                · have hf := (if_pos c33).symm.trans hf
                  refine lv_iconst (v := 1) hx hb dX11_isWord_166 (by decide) ?_
                  refine lv_goto (tgt := 171) hx hb dX11_isWord_167 (by decide) ?_
                  refine lv_istore (lv' := [(9, .int 1), (0, .ref (h 0)), (1, .int p0), (2, .int p1), (3, .int p2), (4, .int p3), (5, .int p4), (6, .int p5), (7, .int p6), (8, .int k1), (10, .int y6)]) hx hb dX11_isWord_171 hl (by decide) rfl (fun ls hl => ?_)
                  obtain ⟨x32, ex32, hf⟩ := bn hf
                  refine lv_iinc (v := x32) (lv' := [(10, .int x32), (9, .int 1), (0, .ref (h 0)), (1, .int p0), (2, .int p1), (3, .int p2), (4, .int p3), (5, .int p4), (6, .int p5), (7, .int p6), (8, .int k1)]) hx hb dX11_isWord_173 hl (k := 10) rfl (by rw [ex32]; rfl) (by decide) rfl (fun ls hl => ?_)
                  refine lv_goto (tgt := 76) hx hb dX11_isWord_176 (by decide) ?_
                  exact ih76 1 x32 _ _ _ (lp_l hf hq76) hP hD hS (lv_sub hl [2, 3, 4, 5, 6, 7, 8, 9, 10, 1, 0] rfl)
      exact L76 FU k2 0 _ _ _ ez76 hP hD hS (lv_sub hl [2, 3, 4, 5, 6, 7, 8, 9, 10, 1, 0] rfl)
    have J70 : ∀  (H : Heap) (locs : List Loc) (ls : Array Slot), j_X11_isWord_70 M p0 p1 p2 p3 p4 p5 p6 k1 = some r → va_P (dC, dI) vwCl (wM tI tZ h M) H → va_D A (wM tI tZ h M) → va_S A s.heap H locs → lv_has ls 11 [(0, .ref (h 0)), (1, .int p0), (2, .int p1), (3, .int p2), (4, .int p3), (5, .int p4), (6, .int p5), (7, .int p6), (8, .int k1)] → W p l e RRX11_isWord s m args below meth c H locs 0 0 (MQ below (qcMi dC dI tI tZ A h r M) args s 0 0 A) (F0 m 70 ls []) := by
      intro  H locs ls hf hP hD hS hl
      unfold j_X11_isWord_70 at hf
      refine lv_iconst (v := 0) hx hb dX11_isWord_70 (by decide) ?_
      exact J71 0 _ _ _ hf hP hD hS (lv_sub hl [0, 1, 2, 3, 4, 5, 6, 7, 8] rfl)
    refine lv_icmp_ne (tgt := 70) hx hb dX11_isWord_54 (by decide) (fun c38 => ?_) (fun c38 => ?_)
    · have hf := (if_neg c38).symm.trans hf
      exact J70  _ _ _ hf hP hD hS (lv_sub hl [1, 2, 3, 4, 5, 6, 7, 8, 0] rfl)
    · have hf := (if_pos c38).symm.trans hf
      refine lv_aload_n hx hb dX11_isWord_57 rfl (lv_at hl 1 rfl) ?_
      refine geM hx hb hts hin hown hK hP 6 (by decide) lk156 rfl dX11_isWord_58 ?_
      refine lv_iload hx hb dX11_isWord_61 (lv_at hl 0 rfl) ?_
      refine lv_icmp_ne (tgt := 70) hx hb dX11_isWord_63 (by decide) (fun c37 => ?_) (fun c37 => ?_)
      · have hf := (if_neg c37).symm.trans hf
        exact J70  _ _ _ hf hP hD hS (lv_sub hl [1, 2, 3, 4, 5, 6, 7, 8, 0] rfl)
      · have hf := (if_pos c37).symm.trans hf
        refine lv_iconst (v := 1) hx hb dX11_isWord_66 (by decide) ?_
        refine lv_goto (tgt := 71) hx hb dX11_isWord_67 (by decide) ?_
        exact J71 1 _ _ _ hf hP hD hS (lv_sub hl [1, 2, 3, 4, 5, 6, 7, 8, 0] rfl)
  refine lv_if_ne (tgt := 8) hx hb dX11_isWord_1 (by decide) (fun c43 => ?_) (fun c43 => ?_)
  · have hf := (if_neg c43).symm.trans hf
    refine lv_iload hx hb dX11_isWord_8 (lv_at hl 4 rfl) ?_
    refine lv_if_ne (tgt := 17) hx hb dX11_isWord_10 (by decide) (fun c42 => ?_) (fun c42 => ?_)
    · have hf := (if_neg c42).symm.trans hf
      refine lv_iload hx hb dX11_isWord_17 (lv_at hl 5 rfl) ?_
      refine lv_if_ne (tgt := 26) hx hb dX11_isWord_19 (by decide) (fun c41 => ?_) (fun c41 => ?_)
      · have hf := (if_neg c41).symm.trans hf
        refine lv_iload hx hb dX11_isWord_26 (lv_at hl 6 rfl) ?_
        refine lv_if_ne (tgt := 35) hx hb dX11_isWord_28 (by decide) (fun c40 => ?_) (fun c40 => ?_)
        · have hf := (if_neg c40).symm.trans hf
          refine lv_iload hx hb dX11_isWord_35 (lv_at hl 7 rfl) ?_
          refine lv_if_ne (tgt := 45) hx hb dX11_isWord_37 (by decide) (fun c39 => ?_) (fun c39 => ?_)
          · have hf := (if_neg c39).symm.trans hf
            refine lv_bipush (v := 7) hx hb dX11_isWord_45 (by decide) ?_
            exact J47 7 _ _ _ hf hP hD hS (lv_sub hl [0, 1, 2, 3, 4, 5, 6, 7] rfl)
          · have hf := (if_pos c39).symm.trans hf
            refine lv_bipush (v := 6) hx hb dX11_isWord_40 (by decide) ?_
            refine lv_goto (tgt := 47) hx hb dX11_isWord_42 (by decide) ?_
            exact J47 6 _ _ _ hf hP hD hS (lv_sub hl [0, 1, 2, 3, 4, 5, 6, 7] rfl)
        · have hf := (if_pos c40).symm.trans hf
          refine lv_iconst (v := 5) hx hb dX11_isWord_31 (by decide) ?_
          refine lv_goto (tgt := 47) hx hb dX11_isWord_32 (by decide) ?_
          exact J47 5 _ _ _ hf hP hD hS (lv_sub hl [0, 1, 2, 3, 4, 5, 6, 7] rfl)
      · have hf := (if_pos c41).symm.trans hf
        refine lv_iconst (v := 4) hx hb dX11_isWord_22 (by decide) ?_
        refine lv_goto (tgt := 47) hx hb dX11_isWord_23 (by decide) ?_
        exact J47 4 _ _ _ hf hP hD hS (lv_sub hl [0, 1, 2, 3, 4, 5, 6, 7] rfl)
    · have hf := (if_pos c42).symm.trans hf
      refine lv_iconst (v := 3) hx hb dX11_isWord_13 (by decide) ?_
      refine lv_goto (tgt := 47) hx hb dX11_isWord_14 (by decide) ?_
      exact J47 3 _ _ _ hf hP hD hS (lv_sub hl [0, 1, 2, 3, 4, 5, 6, 7] rfl)
  · have hf := (if_pos c43).symm.trans hf
    refine lv_iconst (v := 2) hx hb dX11_isWord_4 (by decide) ?_
    refine lv_goto (tgt := 47) hx hb dX11_isWord_5 (by decide) ?_
    exact J47 2 _ _ _ hf hP hD hS (lv_sub hl [0, 1, 2, 3, 4, 5, 6, 7] rfl)

def f_X11_takes (M : MS) (p0 : Int32) (p1 : Int32) : Option (Int32 × MS) :=
  (if (M 7 0) = 2 then (Option.bind (f_X11_in (Int32.toInt64 (M 8 0)) (Int32.toInt64 p0) (Int32.toInt64 p1)) (fun r1 => (if r1 = 0 then (some ((0, M))) else (Option.bind (some (va_up M 12 (fun _ => M 8 0))) (fun M2 => Option.bind (f_X11_goOn M2) (fun M3 => some ((1, M3)))))))) else (some ((0, M))))
def rmX11_takes : Room := { frames := 4, cells := 0, slots := 0, locals := 89 }
abbrev RRX11_takes : Room := (headSpec wsX11_takes rmX11_takes).room
theorem inX11_takes : ∀ w ∈ wsX110, w ∈ wsX11_takes := by decide +kernel
set_option maxHeartbeats 4000000 in
set_option maxRecDepth 100000 in
theorem c_X11_takes (l : Launch) (dC : Nat → ClassId) (dI : Nat → Nat → Nat) (tI tZ : ClassId) (h : Nat → Nat) (sz : Nat) (M : MS) (p0 : Int32) (p1 : Int32) (r : Int32) (M' : MS) (hf : f_X11_takes M p0 p1 = some (r, M')) : cMi l yX11_takes wsX11_takes rmX11_takes dC dI tI tZ h sz [.ref (h 0), .int p0, .int p1] M r M' := by
  refine Met.ofW (cc := cX11_takes) (maxL := 3) (ret := (some .boolean)) (by decide) rfl ?_
  intro p e s m args below meth c s₁ B hml hv
  obtain ⟨hargs, hsz, hP, hK, hD0⟩ := hv
  have hx := B.exec
  have hb := B.bytes
  have hr := B.returns
  have hts := atoms_spec (ws := wsX11_takes) B.pre
  have hown : s.vm.findClass RX11 = some m.cls := findClass_of_methodNamed B.named
  have hlocks := B.notSynchronized
  have hin := inX11_takes
  have hsz : s.heap.size = sz := hsz
  subst hsz
  have lk159 : Cond.fieldLink RX11 159 (TX11 7).1 (TX11 7).2.1 (TX11 7).2.2.1 ∈ wsX11_takes := by decide +kernel
  have lk162 : Cond.fieldLink RX11 162 (TX11 8).1 (TX11 8).2.1 (TX11 8).2.2.1 ∈ wsX11_takes := by decide +kernel
  have lk175 : Cond.fieldLink RX11 175 (TX11 12).1 (TX11 12).2.1 (TX11 12).2.2.1 ∈ wsX11_takes := by decide +kernel
  have hD := hD0.self (sz := s.heap.size)
  generalize hAe : va_A (wM tI tZ h M) s.heap.size = A at hD ⊢
  have hA : ∀ q : Nat, s.heap.size ≤ q → A q := fun q h => by rw [← hAe]; exact Or.inr h
  have hS : va_S A s.heap s.heap [] := va_S.rf
  have hl := lv_entry ([.ref (h 0), .int p0, .int p1]) (n := 3) (Nat.le_of_ble_eq_true rfl)
  rw [show entryFrame m args 3 = entryFrame m ([.ref (h 0), .int p0, .int p1] : List Value).toArray 3 from by rw [hargs], lg_entry_eq]
  generalize (lg_sl ([.ref (h 0), .int p0, .int p1]) ++ List.replicate (3 - (lg_sl ([.ref (h 0), .int p0, .int p1])).length) Slot.unset).toArray = ls at hl ⊢
  have hl : lv_has ls 3 [(0, .ref (h 0)), (1, .int p0), (2, .int p1)] := hl
  unfold f_X11_takes at hf
  refine lv_aload_n hx hb dX11_takes_0 rfl (lv_at hl 0 rfl) ?_
  refine geM hx hb hts hin hown hK hP 7 (by decide) lk159 rfl dX11_takes_1 ?_
  refine lv_iconst (v := 2) hx hb dX11_takes_4 (by decide) ?_
  refine lv_icmp_ne (tgt := 23) hx hb dX11_takes_5 (by decide) (fun c5 => ?_) (fun c5 => ?_)
  · have hf := (if_neg c5).symm.trans hf
    refine lv_iconst (v := 0) hx hb dX11_takes_23 (by decide) ?_
    exact rtMz hx hb hr hlocks hK hP hD hS rfl hf dX11_takes_24
  · have hf := (if_pos c5).symm.trans hf
    refine lv_aload_n hx hb dX11_takes_8 rfl (lv_at hl 0 rfl) ?_
    refine geM hx hb hts hin hown hK hP 8 (by decide) lk162 rfl dX11_takes_9 ?_
    refine lv_i2l hx hb dX11_takes_12 rfl ?_
    refine lv_iload_n hx hb dX11_takes_13 rfl (lv_at hl 1 rfl) ?_
    refine lv_i2l hx hb dX11_takes_14 rfl ?_
    refine lv_iload_n hx hb dX11_takes_15 rfl (lv_at hl 2 rfl) ?_
    refine lv_i2l hx hb dX11_takes_16 rfl ?_
    obtain ⟨r1, er1, hf⟩ := bd hf
    refine klEi (rest := []) (As := [.long (Int32.toInt64 (M 8 0)), .long (Int32.toInt64 p0), .long (Int32.toInt64 p1)]) ⟨hx, hb, hml, hown, hts⟩ (c_X11_in l s.heap.size (Int32.toInt64 (M 8 0)) (Int32.toInt64 p0) (Int32.toInt64 p1) r1 er1) (va_cwS 3 hts gX11_takes_X11_in rfl rfl rfl (by decide +kernel) ⟨Nat.le_of_ble_eq_true rfl, Nat.le_of_ble_eq_true rfl⟩) rfl hl.1 rfl (Nat.le_of_ble_eq_true rfl) dX11_takes_17 ⟨Nat.zero_le _, Nat.zero_le _⟩ hS hA (fun H2 locs hk hS => ?_)
    have hP := kpP hP hk
    generalize H2 = H at hP hS ⊢
    refine lv_if_ne (tgt := 25) hx hb dX11_takes_20 (by decide) (fun c4 => ?_) (fun c4 => ?_)
    · have hf := (if_neg c4).symm.trans hf
      refine lv_aload_n hx hb dX11_takes_25 rfl (lv_at hl 0 rfl) ?_
      refine lv_aload_n hx hb dX11_takes_26 rfl (lv_at hl 0 rfl) ?_
      refine geM hx hb hts hin hown hK hP 8 (by decide) lk162 rfl dX11_takes_27 ?_
      obtain ⟨M2, eM2, hf⟩ := bn hf
      refine puM (M1 := M2) hx hb hts hin hown hK hP hD hS 12 (by decide) lk175 rfl (by decide +kernel) (by rw [eM2]; rfl) dX11_takes_30 (fun H locs hP hD hS => ?_)
      refine lv_aload_n hx hb dX11_takes_33 rfl (lv_at hl 0 rfl) ?_
      obtain ⟨M3, eM3, hf⟩ := bd hf
      refine klMv (rest := []) (As := []) ⟨hx, hb, hml, hown, hts⟩ (c_X11_goOn l dC dI tI tZ h H.size M2 M3 eM3) (cwV 0 hts gX11_takes_X11_goOn rfl rfl rfl (by decide +kernel) ⟨Nat.le_of_ble_eq_true rfl, Nat.le_of_ble_eq_true rfl⟩) rfl hl.1 rfl (Nat.le_of_ble_eq_true rfl) dX11_takes_34 ⟨Nat.zero_le _, Nat.zero_le _⟩ hK hP hD hS hA (fun H locs hP hD hS => ?_)
      refine lv_iconst (v := 1) hx hb dX11_takes_37 (by decide) ?_
      exact rtMz hx hb hr hlocks hK hP hD hS rfl hf dX11_takes_38
    · have hf := (if_pos c4).symm.trans hf
      refine lv_iconst (v := 0) hx hb dX11_takes_23 (by decide) ?_
      exact rtMz hx hb hr hlocks hK hP hD hS rfl hf dX11_takes_24

def k_X11_readPorter_19 (y2 : Int32) (M3 : MS) : Option (Int32 × MS) :=
  Option.bind (some (va_up M3 10 (fun _ => (M3 10 0) + 1))) (fun M4 => Option.bind (zr y2) (fun z5 => some ((z5, M4))))
def j_X11_readPorter_69 (y7 : Int32) (M8 : MS) (k9 : Int32) (k10 : Int32) : Option ((Int32 × Int32 × MS) ⊕ (Int32 × MS)) :=
  bi2 (f_X11_takes M8 k9 k10) (fun r11 M12 => Option.bind (wrM M12 9 68 ((0 + (4 * (M12 10 0))) + y7) (M12 12 0)) (fun M13 => Option.bind (some (y7 + 1)) (fun x14 => some (Sum.inl (r11, x14, M13)))))
def j_X11_readPorter_39 (y7 : Int32) (M8 : MS) (k9 : Int32) : Option ((Int32 × Int32 × MS) ⊕ (Int32 × MS)) :=
  (if y7 = 0 then (j_X11_readPorter_69 y7 M8 k9 60) else ((if y7 = 1 then (j_X11_readPorter_69 y7 M8 k9 30) else ((if y7 = 2 then (j_X11_readPorter_69 y7 M8 k9 99) else (j_X11_readPorter_69 y7 M8 k9 5))))))
def b_X11_readPorter_19 (y6 : Int32) (y7 : Int32) (M8 : MS) : Option ((Int32 × Int32 × MS) ⊕ (Int32 × MS)) :=
  (if 4 ≤ y7 then (some (Sum.inr (y6, M8))) else ((if y6 = 0 then (some (Sum.inr (y6, M8))) else ((if 2 ≤ y7 then (j_X11_readPorter_39 y7 M8 0) else (j_X11_readPorter_39 y7 M8 1))))))
def f_X11_readPorter (M : MS)  : Option (Int32 × MS) :=
  (if (M 10 0) = 6 then (some ((0, M))) else (Option.bind (f_X11_goOn M) (fun M1 => Option.bind (lp (fun s => b_X11_readPorter_19 s.1 s.2.1 s.2.2) FU (1, 0, M1)) (fun s => k_X11_readPorter_19 s.1 s.2))))
def rmX11_readPorter : Room := { frames := 5, cells := 0, slots := 0, locals := 111 }
abbrev RRX11_readPorter : Room := (headSpec wsX11_readPorter rmX11_readPorter).room
theorem inX11_readPorter : ∀ w ∈ wsX110, w ∈ wsX11_readPorter := by decide +kernel
set_option maxHeartbeats 4000000 in
set_option maxRecDepth 100000 in
theorem c_X11_readPorter (l : Launch) (dC : Nat → ClassId) (dI : Nat → Nat → Nat) (tI tZ : ClassId) (h : Nat → Nat) (sz : Nat) (M : MS)  (r : Int32) (M' : MS) (hf : f_X11_readPorter M  = some (r, M')) : cMi l yX11_readPorter wsX11_readPorter rmX11_readPorter dC dI tI tZ h sz [.ref (h 0)] M r M' := by
  refine Met.ofW (cc := cX11_readPorter) (maxL := 3) (ret := (some .boolean)) (by decide) rfl ?_
  intro p e s m args below meth c s₁ B hml hv
  obtain ⟨hargs, hsz, hP, hK, hD0⟩ := hv
  have hx := B.exec
  have hb := B.bytes
  have hr := B.returns
  have hts := atoms_spec (ws := wsX11_readPorter) B.pre
  have hown : s.vm.findClass RX11 = some m.cls := findClass_of_methodNamed B.named
  have hlocks := B.notSynchronized
  have hin := inX11_readPorter
  have hsz : s.heap.size = sz := hsz
  subst hsz
  have lk26 : Cond.fieldLink RX11 26 (TX11 9).1 (TX11 9).2.1 (TX11 9).2.2.1 ∈ wsX11_readPorter := by decide +kernel
  have lk175 : Cond.fieldLink RX11 175 (TX11 12).1 (TX11 12).2.1 (TX11 12).2.2.1 ∈ wsX11_readPorter := by decide +kernel
  have lk181 : Cond.fieldLink RX11 181 (TX11 10).1 (TX11 10).2.1 (TX11 10).2.2.1 ∈ wsX11_readPorter := by decide +kernel
  have hD := hD0.self (sz := s.heap.size)
  generalize hAe : va_A (wM tI tZ h M) s.heap.size = A at hD ⊢
  have hA : ∀ q : Nat, s.heap.size ≤ q → A q := fun q h => by rw [← hAe]; exact Or.inr h
  have hS : va_S A s.heap s.heap [] := va_S.rf
  have hl := lv_entry ([.ref (h 0)]) (n := 3) (Nat.le_of_ble_eq_true rfl)
  rw [show entryFrame m args 3 = entryFrame m ([.ref (h 0)] : List Value).toArray 3 from by rw [hargs], lg_entry_eq]
  generalize (lg_sl ([.ref (h 0)]) ++ List.replicate (3 - (lg_sl ([.ref (h 0)])).length) Slot.unset).toArray = ls at hl ⊢
  have hl : lv_has ls 3 [(0, .ref (h 0))] := hl
  unfold f_X11_readPorter at hf
  refine lv_aload_n hx hb dX11_readPorter_0 rfl (lv_at hl 0 rfl) ?_
  refine geM hx hb hts hin hown hK hP 10 (by decide) lk181 rfl dX11_readPorter_1 ?_
  refine lv_bipush (v := 6) hx hb dX11_readPorter_4 (by decide) ?_
  refine lv_icmp_ne (tgt := 11) hx hb dX11_readPorter_6 (by decide) (fun c21 => ?_) (fun c21 => ?_)
  · have hf := (if_neg c21).symm.trans hf
    refine lv_aload_n hx hb dX11_readPorter_11 rfl (lv_at hl 0 rfl) ?_
    obtain ⟨M1, eM1, hf⟩ := bd hf
    refine klMv (rest := []) (As := []) ⟨hx, hb, hml, hown, hts⟩ (c_X11_goOn l dC dI tI tZ h s.heap.size M M1 eM1) (cwV 0 hts gX11_readPorter_X11_goOn rfl rfl rfl (by decide +kernel) ⟨Nat.le_of_ble_eq_true rfl, Nat.le_of_ble_eq_true rfl⟩) rfl hl.1 rfl (Nat.le_of_ble_eq_true rfl) dX11_readPorter_12 ⟨Nat.zero_le _, Nat.zero_le _⟩ hK hP hD hS hA (fun H locs hP hD hS => ?_)
    refine lv_iconst (v := 1) hx hb dX11_readPorter_15 (by decide) ?_
    refine lv_istore_n (lv' := [(1, .int 1), (0, .ref (h 0))]) hx hb dX11_readPorter_16 rfl hl (by decide) rfl (fun ls hl => ?_)
    refine lv_iconst (v := 0) hx hb dX11_readPorter_17 (by decide) ?_
    refine lv_istore_n (lv' := [(2, .int 0), (1, .int 1), (0, .ref (h 0))]) hx hb dX11_readPorter_18 rfl hl (by decide) rfl (fun ls hl => ?_)
    have K19 : ∀ (y2 : Int32) (M3 : MS) (H : Heap) (locs : List Loc) (ls : Array Slot), k_X11_readPorter_19 y2 M3 = some (r, M') → va_P (dC, dI) vwCl (wM tI tZ h M3) H → va_D A (wM tI tZ h M3) → va_S A s.heap H locs → lv_has ls 3 [(0, .ref (h 0)), (1, .int y2)] → W p l e RRX11_readPorter s m args below meth c H locs 0 0 (MQ below (qcMi dC dI tI tZ A h r M') args s 0 0 A) (F0 m 98 ls []) := by
      intro y2 M3 H locs ls hf hP hD hS hl
      unfold k_X11_readPorter_19 at hf
      refine lv_aload_n hx hb dX11_readPorter_98 rfl (lv_at hl 0 rfl) ?_
      refine lv_dup hx hb dX11_readPorter_99 rfl ?_
      refine geM hx hb hts hin hown hK hP 10 (by decide) lk181 rfl dX11_readPorter_100 ?_
      refine lv_iconst (v := 1) hx hb dX11_readPorter_103 (by decide) ?_
      refine lv_iadd hx hb dX11_readPorter_104 ?_
      obtain ⟨M4, eM4, hf⟩ := bn hf
      refine puM (M1 := M4) hx hb hts hin hown hK hP hD hS 10 (by decide) lk181 rfl (by decide +kernel) (by rw [eM4]; rfl) dX11_readPorter_105 (fun H locs hP hD hS => ?_)
      refine lv_iload_n hx hb dX11_readPorter_108 rfl (lv_at hl 1 rfl) ?_
      obtain ⟨hnz5, hf⟩ := zr_b hf
      exact rtMz hx hb hr hlocks hK hP hD hS hnz5 hf dX11_readPorter_109
    obtain ⟨z19, ez19, hz19⟩ := bd hf
    have L19 : ∀ (n : Nat) (y6 : Int32) (y7 : Int32) (M8 : MS) (H : Heap) (locs : List Loc) (ls : Array Slot), lp (fun s => b_X11_readPorter_19 s.1 s.2.1 s.2.2) n (y6, y7, M8) = some z19 → va_P (dC, dI) vwCl (wM tI tZ h M8) H → va_D A (wM tI tZ h M8) → va_S A s.heap H locs → lv_has ls 3 [(0, .ref (h 0)), (1, .int y6), (2, .int y7)] → W p l e RRX11_readPorter s m args below meth c H locs 0 0 (MQ below (qcMi dC dI tI tZ A h r M') args s 0 0 A) (F0 m 19 ls []) := by
      intro n
      induction n with
      | zero => intro y6 y7 M8 H locs ls hf; exact lp_z hf
      | succ n ih19 =>
        intro y6 y7 M8 H locs ls hf hP hD hS hl
        obtain ⟨q19, hf, hq19⟩ := lp_i hf
        have hf : b_X11_readPorter_19 y6 y7 M8 = some q19 := hf
        unfold b_X11_readPorter_19 at hf
        refine lv_iload_n hx hb dX11_readPorter_19 rfl (lv_at hl 2 rfl) ?_
        refine lv_iconst (v := 4) hx hb dX11_readPorter_20 (by decide) ?_
        refine lv_icmp_ge (tgt := 98) hx hb dX11_readPorter_21 (by decide) (fun c20 => ?_) (fun c20 => ?_)
        · have hf := (if_pos c20).symm.trans hf
          exact K19 y6 M8 _ _ _ (lp_x (k := (fun s => k_X11_readPorter_19 s.1 s.2)) (lp_r hf hq19) hz19) hP hD hS (lv_sub hl [0, 1] rfl)
        · have hf := (if_neg c20).symm.trans hf
          refine lv_iload_n hx hb dX11_readPorter_24 rfl (lv_at hl 1 rfl) ?_
          refine lv_if_eq (tgt := 98) hx hb dX11_readPorter_25 (by decide) (fun c19 => ?_) (fun c19 => ?_)
          · have hf := (if_pos c19).symm.trans hf
            exact K19 y6 M8 _ _ _ (lp_x (k := (fun s => k_X11_readPorter_19 s.1 s.2)) (lp_r hf hq19) hz19) hP hD hS (lv_sub hl [0, 1] rfl)
          · have hf := (if_neg c19).symm.trans hf
            refine lv_aload_n hx hb dX11_readPorter_28 rfl (lv_at hl 0 rfl) ?_
            refine lv_iload_n hx hb dX11_readPorter_29 rfl (lv_at hl 2 rfl) ?_
            refine lv_iconst (v := 2) hx hb dX11_readPorter_30 (by decide) ?_
            have J39 : ∀ (k9 : Int32) (H : Heap) (locs : List Loc) (ls : Array Slot), j_X11_readPorter_39 y7 M8 k9 = some q19 → va_P (dC, dI) vwCl (wM tI tZ h M8) H → va_D A (wM tI tZ h M8) → va_S A s.heap H locs → lv_has ls 3 [(0, .ref (h 0)), (2, .int y7)] → W p l e RRX11_readPorter s m args below meth c H locs 0 0 (MQ below (qcMi dC dI tI tZ A h r M') args s 0 0 A) (F0 m 39 ls [.int k9, .ref (h 0)]) := by
              intro k9 H locs ls hf hP hD hS hl
              unfold j_X11_readPorter_39 at hf
              refine lv_iload_n hx hb dX11_readPorter_39 rfl (lv_at hl 1 rfl) ?_
              have J69 : ∀ (k10 : Int32) (H : Heap) (locs : List Loc) (ls : Array Slot), j_X11_readPorter_69 y7 M8 k9 k10 = some q19 → va_P (dC, dI) vwCl (wM tI tZ h M8) H → va_D A (wM tI tZ h M8) → va_S A s.heap H locs → lv_has ls 3 [(0, .ref (h 0)), (2, .int y7)] → W p l e RRX11_readPorter s m args below meth c H locs 0 0 (MQ below (qcMi dC dI tI tZ A h r M') args s 0 0 A) (F0 m 69 ls [.int k10, .int k9, .ref (h 0)]) := by
                intro k10 H locs ls hf hP hD hS hl
                unfold j_X11_readPorter_69 at hf
                obtain ⟨r11, M12, er11, hf⟩ := b2 hf
                refine klMi (rest := []) (As := [.int k9, .int k10]) ⟨hx, hb, hml, hown, hts⟩ (c_X11_takes l dC dI tI tZ h H.size M8 k9 k10 r11 M12 er11) (cwV 2 hts gX11_readPorter_X11_takes rfl rfl rfl (by decide +kernel) ⟨Nat.le_of_ble_eq_true rfl, Nat.le_of_ble_eq_true rfl⟩) rfl hl.1 rfl (Nat.le_of_ble_eq_true rfl) dX11_readPorter_69 ⟨Nat.zero_le _, Nat.zero_le _⟩ hK hP hD hS hA (fun H locs hP hD hS => ?_)
                refine lv_istore_n (lv' := [(1, .int r11), (0, .ref (h 0)), (2, .int y7)]) hx hb dX11_readPorter_72 rfl hl (by decide) rfl (fun ls hl => ?_)
                refine lv_aload_n hx hb dX11_readPorter_73 rfl (lv_at hl 1 rfl) ?_
                refine geM hx hb hts hin hown hK hP 9 (by decide) lk26 rfl dX11_readPorter_74 ?_
                refine lv_iconst (v := 0) hx hb dX11_readPorter_77 (by decide) ?_
                refine lv_iconst (v := 4) hx hb dX11_readPorter_78 (by decide) ?_
                refine lv_aload_n hx hb dX11_readPorter_79 rfl (lv_at hl 1 rfl) ?_
                refine geM hx hb hts hin hown hK hP 10 (by decide) lk181 rfl dX11_readPorter_80 ?_
                refine lv_imul hx hb dX11_readPorter_83 ?_
                refine lv_iadd hx hb dX11_readPorter_84 ?_
                refine lv_iload_n hx hb dX11_readPorter_85 rfl (lv_at hl 2 rfl) ?_
                refine lv_iadd hx hb dX11_readPorter_86 ?_
                refine lv_aload_n hx hb dX11_readPorter_87 rfl (lv_at hl 1 rfl) ?_
                refine geM hx hb hts hin hown hK hP 12 (by decide) lk175 rfl dX11_readPorter_88 ?_
                obtain ⟨M13, hiM13, eM13, hf⟩ := wr_b hf
                refine va_iast hx hb hK hP hD hS 6 0 rfl rfl hiM13 dX11_readPorter_91 (fun H locs hP hD hS => ?_)
                have hP : va_P (dC, dI) vwCl (wM tI tZ h M13) H := by rw [eM13]; exact hP
                have hD : va_D A (wM tI tZ h M13) := by rw [eM13]; exact hD
                obtain ⟨x14, ex14, hf⟩ := bn hf
                refine lv_iinc (v := x14) (lv' := [(2, .int x14), (1, .int r11), (0, .ref (h 0))]) hx hb dX11_readPorter_92 hl (k := 2) rfl (by rw [ex14]; rfl) (by decide) rfl (fun ls hl => ?_)
                refine lv_goto (tgt := 19) hx hb dX11_readPorter_95 (by decide) ?_
                exact ih19 r11 x14 M13 _ _ _ (lp_l hf hq19) hP hD hS (lv_sub hl [2, 1, 0] rfl)
              refine lv_if_ne (tgt := 48) hx hb dX11_readPorter_40 (by decide) (fun c17 => ?_) (fun c17 => ?_)
              · have hf := (if_neg c17).symm.trans hf
                refine lv_iload_n hx hb dX11_readPorter_48 rfl (lv_at hl 1 rfl) ?_
                refine lv_iconst (v := 1) hx hb dX11_readPorter_49 (by decide) ?_
                refine lv_icmp_ne (tgt := 58) hx hb dX11_readPorter_50 (by decide) (fun c16 => ?_) (fun c16 => ?_)
                · have hf := (if_neg c16).symm.trans hf
                  refine lv_iload_n hx hb dX11_readPorter_58 rfl (lv_at hl 1 rfl) ?_
                  refine lv_iconst (v := 2) hx hb dX11_readPorter_59 (by decide) ?_
                  refine lv_icmp_ne (tgt := 68) hx hb dX11_readPorter_60 (by decide) (fun c15 => ?_) (fun c15 => ?_)
                  · have hf := (if_neg c15).symm.trans hf
                    refine lv_iconst (v := 5) hx hb dX11_readPorter_68 (by decide) ?_
                    exact J69 5 _ _ _ hf hP hD hS (lv_sub hl [0, 1] rfl)
                  · have hf := (if_pos c15).symm.trans hf
                    refine lv_bipush (v := 99) hx hb dX11_readPorter_63 (by decide) ?_
                    refine lv_goto (tgt := 69) hx hb dX11_readPorter_65 (by decide) ?_
                    exact J69 99 _ _ _ hf hP hD hS (lv_sub hl [0, 1] rfl)
                · have hf := (if_pos c16).symm.trans hf
                  refine lv_bipush (v := 30) hx hb dX11_readPorter_53 (by decide) ?_
                  refine lv_goto (tgt := 69) hx hb dX11_readPorter_55 (by decide) ?_
                  exact J69 30 _ _ _ hf hP hD hS (lv_sub hl [0, 1] rfl)
              · have hf := (if_pos c17).symm.trans hf
                refine lv_bipush (v := 60) hx hb dX11_readPorter_43 (by decide) ?_
                refine lv_goto (tgt := 69) hx hb dX11_readPorter_45 (by decide) ?_
                exact J69 60 _ _ _ hf hP hD hS (lv_sub hl [0, 1] rfl)
            refine lv_icmp_ge (tgt := 38) hx hb dX11_readPorter_31 (by decide) (fun c18 => ?_) (fun c18 => ?_)
            · have hf := (if_pos c18).symm.trans hf
              refine lv_iconst (v := 0) hx hb dX11_readPorter_38 (by decide) ?_
              exact J39 0 _ _ _ hf hP hD hS (lv_sub hl [0, 2] rfl)
            · have hf := (if_neg c18).symm.trans hf
              refine lv_iconst (v := 1) hx hb dX11_readPorter_34 (by decide) ?_
              refine lv_goto (tgt := 39) hx hb dX11_readPorter_35 (by decide) ?_
              exact J39 1 _ _ _ hf hP hD hS (lv_sub hl [0, 2] rfl)
    exact L19 FU 1 0 M1 _ _ _ ez19 hP hD hS (lv_sub hl [2, 1, 0] rfl)
  · have hf := (if_pos c21).symm.trans hf
    refine lv_iconst (v := 0) hx hb dX11_readPorter_9 (by decide) ?_
    exact rtMz hx hb hr hlocks hK hP hD hS rfl hf dX11_readPorter_10

def j_X11_readGo_138 (y10 : Int32) (M11 : MS) : Option (Int32 × MS) :=
  Option.bind (wrM M11 9 68 ((28 + (2 * (M11 11 0))) + 1) y10) (fun M12 => Option.bind (some (va_up M12 11 (fun _ => (M12 11 0) + 1))) (fun M13 => some ((1, M13))))
def j_X11_readGo_43 (M1 : MS) (k2 : Int32) : Option (Int32 × MS) :=
  bi2 (f_X11_takes M1 k2 239) (fun r3 M4 => (if r3 = 0 then (some ((0, M4))) else (Option.bind (wrM M4 9 68 (28 + (2 * (M4 11 0))) (M4 12 0)) (fun M5 => bi2 (f_X11_takes M5 0 ((M5 10 0) - 1)) (fun r6 M7 => (if r6 = 0 then (some ((0, M7))) else (Option.bind (some (M7 12 0)) (fun x8 => Option.bind (some (1 <<< (x8 &&& 31))) (fun x9 => (if (M7 7 0) = 2 then ((if (M7 8 0) = x8 then (some ((0, M7))) else (bi2 (f_X11_takes M7 0 ((M7 10 0) - 1)) (fun r14 M15 => (if r14 = 0 then (some ((0, M15))) else (Option.bind (some (x9 ||| (1 <<< ((M15 12 0) &&& 31)))) (fun x16 => j_X11_readGo_138 x16 M15))))))) else (j_X11_readGo_138 x9 M7)))))))))))
def f_X11_readGo (M : MS)  : Option (Int32 × MS) :=
  (if (M 11 0) = 20 then (some ((0, M))) else (Option.bind (f_X11_goOn M) (fun M1 => (if (M1 11 0) = 0 then (j_X11_readGo_43 M1 0) else (Option.bind (rdI 68 (M1 9) ((28 + (2 * (M1 11 0))) - 2)) (fun x22 => j_X11_readGo_43 M1 x22))))))
def rmX11_readGo : Room := { frames := 5, cells := 0, slots := 0, locals := 111 }
abbrev RRX11_readGo : Room := (headSpec wsX11_readGo rmX11_readGo).room
theorem inX11_readGo : ∀ w ∈ wsX110, w ∈ wsX11_readGo := by decide +kernel
set_option maxHeartbeats 4000000 in
set_option maxRecDepth 100000 in
theorem c_X11_readGo (l : Launch) (dC : Nat → ClassId) (dI : Nat → Nat → Nat) (tI tZ : ClassId) (h : Nat → Nat) (sz : Nat) (M : MS)  (r : Int32) (M' : MS) (hf : f_X11_readGo M  = some (r, M')) : cMi l yX11_readGo wsX11_readGo rmX11_readGo dC dI tI tZ h sz [.ref (h 0)] M r M' := by
  refine Met.ofW (cc := cX11_readGo) (maxL := 3) (ret := (some .boolean)) (by decide) rfl ?_
  intro p e s m args below meth c s₁ B hml hv
  obtain ⟨hargs, hsz, hP, hK, hD0⟩ := hv
  have hx := B.exec
  have hb := B.bytes
  have hr := B.returns
  have hts := atoms_spec (ws := wsX11_readGo) B.pre
  have hown : s.vm.findClass RX11 = some m.cls := findClass_of_methodNamed B.named
  have hlocks := B.notSynchronized
  have hin := inX11_readGo
  have hsz : s.heap.size = sz := hsz
  subst hsz
  have lk26 : Cond.fieldLink RX11 26 (TX11 9).1 (TX11 9).2.1 (TX11 9).2.2.1 ∈ wsX11_readGo := by decide +kernel
  have lk159 : Cond.fieldLink RX11 159 (TX11 7).1 (TX11 7).2.1 (TX11 7).2.2.1 ∈ wsX11_readGo := by decide +kernel
  have lk162 : Cond.fieldLink RX11 162 (TX11 8).1 (TX11 8).2.1 (TX11 8).2.2.1 ∈ wsX11_readGo := by decide +kernel
  have lk175 : Cond.fieldLink RX11 175 (TX11 12).1 (TX11 12).2.1 (TX11 12).2.2.1 ∈ wsX11_readGo := by decide +kernel
  have lk181 : Cond.fieldLink RX11 181 (TX11 10).1 (TX11 10).2.1 (TX11 10).2.2.1 ∈ wsX11_readGo := by decide +kernel
  have lk188 : Cond.fieldLink RX11 188 (TX11 11).1 (TX11 11).2.1 (TX11 11).2.2.1 ∈ wsX11_readGo := by decide +kernel
  have hD := hD0.self (sz := s.heap.size)
  generalize hAe : va_A (wM tI tZ h M) s.heap.size = A at hD ⊢
  have hA : ∀ q : Nat, s.heap.size ≤ q → A q := fun q h => by rw [← hAe]; exact Or.inr h
  have hS : va_S A s.heap s.heap [] := va_S.rf
  have hl := lv_entry ([.ref (h 0)]) (n := 3) (Nat.le_of_ble_eq_true rfl)
  rw [show entryFrame m args 3 = entryFrame m ([.ref (h 0)] : List Value).toArray 3 from by rw [hargs], lg_entry_eq]
  generalize (lg_sl ([.ref (h 0)]) ++ List.replicate (3 - (lg_sl ([.ref (h 0)])).length) Slot.unset).toArray = ls at hl ⊢
  have hl : lv_has ls 3 [(0, .ref (h 0))] := hl
  unfold f_X11_readGo at hf
  refine lv_aload_n hx hb dX11_readGo_0 rfl (lv_at hl 0 rfl) ?_
  refine geM hx hb hts hin hown hK hP 11 (by decide) lk188 rfl dX11_readGo_1 ?_
  refine lv_bipush (v := 20) hx hb dX11_readGo_4 (by decide) ?_
  refine lv_icmp_ne (tgt := 11) hx hb dX11_readGo_6 (by decide) (fun c24 => ?_) (fun c24 => ?_)
  · have hf := (if_neg c24).symm.trans hf
    refine lv_aload_n hx hb dX11_readGo_11 rfl (lv_at hl 0 rfl) ?_
    obtain ⟨M1, eM1, hf⟩ := bd hf
    refine klMv (rest := []) (As := []) ⟨hx, hb, hml, hown, hts⟩ (c_X11_goOn l dC dI tI tZ h s.heap.size M M1 eM1) (cwV 0 hts gX11_readGo_X11_goOn rfl rfl rfl (by decide +kernel) ⟨Nat.le_of_ble_eq_true rfl, Nat.le_of_ble_eq_true rfl⟩) rfl hl.1 rfl (Nat.le_of_ble_eq_true rfl) dX11_readGo_12 ⟨Nat.zero_le _, Nat.zero_le _⟩ hK hP hD hS hA (fun H locs hP hD hS => ?_)
    refine lv_aload_n hx hb dX11_readGo_15 rfl (lv_at hl 0 rfl) ?_
    refine lv_aload_n hx hb dX11_readGo_16 rfl (lv_at hl 0 rfl) ?_
    refine geM hx hb hts hin hown hK hP 11 (by decide) lk188 rfl dX11_readGo_17 ?_
    have J43 : ∀ (k2 : Int32) (H : Heap) (locs : List Loc) (ls : Array Slot), j_X11_readGo_43 M1 k2 = some (r, M') → va_P (dC, dI) vwCl (wM tI tZ h M1) H → va_D A (wM tI tZ h M1) → va_S A s.heap H locs → lv_has ls 3 [(0, .ref (h 0))] → W p l e RRX11_readGo s m args below meth c H locs 0 0 (MQ below (qcMi dC dI tI tZ A h r M') args s 0 0 A) (F0 m 43 ls [.int k2, .ref (h 0)]) := by
      intro k2 H locs ls hf hP hD hS hl
      unfold j_X11_readGo_43 at hf
      refine lv_sipush (v := 239) hx hb dX11_readGo_43 (by decide) ?_
      obtain ⟨r3, M4, er3, hf⟩ := b2 hf
      refine klMi (rest := []) (As := [.int k2, .int 239]) ⟨hx, hb, hml, hown, hts⟩ (c_X11_takes l dC dI tI tZ h H.size M1 k2 239 r3 M4 er3) (cwV 2 hts gX11_readGo_X11_takes rfl rfl rfl (by decide +kernel) ⟨Nat.le_of_ble_eq_true rfl, Nat.le_of_ble_eq_true rfl⟩) rfl hl.1 rfl (Nat.le_of_ble_eq_true rfl) dX11_readGo_46 ⟨Nat.zero_le _, Nat.zero_le _⟩ hK hP hD hS hA (fun H locs hP hD hS => ?_)
      refine lv_if_ne (tgt := 54) hx hb dX11_readGo_49 (by decide) (fun c21 => ?_) (fun c21 => ?_)
      · have hf := (if_neg c21).symm.trans hf
        refine lv_aload_n hx hb dX11_readGo_54 rfl (lv_at hl 0 rfl) ?_
        refine geM hx hb hts hin hown hK hP 9 (by decide) lk26 rfl dX11_readGo_55 ?_
        refine lv_bipush (v := 28) hx hb dX11_readGo_58 (by decide) ?_
        refine lv_iconst (v := 2) hx hb dX11_readGo_60 (by decide) ?_
        refine lv_aload_n hx hb dX11_readGo_61 rfl (lv_at hl 0 rfl) ?_
        refine geM hx hb hts hin hown hK hP 11 (by decide) lk188 rfl dX11_readGo_62 ?_
        refine lv_imul hx hb dX11_readGo_65 ?_
        refine lv_iadd hx hb dX11_readGo_66 ?_
        refine lv_aload_n hx hb dX11_readGo_67 rfl (lv_at hl 0 rfl) ?_
        refine geM hx hb hts hin hown hK hP 12 (by decide) lk175 rfl dX11_readGo_68 ?_
        obtain ⟨M5, hiM5, eM5, hf⟩ := wr_b hf
        refine va_iast hx hb hK hP hD hS 6 0 rfl rfl hiM5 dX11_readGo_71 (fun H locs hP hD hS => ?_)
        have hP : va_P (dC, dI) vwCl (wM tI tZ h M5) H := by rw [eM5]; exact hP
        have hD : va_D A (wM tI tZ h M5) := by rw [eM5]; exact hD
        refine lv_aload_n hx hb dX11_readGo_72 rfl (lv_at hl 0 rfl) ?_
        refine lv_iconst (v := 0) hx hb dX11_readGo_73 (by decide) ?_
        refine lv_aload_n hx hb dX11_readGo_74 rfl (lv_at hl 0 rfl) ?_
        refine geM hx hb hts hin hown hK hP 10 (by decide) lk181 rfl dX11_readGo_75 ?_
        refine lv_iconst (v := 1) hx hb dX11_readGo_78 (by decide) ?_
        refine lv_isub hx hb dX11_readGo_79 ?_
        obtain ⟨r6, M7, er6, hf⟩ := b2 hf
        refine klMi (rest := []) (As := [.int 0, .int ((M5 10 0) - 1)]) ⟨hx, hb, hml, hown, hts⟩ (c_X11_takes l dC dI tI tZ h H.size M5 0 ((M5 10 0) - 1) r6 M7 er6) (cwV 2 hts gX11_readGo_X11_takes rfl rfl rfl (by decide +kernel) ⟨Nat.le_of_ble_eq_true rfl, Nat.le_of_ble_eq_true rfl⟩) rfl hl.1 rfl (Nat.le_of_ble_eq_true rfl) dX11_readGo_80 ⟨Nat.zero_le _, Nat.zero_le _⟩ hK hP hD hS hA (fun H locs hP hD hS => ?_)
        refine lv_if_ne (tgt := 88) hx hb dX11_readGo_83 (by decide) (fun c20 => ?_) (fun c20 => ?_)
        · have hf := (if_neg c20).symm.trans hf
          refine lv_aload_n hx hb dX11_readGo_88 rfl (lv_at hl 0 rfl) ?_
          refine geM hx hb hts hin hown hK hP 12 (by decide) lk175 rfl dX11_readGo_89 ?_
          refine lv_topi (fun x8 ex8 => ?_)
          have hf := bs ex8 hf
          refine lv_istore_n (lv' := [(1, .int x8), (0, .ref (h 0))]) hx hb dX11_readGo_92 rfl hl (by decide) rfl (fun ls hl => ?_)
          refine lv_iconst (v := 1) hx hb dX11_readGo_93 (by decide) ?_
          refine lv_iload_n hx hb dX11_readGo_94 rfl (lv_at hl 0 rfl) ?_
          refine lv_ishl hx hb dX11_readGo_95 ?_
          refine lv_topi (fun x9 ex9 => ?_)
          have hf := bs ex9 hf
          refine lv_istore_n (lv' := [(2, .int x9), (1, .int x8), (0, .ref (h 0))]) hx hb dX11_readGo_96 rfl hl (by decide) rfl (fun ls hl => ?_)
          refine lv_aload_n hx hb dX11_readGo_97 rfl (lv_at hl 2 rfl) ?_
          refine geM hx hb hts hin hown hK hP 7 (by decide) lk159 rfl dX11_readGo_98 ?_
          refine lv_iconst (v := 2) hx hb dX11_readGo_101 (by decide) ?_
          have J138 : ∀ (y10 : Int32) (M11 : MS) (H : Heap) (locs : List Loc) (ls : Array Slot), j_X11_readGo_138 y10 M11 = some (r, M') → va_P (dC, dI) vwCl (wM tI tZ h M11) H → va_D A (wM tI tZ h M11) → va_S A s.heap H locs → lv_has ls 3 [(0, .ref (h 0)), (2, .int y10)] → W p l e RRX11_readGo s m args below meth c H locs 0 0 (MQ below (qcMi dC dI tI tZ A h r M') args s 0 0 A) (F0 m 138 ls []) := by
            intro y10 M11 H locs ls hf hP hD hS hl
            unfold j_X11_readGo_138 at hf
            refine lv_aload_n hx hb dX11_readGo_138 rfl (lv_at hl 0 rfl) ?_
            refine geM hx hb hts hin hown hK hP 9 (by decide) lk26 rfl dX11_readGo_139 ?_
            refine lv_bipush (v := 28) hx hb dX11_readGo_142 (by decide) ?_
            refine lv_iconst (v := 2) hx hb dX11_readGo_144 (by decide) ?_
            refine lv_aload_n hx hb dX11_readGo_145 rfl (lv_at hl 0 rfl) ?_
            refine geM hx hb hts hin hown hK hP 11 (by decide) lk188 rfl dX11_readGo_146 ?_
            refine lv_imul hx hb dX11_readGo_149 ?_
            refine lv_iadd hx hb dX11_readGo_150 ?_
            refine lv_iconst (v := 1) hx hb dX11_readGo_151 (by decide) ?_
            refine lv_iadd hx hb dX11_readGo_152 ?_
            refine lv_iload_n hx hb dX11_readGo_153 rfl (lv_at hl 1 rfl) ?_
            obtain ⟨M12, hiM12, eM12, hf⟩ := wr_b hf
            refine va_iast hx hb hK hP hD hS 6 0 rfl rfl hiM12 dX11_readGo_154 (fun H locs hP hD hS => ?_)
            have hP : va_P (dC, dI) vwCl (wM tI tZ h M12) H := by rw [eM12]; exact hP
            have hD : va_D A (wM tI tZ h M12) := by rw [eM12]; exact hD
            refine lv_aload_n hx hb dX11_readGo_155 rfl (lv_at hl 0 rfl) ?_
            refine lv_dup hx hb dX11_readGo_156 rfl ?_
            refine geM hx hb hts hin hown hK hP 11 (by decide) lk188 rfl dX11_readGo_157 ?_
            refine lv_iconst (v := 1) hx hb dX11_readGo_160 (by decide) ?_
            refine lv_iadd hx hb dX11_readGo_161 ?_
            obtain ⟨M13, eM13, hf⟩ := bn hf
            refine puM (M1 := M13) hx hb hts hin hown hK hP hD hS 11 (by decide) lk188 rfl (by decide +kernel) (by rw [eM13]; rfl) dX11_readGo_162 (fun H locs hP hD hS => ?_)
            refine lv_iconst (v := 1) hx hb dX11_readGo_165 (by decide) ?_
            exact rtMz hx hb hr hlocks hK hP hD hS rfl hf dX11_readGo_166
          refine lv_icmp_ne (tgt := 138) hx hb dX11_readGo_102 (by decide) (fun c19 => ?_) (fun c19 => ?_)
          · have hf := (if_neg c19).symm.trans hf
            exact J138 x9 M7 _ _ _ hf hP hD hS (lv_sub hl [2, 0] rfl)
          · have hf := (if_pos c19).symm.trans hf
            refine lv_aload_n hx hb dX11_readGo_105 rfl (lv_at hl 2 rfl) ?_
            refine geM hx hb hts hin hown hK hP 8 (by decide) lk162 rfl dX11_readGo_106 ?_
            refine lv_iload_n hx hb dX11_readGo_109 rfl (lv_at hl 1 rfl) ?_
            refine lv_icmp_eq (tgt := 127) hx hb dX11_readGo_110 (by decide) (fun c18 => ?_) (fun c18 => ?_)
            · have hf := (if_pos c18).symm.trans hf
              refine lv_iconst (v := 0) hx hb dX11_readGo_127 (by decide) ?_
              exact rtMz hx hb hr hlocks hK hP hD hS rfl hf dX11_readGo_128
            · have hf := (if_neg c18).symm.trans hf
              refine lv_aload_n hx hb dX11_readGo_113 rfl (lv_at hl 2 rfl) ?_
              refine lv_iconst (v := 0) hx hb dX11_readGo_114 (by decide) ?_
              refine lv_aload_n hx hb dX11_readGo_115 rfl (lv_at hl 2 rfl) ?_
              refine geM hx hb hts hin hown hK hP 10 (by decide) lk181 rfl dX11_readGo_116 ?_
              refine lv_iconst (v := 1) hx hb dX11_readGo_119 (by decide) ?_
              refine lv_isub hx hb dX11_readGo_120 ?_
              obtain ⟨r14, M15, er14, hf⟩ := b2 hf
              refine klMi (rest := []) (As := [.int 0, .int ((M7 10 0) - 1)]) ⟨hx, hb, hml, hown, hts⟩ (c_X11_takes l dC dI tI tZ h H.size M7 0 ((M7 10 0) - 1) r14 M15 er14) (cwV 2 hts gX11_readGo_X11_takes rfl rfl rfl (by decide +kernel) ⟨Nat.le_of_ble_eq_true rfl, Nat.le_of_ble_eq_true rfl⟩) rfl hl.1 rfl (Nat.le_of_ble_eq_true rfl) dX11_readGo_121 ⟨Nat.zero_le _, Nat.zero_le _⟩ hK hP hD hS hA (fun H locs hP hD hS => ?_)
              refine lv_if_ne (tgt := 129) hx hb dX11_readGo_124 (by decide) (fun c17 => ?_) (fun c17 => ?_)
              · have hf := (if_neg c17).symm.trans hf
                refine lv_iload_n hx hb dX11_readGo_129 rfl (lv_at hl 0 rfl) ?_
                refine lv_iconst (v := 1) hx hb dX11_readGo_130 (by decide) ?_
                refine lv_aload_n hx hb dX11_readGo_131 rfl (lv_at hl 2 rfl) ?_
                refine geM hx hb hts hin hown hK hP 12 (by decide) lk175 rfl dX11_readGo_132 ?_
                refine lv_ishl hx hb dX11_readGo_135 ?_
                refine lv_ior hx hb dX11_readGo_136 ?_
                refine lv_topi (fun x16 ex16 => ?_)
                have hf := bs ex16 hf
                refine lv_istore_n (lv' := [(2, .int x16), (1, .int x8), (0, .ref (h 0))]) hx hb dX11_readGo_137 rfl hl (by decide) rfl (fun ls hl => ?_)
                exact J138 x16 M15 _ _ _ hf hP hD hS (lv_sub hl [2, 0] rfl)
              · have hf := (if_pos c17).symm.trans hf
                refine lv_iconst (v := 0) hx hb dX11_readGo_127 (by decide) ?_
                exact rtMz hx hb hr hlocks hK hP hD hS rfl hf dX11_readGo_128
        · have hf := (if_pos c20).symm.trans hf
          refine lv_iconst (v := 0) hx hb dX11_readGo_86 (by decide) ?_
          exact rtMz hx hb hr hlocks hK hP hD hS rfl hf dX11_readGo_87
      · have hf := (if_pos c21).symm.trans hf
        refine lv_iconst (v := 0) hx hb dX11_readGo_52 (by decide) ?_
        exact rtMz hx hb hr hlocks hK hP hD hS rfl hf dX11_readGo_53
    refine lv_if_ne (tgt := 27) hx hb dX11_readGo_20 (by decide) (fun c23 => ?_) (fun c23 => ?_)
    · have hf := (if_neg c23).symm.trans hf
      refine lv_aload_n hx hb dX11_readGo_27 rfl (lv_at hl 0 rfl) ?_
      refine geM hx hb hts hin hown hK hP 9 (by decide) lk26 rfl dX11_readGo_28 ?_
      refine lv_bipush (v := 28) hx hb dX11_readGo_31 (by decide) ?_
      refine lv_iconst (v := 2) hx hb dX11_readGo_33 (by decide) ?_
      refine lv_aload_n hx hb dX11_readGo_34 rfl (lv_at hl 0 rfl) ?_
      refine geM hx hb hts hin hown hK hP 11 (by decide) lk188 rfl dX11_readGo_35 ?_
      refine lv_imul hx hb dX11_readGo_38 ?_
      refine lv_iadd hx hb dX11_readGo_39 ?_
      refine lv_iconst (v := 2) hx hb dX11_readGo_40 (by decide) ?_
      refine lv_isub hx hb dX11_readGo_41 ?_
      obtain ⟨x22, hix22, ex22, hf⟩ := rd_b hf
      refine va_iald hx hb hK hP 6 0 rfl rfl hix22 dX11_readGo_42 (kI ex22 ?_)
      exact J43 x22 _ _ _ hf hP hD hS (lv_sub hl [0] rfl)
    · have hf := (if_pos c23).symm.trans hf
      refine lv_iconst (v := 0) hx hb dX11_readGo_23 (by decide) ?_
      refine lv_goto (tgt := 43) hx hb dX11_readGo_24 (by decide) ?_
      exact J43 0 _ _ _ hf hP hD hS (lv_sub hl [0] rfl)
  · have hf := (if_pos c24).symm.trans hf
    refine lv_iconst (v := 0) hx hb dX11_readGo_9 (by decide) ?_
    exact rtMz hx hb hr hlocks hK hP hD hS rfl hf dX11_readGo_10

def f_X11_readNumber (M : MS) (p0 : Int32) : Option (Int32 × MS) :=
  Option.bind (f_X11_goOn M) (fun M1 => Option.bind (f_X11_mostOf p0) (fun r2 => bi2 (f_X11_takes M1 0 r2) (fun r3 M4 => Option.bind (wrM M4 9 68 (24 + p0) (M4 12 0)) (fun M5 => Option.bind (zr r3) (fun z6 => some ((z6, M5)))))))
def rmX11_readNumber : Room := { frames := 5, cells := 0, slots := 0, locals := 111 }
abbrev RRX11_readNumber : Room := (headSpec wsX11_readNumber rmX11_readNumber).room
theorem inX11_readNumber : ∀ w ∈ wsX110, w ∈ wsX11_readNumber := by decide +kernel
set_option maxHeartbeats 4000000 in
set_option maxRecDepth 100000 in
theorem c_X11_readNumber (l : Launch) (dC : Nat → ClassId) (dI : Nat → Nat → Nat) (tI tZ : ClassId) (h : Nat → Nat) (sz : Nat) (M : MS) (p0 : Int32) (r : Int32) (M' : MS) (hf : f_X11_readNumber M p0 = some (r, M')) : cMi l yX11_readNumber wsX11_readNumber rmX11_readNumber dC dI tI tZ h sz [.ref (h 0), .int p0] M r M' := by
  refine Met.ofW (cc := cX11_readNumber) (maxL := 3) (ret := (some .boolean)) (by decide) rfl ?_
  intro p e s m args below meth c s₁ B hml hv
  obtain ⟨hargs, hsz, hP, hK, hD0⟩ := hv
  have hx := B.exec
  have hb := B.bytes
  have hr := B.returns
  have hts := atoms_spec (ws := wsX11_readNumber) B.pre
  have hown : s.vm.findClass RX11 = some m.cls := findClass_of_methodNamed B.named
  have hlocks := B.notSynchronized
  have hin := inX11_readNumber
  have hsz : s.heap.size = sz := hsz
  subst hsz
  have lk26 : Cond.fieldLink RX11 26 (TX11 9).1 (TX11 9).2.1 (TX11 9).2.2.1 ∈ wsX11_readNumber := by decide +kernel
  have lk175 : Cond.fieldLink RX11 175 (TX11 12).1 (TX11 12).2.1 (TX11 12).2.2.1 ∈ wsX11_readNumber := by decide +kernel
  have hD := hD0.self (sz := s.heap.size)
  generalize hAe : va_A (wM tI tZ h M) s.heap.size = A at hD ⊢
  have hA : ∀ q : Nat, s.heap.size ≤ q → A q := fun q h => by rw [← hAe]; exact Or.inr h
  have hS : va_S A s.heap s.heap [] := va_S.rf
  have hl := lv_entry ([.ref (h 0), .int p0]) (n := 3) (Nat.le_of_ble_eq_true rfl)
  rw [show entryFrame m args 3 = entryFrame m ([.ref (h 0), .int p0] : List Value).toArray 3 from by rw [hargs], lg_entry_eq]
  generalize (lg_sl ([.ref (h 0), .int p0]) ++ List.replicate (3 - (lg_sl ([.ref (h 0), .int p0])).length) Slot.unset).toArray = ls at hl ⊢
  have hl : lv_has ls 3 [(0, .ref (h 0)), (1, .int p0)] := hl
  unfold f_X11_readNumber at hf
  refine lv_aload_n hx hb dX11_readNumber_0 rfl (lv_at hl 0 rfl) ?_
  obtain ⟨M1, eM1, hf⟩ := bd hf
  refine klMv (rest := []) (As := []) ⟨hx, hb, hml, hown, hts⟩ (c_X11_goOn l dC dI tI tZ h s.heap.size M M1 eM1) (cwV 0 hts gX11_readNumber_X11_goOn rfl rfl rfl (by decide +kernel) ⟨Nat.le_of_ble_eq_true rfl, Nat.le_of_ble_eq_true rfl⟩) rfl hl.1 rfl (Nat.le_of_ble_eq_true rfl) dX11_readNumber_1 ⟨Nat.zero_le _, Nat.zero_le _⟩ hK hP hD hS hA (fun H locs hP hD hS => ?_)
  refine lv_aload_n hx hb dX11_readNumber_4 rfl (lv_at hl 0 rfl) ?_
  refine lv_iconst (v := 0) hx hb dX11_readNumber_5 (by decide) ?_
  refine lv_iload_n hx hb dX11_readNumber_6 rfl (lv_at hl 1 rfl) ?_
  obtain ⟨r2, er2, hf⟩ := bd hf
  refine klEi (rest := [.int 0, .ref (h 0)]) (As := [.int p0]) ⟨hx, hb, hml, hown, hts⟩ (c_X11_mostOf l H.size p0 r2 er2) (va_cwS 1 hts gX11_readNumber_X11_mostOf rfl rfl rfl (by decide +kernel) ⟨Nat.le_of_ble_eq_true rfl, Nat.le_of_ble_eq_true rfl⟩) rfl hl.1 rfl (Nat.le_of_ble_eq_true rfl) dX11_readNumber_7 ⟨Nat.zero_le _, Nat.zero_le _⟩ hS hA (fun H2 locs hk hS => ?_)
  have hP := kpP hP hk
  generalize H2 = H at hP hS ⊢
  obtain ⟨r3, M4, er3, hf⟩ := b2 hf
  refine klMi (rest := []) (As := [.int 0, .int r2]) ⟨hx, hb, hml, hown, hts⟩ (c_X11_takes l dC dI tI tZ h H.size M1 0 r2 r3 M4 er3) (cwV 2 hts gX11_readNumber_X11_takes rfl rfl rfl (by decide +kernel) ⟨Nat.le_of_ble_eq_true rfl, Nat.le_of_ble_eq_true rfl⟩) rfl hl.1 rfl (Nat.le_of_ble_eq_true rfl) dX11_readNumber_10 ⟨Nat.zero_le _, Nat.zero_le _⟩ hK hP hD hS hA (fun H locs hP hD hS => ?_)
  refine lv_istore_n (lv' := [(2, .int r3), (0, .ref (h 0)), (1, .int p0)]) hx hb dX11_readNumber_13 rfl hl (by decide) rfl (fun ls hl => ?_)
  refine lv_aload_n hx hb dX11_readNumber_14 rfl (lv_at hl 1 rfl) ?_
  refine geM hx hb hts hin hown hK hP 9 (by decide) lk26 rfl dX11_readNumber_15 ?_
  refine lv_bipush (v := 24) hx hb dX11_readNumber_18 (by decide) ?_
  refine lv_iload_n hx hb dX11_readNumber_20 rfl (lv_at hl 2 rfl) ?_
  refine lv_iadd hx hb dX11_readNumber_21 ?_
  refine lv_aload_n hx hb dX11_readNumber_22 rfl (lv_at hl 1 rfl) ?_
  refine geM hx hb hts hin hown hK hP 12 (by decide) lk175 rfl dX11_readNumber_23 ?_
  obtain ⟨M5, hiM5, eM5, hf⟩ := wr_b hf
  refine va_iast hx hb hK hP hD hS 6 0 rfl rfl hiM5 dX11_readNumber_26 (fun H locs hP hD hS => ?_)
  have hP : va_P (dC, dI) vwCl (wM tI tZ h M5) H := by rw [eM5]; exact hP
  have hD : va_D A (wM tI tZ h M5) := by rw [eM5]; exact hD
  refine lv_iload_n hx hb dX11_readNumber_27 rfl (lv_at hl 0 rfl) ?_
  obtain ⟨hnz6, hf⟩ := zr_b hf
  exact rtMz hx hb hr hlocks hK hP hD hS hnz6 hf dX11_readNumber_28

def j_X11_readItem_138 (M : MS) (k4 : Int32) : Option (Int32 × MS) :=
  (if k4 = (-1) then (some ((0, M))) else (bi2 (f_X11_readNumber M k4) (fun r5 M6 => (if r5 = 0 then (some ((0, M6))) else (some ((1, M6)))))))
def f_X11_readItem (M : MS)  : Option (Int32 × MS) :=
  Option.bind (f_X11_isWord M 112 111 114 116 101 114 0) (fun r1 => (if r1 = 0 then (Option.bind (f_X11_isWord M 103 111 0 0 0 0 0) (fun r2 => (if r2 = 0 then (Option.bind (f_X11_isWord M 103 97 112 0 0 0 0) (fun r3 => (if r3 = 0 then (Option.bind (f_X11_isWord M 101 118 101 110 105 110 103) (fun r9 => (if r9 = 0 then (Option.bind (f_X11_isWord M 109 111 114 101 0 0 0) (fun r10 => (if r10 = 0 then (Option.bind (f_X11_isWord M 110 105 103 104 116 0 0) (fun r11 => (if r11 = 0 then (j_X11_readItem_138 M (-1)) else (j_X11_readItem_138 M 3)))) else (j_X11_readItem_138 M 2)))) else (j_X11_readItem_138 M 1)))) else (j_X11_readItem_138 M 0)))) else (bi2 (f_X11_readGo M) (fun r16 M17 => Option.bind (zr r16) (fun z18 => some ((z18, M17)))))))) else (bi2 (f_X11_readPorter M) (fun r20 M21 => Option.bind (zr r20) (fun z22 => some ((z22, M21)))))))
def rmX11_readItem : Room := { frames := 6, cells := 0, slots := 0, locals := 133 }
abbrev RRX11_readItem : Room := (headSpec wsX11_readItem rmX11_readItem).room
theorem inX11_readItem : ∀ w ∈ wsX110, w ∈ wsX11_readItem := by decide +kernel
set_option maxHeartbeats 4000000 in
set_option maxRecDepth 100000 in
theorem c_X11_readItem (l : Launch) (dC : Nat → ClassId) (dI : Nat → Nat → Nat) (tI tZ : ClassId) (h : Nat → Nat) (sz : Nat) (M : MS)  (r : Int32) (M' : MS) (hf : f_X11_readItem M  = some (r, M')) : cMi l yX11_readItem wsX11_readItem rmX11_readItem dC dI tI tZ h sz [.ref (h 0)] M r M' := by
  refine Met.ofW (cc := cX11_readItem) (maxL := 2) (ret := (some .boolean)) (by decide) rfl ?_
  intro p e s m args below meth c s₁ B hml hv
  obtain ⟨hargs, hsz, hP, hK, hD0⟩ := hv
  have hx := B.exec
  have hb := B.bytes
  have hr := B.returns
  have hts := atoms_spec (ws := wsX11_readItem) B.pre
  have hown : s.vm.findClass RX11 = some m.cls := findClass_of_methodNamed B.named
  have hlocks := B.notSynchronized
  have hin := inX11_readItem
  have hsz : s.heap.size = sz := hsz
  subst hsz
  have hD := hD0.self (sz := s.heap.size)
  generalize hAe : va_A (wM tI tZ h M) s.heap.size = A at hD ⊢
  have hA : ∀ q : Nat, s.heap.size ≤ q → A q := fun q h => by rw [← hAe]; exact Or.inr h
  have hS : va_S A s.heap s.heap [] := va_S.rf
  have hl := lv_entry ([.ref (h 0)]) (n := 2) (Nat.le_of_ble_eq_true rfl)
  rw [show entryFrame m args 2 = entryFrame m ([.ref (h 0)] : List Value).toArray 2 from by rw [hargs], lg_entry_eq]
  generalize (lg_sl ([.ref (h 0)]) ++ List.replicate (2 - (lg_sl ([.ref (h 0)])).length) Slot.unset).toArray = ls at hl ⊢
  have hl : lv_has ls 2 [(0, .ref (h 0))] := hl
  unfold f_X11_readItem at hf
  refine lv_aload_n hx hb dX11_readItem_0 rfl (lv_at hl 0 rfl) ?_
  refine lv_bipush (v := 112) hx hb dX11_readItem_1 (by decide) ?_
  refine lv_bipush (v := 111) hx hb dX11_readItem_3 (by decide) ?_
  refine lv_bipush (v := 114) hx hb dX11_readItem_5 (by decide) ?_
  refine lv_bipush (v := 116) hx hb dX11_readItem_7 (by decide) ?_
  refine lv_bipush (v := 101) hx hb dX11_readItem_9 (by decide) ?_
  refine lv_bipush (v := 114) hx hb dX11_readItem_11 (by decide) ?_
  refine lv_iconst (v := 0) hx hb dX11_readItem_13 (by decide) ?_
  obtain ⟨r1, er1, hf⟩ := bd hf
  refine klMi (rest := []) (As := [.int 112, .int 111, .int 114, .int 116, .int 101, .int 114, .int 0]) ⟨hx, hb, hml, hown, hts⟩ (c_X11_isWord l dC dI tI tZ h s.heap.size M 112 111 114 116 101 114 0 r1 er1) (cwV 7 hts gX11_readItem_X11_isWord rfl rfl rfl (by decide +kernel) ⟨Nat.le_of_ble_eq_true rfl, Nat.le_of_ble_eq_true rfl⟩) rfl hl.1 rfl (Nat.le_of_ble_eq_true rfl) dX11_readItem_14 ⟨Nat.zero_le _, Nat.zero_le _⟩ hK hP hD hS hA (fun H locs hP hD hS => ?_)
  refine lv_if_eq (tgt := 25) hx hb dX11_readItem_17 (by decide) (fun c23 => ?_) (fun c23 => ?_)
  · have hf := (if_pos c23).symm.trans hf
    refine lv_aload_n hx hb dX11_readItem_25 rfl (lv_at hl 0 rfl) ?_
    refine lv_bipush (v := 103) hx hb dX11_readItem_26 (by decide) ?_
    refine lv_bipush (v := 111) hx hb dX11_readItem_28 (by decide) ?_
    refine lv_iconst (v := 0) hx hb dX11_readItem_30 (by decide) ?_
    refine lv_iconst (v := 0) hx hb dX11_readItem_31 (by decide) ?_
    refine lv_iconst (v := 0) hx hb dX11_readItem_32 (by decide) ?_
    refine lv_iconst (v := 0) hx hb dX11_readItem_33 (by decide) ?_
    refine lv_iconst (v := 0) hx hb dX11_readItem_34 (by decide) ?_
    obtain ⟨r2, er2, hf⟩ := bd hf
    refine klMi (rest := []) (As := [.int 103, .int 111, .int 0, .int 0, .int 0, .int 0, .int 0]) ⟨hx, hb, hml, hown, hts⟩ (c_X11_isWord l dC dI tI tZ h H.size M 103 111 0 0 0 0 0 r2 er2) (cwV 7 hts gX11_readItem_X11_isWord rfl rfl rfl (by decide +kernel) ⟨Nat.le_of_ble_eq_true rfl, Nat.le_of_ble_eq_true rfl⟩) rfl hl.1 rfl (Nat.le_of_ble_eq_true rfl) dX11_readItem_35 ⟨Nat.zero_le _, Nat.zero_le _⟩ hK hP hD hS hA (fun H locs hP hD hS => ?_)
    refine lv_if_eq (tgt := 46) hx hb dX11_readItem_38 (by decide) (fun c19 => ?_) (fun c19 => ?_)
    · have hf := (if_pos c19).symm.trans hf
      refine lv_aload_n hx hb dX11_readItem_46 rfl (lv_at hl 0 rfl) ?_
      refine lv_bipush (v := 103) hx hb dX11_readItem_47 (by decide) ?_
      refine lv_bipush (v := 97) hx hb dX11_readItem_49 (by decide) ?_
      refine lv_bipush (v := 112) hx hb dX11_readItem_51 (by decide) ?_
      refine lv_iconst (v := 0) hx hb dX11_readItem_53 (by decide) ?_
      refine lv_iconst (v := 0) hx hb dX11_readItem_54 (by decide) ?_
      refine lv_iconst (v := 0) hx hb dX11_readItem_55 (by decide) ?_
      refine lv_iconst (v := 0) hx hb dX11_readItem_56 (by decide) ?_
      obtain ⟨r3, er3, hf⟩ := bd hf
      refine klMi (rest := []) (As := [.int 103, .int 97, .int 112, .int 0, .int 0, .int 0, .int 0]) ⟨hx, hb, hml, hown, hts⟩ (c_X11_isWord l dC dI tI tZ h H.size M 103 97 112 0 0 0 0 r3 er3) (cwV 7 hts gX11_readItem_X11_isWord rfl rfl rfl (by decide +kernel) ⟨Nat.le_of_ble_eq_true rfl, Nat.le_of_ble_eq_true rfl⟩) rfl hl.1 rfl (Nat.le_of_ble_eq_true rfl) dX11_readItem_57 ⟨Nat.zero_le _, Nat.zero_le _⟩ hK hP hD hS hA (fun H locs hP hD hS => ?_)
      have J138 : ∀ (k4 : Int32) (H : Heap) (locs : List Loc) (ls : Array Slot), j_X11_readItem_138 M k4 = some (r, M') → va_P (dC, dI) vwCl (wM tI tZ h M) H → va_D A (wM tI tZ h M) → va_S A s.heap H locs → lv_has ls 2 [(0, .ref (h 0))] → W p l e RRX11_readItem s m args below meth c H locs 0 0 (MQ below (qcMi dC dI tI tZ A h r M') args s 0 0 A) (F0 m 138 ls [.int k4]) := by
        intro k4 H locs ls hf hP hD hS hl
        unfold j_X11_readItem_138 at hf
        refine lv_istore_n (lv' := [(1, .int k4), (0, .ref (h 0))]) hx hb dX11_readItem_138 rfl hl (by decide) rfl (fun ls hl => ?_)
        refine lv_iload_n hx hb dX11_readItem_139 rfl (lv_at hl 0 rfl) ?_
        refine lv_iconst (v := (-1)) hx hb dX11_readItem_140 (by decide) ?_
        refine lv_icmp_eq (tgt := 156) hx hb dX11_readItem_141 (by decide) (fun c8 => ?_) (fun c8 => ?_)
        · have hf := (if_pos c8).symm.trans hf
          refine lv_iconst (v := 0) hx hb dX11_readItem_156 (by decide) ?_
          exact rtMz hx hb hr hlocks hK hP hD hS rfl hf dX11_readItem_157
        · have hf := (if_neg c8).symm.trans hf
          refine lv_aload_n hx hb dX11_readItem_144 rfl (lv_at hl 1 rfl) ?_
          refine lv_iload_n hx hb dX11_readItem_145 rfl (lv_at hl 0 rfl) ?_
          obtain ⟨r5, M6, er5, hf⟩ := b2 hf
          refine klMi (rest := []) (As := [.int k4]) ⟨hx, hb, hml, hown, hts⟩ (c_X11_readNumber l dC dI tI tZ h H.size M k4 r5 M6 er5) (cwV 1 hts gX11_readItem_X11_readNumber rfl rfl rfl (by decide +kernel) ⟨Nat.le_of_ble_eq_true rfl, Nat.le_of_ble_eq_true rfl⟩) rfl hl.1 rfl (Nat.le_of_ble_eq_true rfl) dX11_readItem_146 ⟨Nat.zero_le _, Nat.zero_le _⟩ hK hP hD hS hA (fun H locs hP hD hS => ?_)
          refine lv_if_eq (tgt := 156) hx hb dX11_readItem_149 (by decide) (fun c7 => ?_) (fun c7 => ?_)
          · have hf := (if_pos c7).symm.trans hf
            refine lv_iconst (v := 0) hx hb dX11_readItem_156 (by decide) ?_
            exact rtMz hx hb hr hlocks hK hP hD hS rfl hf dX11_readItem_157
          · have hf := (if_neg c7).symm.trans hf
            refine lv_iconst (v := 1) hx hb dX11_readItem_152 (by decide) ?_
            refine lv_goto (tgt := 157) hx hb dX11_readItem_153 (by decide) ?_
            exact rtMz hx hb hr hlocks hK hP hD hS rfl hf dX11_readItem_157
      refine lv_if_eq (tgt := 67) hx hb dX11_readItem_60 (by decide) (fun c15 => ?_) (fun c15 => ?_)
      · have hf := (if_pos c15).symm.trans hf
        refine lv_aload_n hx hb dX11_readItem_67 rfl (lv_at hl 0 rfl) ?_
        refine lv_bipush (v := 101) hx hb dX11_readItem_68 (by decide) ?_
        refine lv_bipush (v := 118) hx hb dX11_readItem_70 (by decide) ?_
        refine lv_bipush (v := 101) hx hb dX11_readItem_72 (by decide) ?_
        refine lv_bipush (v := 110) hx hb dX11_readItem_74 (by decide) ?_
        refine lv_bipush (v := 105) hx hb dX11_readItem_76 (by decide) ?_
        refine lv_bipush (v := 110) hx hb dX11_readItem_78 (by decide) ?_
        refine lv_bipush (v := 103) hx hb dX11_readItem_80 (by decide) ?_
        obtain ⟨r9, er9, hf⟩ := bd hf
        refine klMi (rest := []) (As := [.int 101, .int 118, .int 101, .int 110, .int 105, .int 110, .int 103]) ⟨hx, hb, hml, hown, hts⟩ (c_X11_isWord l dC dI tI tZ h H.size M 101 118 101 110 105 110 103 r9 er9) (cwV 7 hts gX11_readItem_X11_isWord rfl rfl rfl (by decide +kernel) ⟨Nat.le_of_ble_eq_true rfl, Nat.le_of_ble_eq_true rfl⟩) rfl hl.1 rfl (Nat.le_of_ble_eq_true rfl) dX11_readItem_82 ⟨Nat.zero_le _, Nat.zero_le _⟩ hK hP hD hS hA (fun H locs hP hD hS => ?_)
        refine lv_if_eq (tgt := 92) hx hb dX11_readItem_85 (by decide) (fun c14 => ?_) (fun c14 => ?_)
        · have hf := (if_pos c14).symm.trans hf
          refine lv_aload_n hx hb dX11_readItem_92 rfl (lv_at hl 0 rfl) ?_
          refine lv_bipush (v := 109) hx hb dX11_readItem_93 (by decide) ?_
          refine lv_bipush (v := 111) hx hb dX11_readItem_95 (by decide) ?_
          refine lv_bipush (v := 114) hx hb dX11_readItem_97 (by decide) ?_
          refine lv_bipush (v := 101) hx hb dX11_readItem_99 (by decide) ?_
          refine lv_iconst (v := 0) hx hb dX11_readItem_101 (by decide) ?_
          refine lv_iconst (v := 0) hx hb dX11_readItem_102 (by decide) ?_
          refine lv_iconst (v := 0) hx hb dX11_readItem_103 (by decide) ?_
          obtain ⟨r10, er10, hf⟩ := bd hf
          refine klMi (rest := []) (As := [.int 109, .int 111, .int 114, .int 101, .int 0, .int 0, .int 0]) ⟨hx, hb, hml, hown, hts⟩ (c_X11_isWord l dC dI tI tZ h H.size M 109 111 114 101 0 0 0 r10 er10) (cwV 7 hts gX11_readItem_X11_isWord rfl rfl rfl (by decide +kernel) ⟨Nat.le_of_ble_eq_true rfl, Nat.le_of_ble_eq_true rfl⟩) rfl hl.1 rfl (Nat.le_of_ble_eq_true rfl) dX11_readItem_104 ⟨Nat.zero_le _, Nat.zero_le _⟩ hK hP hD hS hA (fun H locs hP hD hS => ?_)
          refine lv_if_eq (tgt := 114) hx hb dX11_readItem_107 (by decide) (fun c13 => ?_) (fun c13 => ?_)
          · have hf := (if_pos c13).symm.trans hf
            refine lv_aload_n hx hb dX11_readItem_114 rfl (lv_at hl 0 rfl) ?_
            refine lv_bipush (v := 110) hx hb dX11_readItem_115 (by decide) ?_
            refine lv_bipush (v := 105) hx hb dX11_readItem_117 (by decide) ?_
            refine lv_bipush (v := 103) hx hb dX11_readItem_119 (by decide) ?_
            refine lv_bipush (v := 104) hx hb dX11_readItem_121 (by decide) ?_
            refine lv_bipush (v := 116) hx hb dX11_readItem_123 (by decide) ?_
            refine lv_iconst (v := 0) hx hb dX11_readItem_125 (by decide) ?_
            refine lv_iconst (v := 0) hx hb dX11_readItem_126 (by decide) ?_
            obtain ⟨r11, er11, hf⟩ := bd hf
            refine klMi (rest := []) (As := [.int 110, .int 105, .int 103, .int 104, .int 116, .int 0, .int 0]) ⟨hx, hb, hml, hown, hts⟩ (c_X11_isWord l dC dI tI tZ h H.size M 110 105 103 104 116 0 0 r11 er11) (cwV 7 hts gX11_readItem_X11_isWord rfl rfl rfl (by decide +kernel) ⟨Nat.le_of_ble_eq_true rfl, Nat.le_of_ble_eq_true rfl⟩) rfl hl.1 rfl (Nat.le_of_ble_eq_true rfl) dX11_readItem_127 ⟨Nat.zero_le _, Nat.zero_le _⟩ hK hP hD hS hA (fun H locs hP hD hS => ?_)
            refine lv_if_eq (tgt := 137) hx hb dX11_readItem_130 (by decide) (fun c12 => ?_) (fun c12 => ?_)
            · have hf := (if_pos c12).symm.trans hf
              refine lv_iconst (v := (-1)) hx hb dX11_readItem_137 (by decide) ?_
              exact J138 (-1) _ _ _ hf hP hD hS (lv_sub hl [0] rfl)
            · have hf := (if_neg c12).symm.trans hf
              refine lv_iconst (v := 3) hx hb dX11_readItem_133 (by decide) ?_
              refine lv_goto (tgt := 138) hx hb dX11_readItem_134 (by decide) ?_
              exact J138 3 _ _ _ hf hP hD hS (lv_sub hl [0] rfl)
          · have hf := (if_neg c13).symm.trans hf
            refine lv_iconst (v := 2) hx hb dX11_readItem_110 (by decide) ?_
            refine lv_goto (tgt := 138) hx hb dX11_readItem_111 (by decide) ?_
            exact J138 2 _ _ _ hf hP hD hS (lv_sub hl [0] rfl)
        · have hf := (if_neg c14).symm.trans hf
          refine lv_iconst (v := 1) hx hb dX11_readItem_88 (by decide) ?_
          refine lv_goto (tgt := 138) hx hb dX11_readItem_89 (by decide) ?_
          exact J138 1 _ _ _ hf hP hD hS (lv_sub hl [0] rfl)
      · have hf := (if_neg c15).symm.trans hf
        refine lv_iconst (v := 0) hx hb dX11_readItem_63 (by decide) ?_
        refine lv_goto (tgt := 138) hx hb dX11_readItem_64 (by decide) ?_
        exact J138 0 _ _ _ hf hP hD hS (lv_sub hl [0] rfl)
    · have hf := (if_neg c19).symm.trans hf
      refine lv_aload_n hx hb dX11_readItem_41 rfl (lv_at hl 0 rfl) ?_
      obtain ⟨r16, M17, er16, hf⟩ := b2 hf
      refine klMi (rest := []) (As := []) ⟨hx, hb, hml, hown, hts⟩ (c_X11_readGo l dC dI tI tZ h H.size M r16 M17 er16) (cwV 0 hts gX11_readItem_X11_readGo rfl rfl rfl (by decide +kernel) ⟨Nat.le_of_ble_eq_true rfl, Nat.le_of_ble_eq_true rfl⟩) rfl hl.1 rfl (Nat.le_of_ble_eq_true rfl) dX11_readItem_42 ⟨Nat.zero_le _, Nat.zero_le _⟩ hK hP hD hS hA (fun H locs hP hD hS => ?_)
      obtain ⟨hnz18, hf⟩ := zr_b hf
      exact rtMz hx hb hr hlocks hK hP hD hS hnz18 hf dX11_readItem_45
  · have hf := (if_neg c23).symm.trans hf
    refine lv_aload_n hx hb dX11_readItem_20 rfl (lv_at hl 0 rfl) ?_
    obtain ⟨r20, M21, er20, hf⟩ := b2 hf
    refine klMi (rest := []) (As := []) ⟨hx, hb, hml, hown, hts⟩ (c_X11_readPorter l dC dI tI tZ h H.size M r20 M21 er20) (cwV 0 hts gX11_readItem_X11_readPorter rfl rfl rfl (by decide +kernel) ⟨Nat.le_of_ble_eq_true rfl, Nat.le_of_ble_eq_true rfl⟩) rfl hl.1 rfl (Nat.le_of_ble_eq_true rfl) dX11_readItem_21 ⟨Nat.zero_le _, Nat.zero_le _⟩ hK hP hD hS hA (fun H locs hP hD hS => ?_)
    obtain ⟨hnz22, hf⟩ := zr_b hf
    exact rtMz hx hb hr hlocks hK hP hD hS hnz22 hf dX11_readItem_24

def k_X11_read_89 (M9 : MS) : Option (MS ⊕ (Int32 × MS)) :=
  Option.bind (wrM M9 0 277 274 (M9 10 0)) (fun M10 => Option.bind (wrM M10 0 277 275 (M10 11 0)) (fun M11 => some (Sum.inr ((M11 11 0, M11)))))
def b_X11_read_89 (y12 : Int32) (M13 : MS) : Option ((Int32 × MS) ⊕ MS) :=
  (if 68 ≤ y12 then (some (Sum.inr M13)) else (Option.bind (rdI 68 (M13 9) y12) (fun x14 => Option.bind (wrM M13 0 277 y12 x14) (fun M15 => Option.bind (some (y12 + 1)) (fun x16 => some (Sum.inl (x16, M15)))))))
def b_X11_read_50 (M8 : MS) : Option (MS ⊕ (Int32 × MS)) :=
  (if (M8 7 0) = 0 then (Option.bind (lp (fun s => b_X11_read_89 s.1 s.2) FU (0, M8)) (fun s => k_X11_read_89 s)) else (bi2 (f_X11_readItem M8) (fun r18 M19 => (if r18 = 0 then (some (Sum.inr (((-10) - (M19 5 0), M19)))) else ((if (M19 7 0) = 3 then (Option.bind (f_X11_goOn M19) (fun M20 => some (Sum.inl M20))) else (some (Sum.inr (((-10) - (M19 5 0), M19))))))))))
def f_X11_read (M : MS)  : Option (Int32 × MS) :=
  Option.bind (some (va_up M 10 (fun _ => 0))) (fun M1 => Option.bind (some (va_up M1 11 (fun _ => 0))) (fun M2 => Option.bind (wrM M2 9 68 24 2) (fun M3 => Option.bind (wrM M3 9 68 25 120) (fun M4 => Option.bind (wrM M4 9 68 26 3) (fun M5 => Option.bind (wrM M5 9 68 27 180) (fun M6 => Option.bind (f_X11_look M6 0) (fun M7 => lp (fun s => b_X11_read_50 s) FU M7)))))))
def rmX11_read : Room := { frames := 7, cells := 0, slots := 0, locals := 154 }
abbrev RRX11_read : Room := (headSpec wsX11_read rmX11_read).room
theorem inX11_read : ∀ w ∈ wsX110, w ∈ wsX11_read := by decide +kernel
set_option maxHeartbeats 4000000 in
set_option maxRecDepth 100000 in
theorem c_X11_read (l : Launch) (dC : Nat → ClassId) (dI : Nat → Nat → Nat) (tI tZ : ClassId) (h : Nat → Nat) (sz : Nat) (M : MS)  (r : Int32) (M' : MS) (hf : f_X11_read M  = some (r, M')) : cMi l yX11_read wsX11_read rmX11_read dC dI tI tZ h sz [.ref (h 0)] M r M' := by
  refine Met.ofW (cc := cX11_read) (maxL := 2) (ret := (some .int)) (by decide) rfl ?_
  intro p e s m args below meth c s₁ B hml hv
  obtain ⟨hargs, hsz, hP, hK, hD0⟩ := hv
  have hx := B.exec
  have hb := B.bytes
  have hr := B.returns
  have hts := atoms_spec (ws := wsX11_read) B.pre
  have hown : s.vm.findClass RX11 = some m.cls := findClass_of_methodNamed B.named
  have hlocks := B.notSynchronized
  have hin := inX11_read
  have hsz : s.heap.size = sz := hsz
  subst hsz
  have lk7 : Cond.fieldLink RX11 7 (TX11 0).1 (TX11 0).2.1 (TX11 0).2.2.1 ∈ wsX11_read := by decide +kernel
  have lk26 : Cond.fieldLink RX11 26 (TX11 9).1 (TX11 9).2.1 (TX11 9).2.2.1 ∈ wsX11_read := by decide +kernel
  have lk149 : Cond.fieldLink RX11 149 (TX11 5).1 (TX11 5).2.1 (TX11 5).2.2.1 ∈ wsX11_read := by decide +kernel
  have lk159 : Cond.fieldLink RX11 159 (TX11 7).1 (TX11 7).2.1 (TX11 7).2.2.1 ∈ wsX11_read := by decide +kernel
  have lk181 : Cond.fieldLink RX11 181 (TX11 10).1 (TX11 10).2.1 (TX11 10).2.2.1 ∈ wsX11_read := by decide +kernel
  have lk188 : Cond.fieldLink RX11 188 (TX11 11).1 (TX11 11).2.1 (TX11 11).2.2.1 ∈ wsX11_read := by decide +kernel
  have hD := hD0.self (sz := s.heap.size)
  generalize hAe : va_A (wM tI tZ h M) s.heap.size = A at hD ⊢
  have hA : ∀ q : Nat, s.heap.size ≤ q → A q := fun q h => by rw [← hAe]; exact Or.inr h
  have hS : va_S A s.heap s.heap [] := va_S.rf
  have hl := lv_entry ([.ref (h 0)]) (n := 2) (Nat.le_of_ble_eq_true rfl)
  rw [show entryFrame m args 2 = entryFrame m ([.ref (h 0)] : List Value).toArray 2 from by rw [hargs], lg_entry_eq]
  generalize (lg_sl ([.ref (h 0)]) ++ List.replicate (2 - (lg_sl ([.ref (h 0)])).length) Slot.unset).toArray = ls at hl ⊢
  have hl : lv_has ls 2 [(0, .ref (h 0))] := hl
  unfold f_X11_read at hf
  refine lv_aload_n hx hb dX11_read_0 rfl (lv_at hl 0 rfl) ?_
  refine lv_iconst (v := 0) hx hb dX11_read_1 (by decide) ?_
  obtain ⟨M1, eM1, hf⟩ := bn hf
  refine puM (M1 := M1) hx hb hts hin hown hK hP hD hS 10 (by decide) lk181 rfl (by decide +kernel) (by rw [eM1]; rfl) dX11_read_2 (fun H locs hP hD hS => ?_)
  refine lv_aload_n hx hb dX11_read_5 rfl (lv_at hl 0 rfl) ?_
  refine lv_iconst (v := 0) hx hb dX11_read_6 (by decide) ?_
  obtain ⟨M2, eM2, hf⟩ := bn hf
  refine puM (M1 := M2) hx hb hts hin hown hK hP hD hS 11 (by decide) lk188 rfl (by decide +kernel) (by rw [eM2]; rfl) dX11_read_7 (fun H locs hP hD hS => ?_)
  refine lv_aload_n hx hb dX11_read_10 rfl (lv_at hl 0 rfl) ?_
  refine geM hx hb hts hin hown hK hP 9 (by decide) lk26 rfl dX11_read_11 ?_
  refine lv_bipush (v := 24) hx hb dX11_read_14 (by decide) ?_
  refine lv_iconst (v := 2) hx hb dX11_read_16 (by decide) ?_
  obtain ⟨M3, hiM3, eM3, hf⟩ := wr_b hf
  refine va_iast hx hb hK hP hD hS 6 0 rfl rfl hiM3 dX11_read_17 (fun H locs hP hD hS => ?_)
  have hP : va_P (dC, dI) vwCl (wM tI tZ h M3) H := by rw [eM3]; exact hP
  have hD : va_D A (wM tI tZ h M3) := by rw [eM3]; exact hD
  refine lv_aload_n hx hb dX11_read_18 rfl (lv_at hl 0 rfl) ?_
  refine geM hx hb hts hin hown hK hP 9 (by decide) lk26 rfl dX11_read_19 ?_
  refine lv_bipush (v := 25) hx hb dX11_read_22 (by decide) ?_
  refine lv_bipush (v := 120) hx hb dX11_read_24 (by decide) ?_
  obtain ⟨M4, hiM4, eM4, hf⟩ := wr_b hf
  refine va_iast hx hb hK hP hD hS 6 0 rfl rfl hiM4 dX11_read_26 (fun H locs hP hD hS => ?_)
  have hP : va_P (dC, dI) vwCl (wM tI tZ h M4) H := by rw [eM4]; exact hP
  have hD : va_D A (wM tI tZ h M4) := by rw [eM4]; exact hD
  refine lv_aload_n hx hb dX11_read_27 rfl (lv_at hl 0 rfl) ?_
  refine geM hx hb hts hin hown hK hP 9 (by decide) lk26 rfl dX11_read_28 ?_
  refine lv_bipush (v := 26) hx hb dX11_read_31 (by decide) ?_
  refine lv_iconst (v := 3) hx hb dX11_read_33 (by decide) ?_
  obtain ⟨M5, hiM5, eM5, hf⟩ := wr_b hf
  refine va_iast hx hb hK hP hD hS 6 0 rfl rfl hiM5 dX11_read_34 (fun H locs hP hD hS => ?_)
  have hP : va_P (dC, dI) vwCl (wM tI tZ h M5) H := by rw [eM5]; exact hP
  have hD : va_D A (wM tI tZ h M5) := by rw [eM5]; exact hD
  refine lv_aload_n hx hb dX11_read_35 rfl (lv_at hl 0 rfl) ?_
  refine geM hx hb hts hin hown hK hP 9 (by decide) lk26 rfl dX11_read_36 ?_
  refine lv_bipush (v := 27) hx hb dX11_read_39 (by decide) ?_
  refine lv_sipush (v := 180) hx hb dX11_read_41 (by decide) ?_
  obtain ⟨M6, hiM6, eM6, hf⟩ := wr_b hf
  refine va_iast hx hb hK hP hD hS 6 0 rfl rfl hiM6 dX11_read_44 (fun H locs hP hD hS => ?_)
  have hP : va_P (dC, dI) vwCl (wM tI tZ h M6) H := by rw [eM6]; exact hP
  have hD : va_D A (wM tI tZ h M6) := by rw [eM6]; exact hD
  refine lv_aload_n hx hb dX11_read_45 rfl (lv_at hl 0 rfl) ?_
  refine lv_iconst (v := 0) hx hb dX11_read_46 (by decide) ?_
  obtain ⟨M7, eM7, hf⟩ := bd hf
  refine klMv (rest := []) (As := [.int 0]) ⟨hx, hb, hml, hown, hts⟩ (c_X11_look l dC dI tI tZ h H.size M6 0 M7 eM7) (cwV 1 hts gX11_read_X11_look rfl rfl rfl (by decide +kernel) ⟨Nat.le_of_ble_eq_true rfl, Nat.le_of_ble_eq_true rfl⟩) rfl hl.1 rfl (Nat.le_of_ble_eq_true rfl) dX11_read_47 ⟨Nat.zero_le _, Nat.zero_le _⟩ hK hP hD hS hA (fun H locs hP hD hS => ?_)
  have L50 : ∀ (n : Nat) (M8 : MS) (H : Heap) (locs : List Loc) (ls : Array Slot), lp (fun s => b_X11_read_50 s) n M8 = some (r, M') → va_P (dC, dI) vwCl (wM tI tZ h M8) H → va_D A (wM tI tZ h M8) → va_S A s.heap H locs → lv_has ls 2 [(0, .ref (h 0))] → W p l e RRX11_read s m args below meth c H locs 0 0 (MQ below (qcMi dC dI tI tZ A h r M') args s 0 0 A) (F0 m 50 ls []) := by
    intro n
    induction n with
    | zero => intro M8 H locs ls hf; exact lp_z hf
    | succ n ih50 =>
      intro M8 H locs ls hf hP hD hS hl
      obtain ⟨q50, hf, hq50⟩ := lp_i hf
      have hf : b_X11_read_50 M8 = some q50 := hf
      unfold b_X11_read_50 at hf
      refine lv_aload_n hx hb dX11_read_50 rfl (lv_at hl 0 rfl) ?_
      refine geM hx hb hts hin hown hK hP 7 (by decide) lk159 rfl dX11_read_51 ?_
      refine lv_if_eq (tgt := 87) hx hb dX11_read_54 (by decide) (fun c23 => ?_) (fun c23 => ?_)
      · have hf := (if_pos c23).symm.trans hf
        refine lv_iconst (v := 0) hx hb dX11_read_87 (by decide) ?_
        refine lv_istore_n (lv' := [(1, .int 0), (0, .ref (h 0))]) hx hb dX11_read_88 rfl hl (by decide) rfl (fun ls hl => ?_)
        have K89 : ∀ (M9 : MS) (H : Heap) (locs : List Loc) (ls : Array Slot), k_X11_read_89 M9 = some q50 → va_P (dC, dI) vwCl (wM tI tZ h M9) H → va_D A (wM tI tZ h M9) → va_S A s.heap H locs → lv_has ls 2 [(0, .ref (h 0))] → W p l e RRX11_read s m args below meth c H locs 0 0 (MQ below (qcMi dC dI tI tZ A h r M') args s 0 0 A) (F0 m 113 ls []) := by
          intro M9 H locs ls hf hP hD hS hl
          unfold k_X11_read_89 at hf
          refine lv_aload_n hx hb dX11_read_113 rfl (lv_at hl 0 rfl) ?_
          refine geM hx hb hts hin hown hK hP 0 (by decide) lk7 rfl dX11_read_114 ?_
          refine lv_sipush (v := 274) hx hb dX11_read_117 (by decide) ?_
          refine lv_aload_n hx hb dX11_read_120 rfl (lv_at hl 0 rfl) ?_
          refine geM hx hb hts hin hown hK hP 10 (by decide) lk181 rfl dX11_read_121 ?_
          obtain ⟨M10, hiM10, eM10, hf⟩ := wr_b hf
          refine va_iast hx hb hK hP hD hS 1 0 rfl rfl hiM10 dX11_read_124 (fun H locs hP hD hS => ?_)
          have hP : va_P (dC, dI) vwCl (wM tI tZ h M10) H := by rw [eM10]; exact hP
          have hD : va_D A (wM tI tZ h M10) := by rw [eM10]; exact hD
          refine lv_aload_n hx hb dX11_read_125 rfl (lv_at hl 0 rfl) ?_
          refine geM hx hb hts hin hown hK hP 0 (by decide) lk7 rfl dX11_read_126 ?_
          refine lv_sipush (v := 275) hx hb dX11_read_129 (by decide) ?_
          refine lv_aload_n hx hb dX11_read_132 rfl (lv_at hl 0 rfl) ?_
          refine geM hx hb hts hin hown hK hP 11 (by decide) lk188 rfl dX11_read_133 ?_
          obtain ⟨M11, hiM11, eM11, hf⟩ := wr_b hf
          refine va_iast hx hb hK hP hD hS 1 0 rfl rfl hiM11 dX11_read_136 (fun H locs hP hD hS => ?_)
          have hP : va_P (dC, dI) vwCl (wM tI tZ h M11) H := by rw [eM11]; exact hP
          have hD : va_D A (wM tI tZ h M11) := by rw [eM11]; exact hD
          refine lv_aload_n hx hb dX11_read_137 rfl (lv_at hl 0 rfl) ?_
          refine geM hx hb hts hin hown hK hP 11 (by decide) lk188 rfl dX11_read_138 ?_
          have hf := lp_r hf hq50
          exact rtMi hx hb hr hlocks hK hP hD hS hf dX11_read_141
        obtain ⟨z89, ez89, hz89⟩ := bd hf
        have L89 : ∀ (n : Nat) (y12 : Int32) (M13 : MS) (H : Heap) (locs : List Loc) (ls : Array Slot), lp (fun s => b_X11_read_89 s.1 s.2) n (y12, M13) = some z89 → va_P (dC, dI) vwCl (wM tI tZ h M13) H → va_D A (wM tI tZ h M13) → va_S A s.heap H locs → lv_has ls 2 [(0, .ref (h 0)), (1, .int y12)] → W p l e RRX11_read s m args below meth c H locs 0 0 (MQ below (qcMi dC dI tI tZ A h r M') args s 0 0 A) (F0 m 89 ls []) := by
          intro n
          induction n with
          | zero => intro y12 M13 H locs ls hf; exact lp_z hf
          | succ n ih89 =>
            intro y12 M13 H locs ls hf hP hD hS hl
            obtain ⟨q89, hf, hq89⟩ := lp_i hf
            have hf : b_X11_read_89 y12 M13 = some q89 := hf
            unfold b_X11_read_89 at hf
            refine lv_iload_n hx hb dX11_read_89 rfl (lv_at hl 1 rfl) ?_
            refine lv_bipush (v := 68) hx hb dX11_read_90 (by decide) ?_
            refine lv_icmp_ge (tgt := 113) hx hb dX11_read_92 (by decide) (fun c17 => ?_) (fun c17 => ?_)
            · have hf := (if_pos c17).symm.trans hf
              exact K89 M13 _ _ _ (lp_x (k := (fun s => k_X11_read_89 s)) (lp_r hf hq89) hz89) hP hD hS (lv_sub hl [0] rfl)
            · have hf := (if_neg c17).symm.trans hf
              refine lv_aload_n hx hb dX11_read_95 rfl (lv_at hl 0 rfl) ?_
              refine geM hx hb hts hin hown hK hP 0 (by decide) lk7 rfl dX11_read_96 ?_
              refine lv_iload_n hx hb dX11_read_99 rfl (lv_at hl 1 rfl) ?_
              refine lv_aload_n hx hb dX11_read_100 rfl (lv_at hl 0 rfl) ?_
              refine geM hx hb hts hin hown hK hP 9 (by decide) lk26 rfl dX11_read_101 ?_
              refine lv_iload_n hx hb dX11_read_104 rfl (lv_at hl 1 rfl) ?_
              obtain ⟨x14, hix14, ex14, hf⟩ := rd_b hf
              refine va_iald hx hb hK hP 6 0 rfl rfl hix14 dX11_read_105 (kI ex14 ?_)
              obtain ⟨M15, hiM15, eM15, hf⟩ := wr_b hf
              refine va_iast hx hb hK hP hD hS 1 0 rfl rfl hiM15 dX11_read_106 (fun H locs hP hD hS => ?_)
              have hP : va_P (dC, dI) vwCl (wM tI tZ h M15) H := by rw [eM15]; exact hP
              have hD : va_D A (wM tI tZ h M15) := by rw [eM15]; exact hD
              obtain ⟨x16, ex16, hf⟩ := bn hf
              refine lv_iinc (v := x16) (lv' := [(1, .int x16), (0, .ref (h 0))]) hx hb dX11_read_107 hl (k := 1) rfl (by rw [ex16]; rfl) (by decide) rfl (fun ls hl => ?_)
              refine lv_goto (tgt := 89) hx hb dX11_read_110 (by decide) ?_
              exact ih89 x16 M15 _ _ _ (lp_l hf hq89) hP hD hS (lv_sub hl [1, 0] rfl)
        exact L89 FU 0 M8 _ _ _ ez89 hP hD hS (lv_sub hl [1, 0] rfl)
      · have hf := (if_neg c23).symm.trans hf
        refine lv_aload_n hx hb dX11_read_57 rfl (lv_at hl 0 rfl) ?_
        obtain ⟨r18, M19, er18, hf⟩ := b2 hf
        refine klMi (rest := []) (As := []) ⟨hx, hb, hml, hown, hts⟩ (c_X11_readItem l dC dI tI tZ h H.size M8 r18 M19 er18) (cwV 0 hts gX11_read_X11_readItem rfl rfl rfl (by decide +kernel) ⟨Nat.le_of_ble_eq_true rfl, Nat.le_of_ble_eq_true rfl⟩) rfl hl.1 rfl (Nat.le_of_ble_eq_true rfl) dX11_read_58 ⟨Nat.zero_le _, Nat.zero_le _⟩ hK hP hD hS hA (fun H locs hP hD hS => ?_)
        refine lv_if_eq (tgt := 72) hx hb dX11_read_61 (by decide) (fun c22 => ?_) (fun c22 => ?_)
        · have hf := (if_pos c22).symm.trans hf
          refine lv_bipush (v := (-10)) hx hb dX11_read_72 (by decide) ?_
          refine lv_aload_n hx hb dX11_read_74 rfl (lv_at hl 0 rfl) ?_
          refine geM hx hb hts hin hown hK hP 5 (by decide) lk149 rfl dX11_read_75 ?_
          refine lv_isub hx hb dX11_read_78 ?_
          have hf := lp_r hf hq50
          exact rtMi hx hb hr hlocks hK hP hD hS hf dX11_read_79
        · have hf := (if_neg c22).symm.trans hf
          refine lv_aload_n hx hb dX11_read_64 rfl (lv_at hl 0 rfl) ?_
          refine geM hx hb hts hin hown hK hP 7 (by decide) lk159 rfl dX11_read_65 ?_
          refine lv_iconst (v := 3) hx hb dX11_read_68 (by decide) ?_
          refine lv_icmp_eq (tgt := 80) hx hb dX11_read_69 (by decide) (fun c21 => ?_) (fun c21 => ?_)
          · have hf := (if_pos c21).symm.trans hf
            refine lv_aload_n hx hb dX11_read_80 rfl (lv_at hl 0 rfl) ?_
            obtain ⟨M20, eM20, hf⟩ := bd hf
            refine klMv (rest := []) (As := []) ⟨hx, hb, hml, hown, hts⟩ (c_X11_goOn l dC dI tI tZ h H.size M19 M20 eM20) (cwV 0 hts gX11_read_X11_goOn rfl rfl rfl (by decide +kernel) ⟨Nat.le_of_ble_eq_true rfl, Nat.le_of_ble_eq_true rfl⟩) rfl hl.1 rfl (Nat.le_of_ble_eq_true rfl) dX11_read_81 ⟨Nat.zero_le _, Nat.zero_le _⟩ hK hP hD hS hA (fun H locs hP hD hS => ?_)
            refine lv_goto (tgt := 50) hx hb dX11_read_84 (by decide) ?_
            exact ih50 M20 _ _ _ (lp_l hf hq50) hP hD hS (lv_sub hl [0] rfl)
          · have hf := (if_neg c21).symm.trans hf
            refine lv_bipush (v := (-10)) hx hb dX11_read_72 (by decide) ?_
            refine lv_aload_n hx hb dX11_read_74 rfl (lv_at hl 0 rfl) ?_
            refine geM hx hb hts hin hown hK hP 5 (by decide) lk149 rfl dX11_read_75 ?_
            refine lv_isub hx hb dX11_read_78 ?_
            have hf := lp_r hf hq50
            exact rtMi hx hb hr hlocks hK hP hD hS hf dX11_read_79
  exact L50 FU M7 _ _ _ hf hP hD hS (lv_sub hl [0] rfl)

def j_X11_judge_106 (y4 : Int32) (M5 : MS) (x7 : Int32) (x8 : Int32) (k10 : Int32) : Option ((Int32 × Int32 × MS) ⊕ (Int32 × MS)) :=
  (if k10 ≤ 0 then (Option.bind (f_X11_timeOfSet M5 x8) (fun r11 => Option.bind (some (x7 + r11)) (fun x12 => Option.bind (some (va_up M5 13 (fun _ => (M5 13 0) ^^^ x8))) (fun M13 => Option.bind (some (y4 + 1)) (fun x14 => some (Sum.inl (x12, x14, M13))))))) else (some (Sum.inr (((10 * y4) + k10, M5)))))
def j_X11_judge_79 (y3 : Int32) (y4 : Int32) (M5 : MS) (x7 : Int32) (x8 : Int32) (k9 : Int32) : Option ((Int32 × Int32 × MS) ⊕ (Int32 × MS)) :=
  (if y3 ≤ x7 then ((if k9 = 0 then (j_X11_judge_106 y4 M5 x7 x8 2) else (Option.bind (f_X11_whyNot M5 x8 x7) (fun r16 => j_X11_judge_106 y4 M5 x7 x8 r16)))) else (j_X11_judge_106 y4 M5 x7 x8 1))
def j_X11_judge_74 (y3 : Int32) (y4 : Int32) (M5 : MS) (x7 : Int32) (x8 : Int32) : Option ((Int32 × Int32 × MS) ⊕ (Int32 × MS)) :=
  j_X11_judge_79 y3 y4 M5 x7 x8 1
def b_X11_judge_13 (y3 : Int32) (y4 : Int32) (M5 : MS) : Option ((Int32 × Int32 × MS) ⊕ (Int32 × MS)) :=
  Option.bind (rdI 277 (M5 0) 275) (fun x6 => (if x6 ≤ y4 then (some (Sum.inr (((-1), M5)))) else (Option.bind (rdI 277 (M5 0) (28 + (2 * y4))) (fun x7 => Option.bind (rdI 277 (M5 0) ((28 + (2 * y4)) + 1)) (fun x8 => (if ((M5 13 0) &&& x8) = 0 then (j_X11_judge_74 y3 y4 M5 x7 x8) else ((if ((M5 13 0) &&& x8) = x8 then (j_X11_judge_74 y3 y4 M5 x7 x8) else (j_X11_judge_79 y3 y4 M5 x7 x8 0)))))))))
def f_X11_judge (M : MS)  : Option (Int32 × MS) :=
  Option.bind (f_X11_carryNothing M) (fun M1 => Option.bind (some (va_up M1 13 (fun _ => 0))) (fun M2 => lp (fun s => b_X11_judge_13 s.1 s.2.1 s.2.2) FU (0, 0, M2)))
def rmX11_judge : Room := { frames := 4, cells := 0, slots := 0, locals := 95 }
abbrev RRX11_judge : Room := (headSpec wsX11_judge rmX11_judge).room
theorem inX11_judge : ∀ w ∈ wsX110, w ∈ wsX11_judge := by decide +kernel
set_option maxHeartbeats 4000000 in
set_option maxRecDepth 100000 in
theorem c_X11_judge (l : Launch) (dC : Nat → ClassId) (dI : Nat → Nat → Nat) (tI tZ : ClassId) (h : Nat → Nat) (sz : Nat) (M : MS)  (r : Int32) (M' : MS) (hf : f_X11_judge M  = some (r, M')) : cMi l yX11_judge wsX11_judge rmX11_judge dC dI tI tZ h sz [.ref (h 0)] M r M' := by
  refine Met.ofW (cc := cX11_judge) (maxL := 7) (ret := (some .int)) (by decide) rfl ?_
  intro p e s m args below meth c s₁ B hml hv
  obtain ⟨hargs, hsz, hP, hK, hD0⟩ := hv
  have hx := B.exec
  have hb := B.bytes
  have hr := B.returns
  have hts := atoms_spec (ws := wsX11_judge) B.pre
  have hown : s.vm.findClass RX11 = some m.cls := findClass_of_methodNamed B.named
  have hlocks := B.notSynchronized
  have hin := inX11_judge
  have hsz : s.heap.size = sz := hsz
  subst hsz
  have lk7 : Cond.fieldLink RX11 7 (TX11 0).1 (TX11 0).2.1 (TX11 0).2.2.1 ∈ wsX11_judge := by decide +kernel
  have lk208 : Cond.fieldLink RX11 208 (TX11 13).1 (TX11 13).2.1 (TX11 13).2.2.1 ∈ wsX11_judge := by decide +kernel
  have hD := hD0.self (sz := s.heap.size)
  generalize hAe : va_A (wM tI tZ h M) s.heap.size = A at hD ⊢
  have hA : ∀ q : Nat, s.heap.size ≤ q → A q := fun q h => by rw [← hAe]; exact Or.inr h
  have hS : va_S A s.heap s.heap [] := va_S.rf
  have hl := lv_entry ([.ref (h 0)]) (n := 7) (Nat.le_of_ble_eq_true rfl)
  rw [show entryFrame m args 7 = entryFrame m ([.ref (h 0)] : List Value).toArray 7 from by rw [hargs], lg_entry_eq]
  generalize (lg_sl ([.ref (h 0)]) ++ List.replicate (7 - (lg_sl ([.ref (h 0)])).length) Slot.unset).toArray = ls at hl ⊢
  have hl : lv_has ls 7 [(0, .ref (h 0))] := hl
  unfold f_X11_judge at hf
  refine lv_aload_n hx hb dX11_judge_0 rfl (lv_at hl 0 rfl) ?_
  obtain ⟨M1, eM1, hf⟩ := bd hf
  refine klMv (rest := []) (As := []) ⟨hx, hb, hml, hown, hts⟩ (c_X11_carryNothing l dC dI tI tZ h s.heap.size M M1 eM1) (cwV 0 hts gX11_judge_X11_carryNothing rfl rfl rfl (by decide +kernel) ⟨Nat.le_of_ble_eq_true rfl, Nat.le_of_ble_eq_true rfl⟩) rfl hl.1 rfl (Nat.le_of_ble_eq_true rfl) dX11_judge_1 ⟨Nat.zero_le _, Nat.zero_le _⟩ hK hP hD hS hA (fun H locs hP hD hS => ?_)
  refine lv_aload_n hx hb dX11_judge_4 rfl (lv_at hl 0 rfl) ?_
  refine lv_iconst (v := 0) hx hb dX11_judge_5 (by decide) ?_
  obtain ⟨M2, eM2, hf⟩ := bn hf
  refine puM (M1 := M2) hx hb hts hin hown hK hP hD hS 13 (by decide) lk208 rfl (by decide +kernel) (by rw [eM2]; rfl) dX11_judge_6 (fun H locs hP hD hS => ?_)
  refine lv_iconst (v := 0) hx hb dX11_judge_9 (by decide) ?_
  refine lv_istore_n (lv' := [(1, .int 0), (0, .ref (h 0))]) hx hb dX11_judge_10 rfl hl (by decide) rfl (fun ls hl => ?_)
  refine lv_iconst (v := 0) hx hb dX11_judge_11 (by decide) ?_
  refine lv_istore_n (lv' := [(2, .int 0), (1, .int 0), (0, .ref (h 0))]) hx hb dX11_judge_12 rfl hl (by decide) rfl (fun ls hl => ?_)
  have L13 : ∀ (n : Nat) (y3 : Int32) (y4 : Int32) (M5 : MS) (H : Heap) (locs : List Loc) (ls : Array Slot), lp (fun s => b_X11_judge_13 s.1 s.2.1 s.2.2) n (y3, y4, M5) = some (r, M') → va_P (dC, dI) vwCl (wM tI tZ h M5) H → va_D A (wM tI tZ h M5) → va_S A s.heap H locs → lv_has ls 7 [(0, .ref (h 0)), (1, .int y3), (2, .int y4)] → W p l e RRX11_judge s m args below meth c H locs 0 0 (MQ below (qcMi dC dI tI tZ A h r M') args s 0 0 A) (F0 m 13 ls []) := by
    intro n
    induction n with
    | zero => intro y3 y4 M5 H locs ls hf; exact lp_z hf
    | succ n ih13 =>
      intro y3 y4 M5 H locs ls hf hP hD hS hl
      obtain ⟨q13, hf, hq13⟩ := lp_i hf
      have hf : b_X11_judge_13 y3 y4 M5 = some q13 := hf
      unfold b_X11_judge_13 at hf
      refine lv_iload_n hx hb dX11_judge_13 rfl (lv_at hl 2 rfl) ?_
      refine lv_aload_n hx hb dX11_judge_14 rfl (lv_at hl 0 rfl) ?_
      refine geM hx hb hts hin hown hK hP 0 (by decide) lk7 rfl dX11_judge_15 ?_
      refine lv_sipush (v := 275) hx hb dX11_judge_18 (by decide) ?_
      obtain ⟨x6, hix6, ex6, hf⟩ := rd_b hf
      refine va_iald hx hb hK hP 1 0 rfl rfl hix6 dX11_judge_21 (kI ex6 ?_)
      refine lv_icmp_ge (tgt := 147) hx hb dX11_judge_22 (by decide) (fun c21 => ?_) (fun c21 => ?_)
      · have hf := (if_pos c21).symm.trans hf
        refine lv_iconst (v := (-1)) hx hb dX11_judge_147 (by decide) ?_
        have hf := lp_r hf hq13
        exact rtMi hx hb hr hlocks hK hP hD hS hf dX11_judge_148
      · have hf := (if_neg c21).symm.trans hf
        refine lv_aload_n hx hb dX11_judge_25 rfl (lv_at hl 0 rfl) ?_
        refine geM hx hb hts hin hown hK hP 0 (by decide) lk7 rfl dX11_judge_26 ?_
        refine lv_bipush (v := 28) hx hb dX11_judge_29 (by decide) ?_
        refine lv_iconst (v := 2) hx hb dX11_judge_31 (by decide) ?_
        refine lv_iload_n hx hb dX11_judge_32 rfl (lv_at hl 2 rfl) ?_
        refine lv_imul hx hb dX11_judge_33 ?_
        refine lv_iadd hx hb dX11_judge_34 ?_
        obtain ⟨x7, hix7, ex7, hf⟩ := rd_b hf
        refine va_iald hx hb hK hP 1 0 rfl rfl hix7 dX11_judge_35 (kI ex7 ?_)
        refine lv_istore_n (lv' := [(3, .int x7), (0, .ref (h 0)), (1, .int y3), (2, .int y4)]) hx hb dX11_judge_36 rfl hl (by decide) rfl (fun ls hl => ?_)
        refine lv_aload_n hx hb dX11_judge_37 rfl (lv_at hl 1 rfl) ?_
        refine geM hx hb hts hin hown hK hP 0 (by decide) lk7 rfl dX11_judge_38 ?_
        refine lv_bipush (v := 28) hx hb dX11_judge_41 (by decide) ?_
        refine lv_iconst (v := 2) hx hb dX11_judge_43 (by decide) ?_
        refine lv_iload_n hx hb dX11_judge_44 rfl (lv_at hl 3 rfl) ?_
        refine lv_imul hx hb dX11_judge_45 ?_
        refine lv_iadd hx hb dX11_judge_46 ?_
        refine lv_iconst (v := 1) hx hb dX11_judge_47 (by decide) ?_
        refine lv_iadd hx hb dX11_judge_48 ?_
        obtain ⟨x8, hix8, ex8, hf⟩ := rd_b hf
        refine va_iald hx hb hK hP 1 0 rfl rfl hix8 dX11_judge_49 (kI ex8 ?_)
        refine lv_istore (lv' := [(4, .int x8), (3, .int x7), (0, .ref (h 0)), (1, .int y3), (2, .int y4)]) hx hb dX11_judge_50 hl (by decide) rfl (fun ls hl => ?_)
        refine lv_aload_n hx hb dX11_judge_52 rfl (lv_at hl 2 rfl) ?_
        refine geM hx hb hts hin hown hK hP 13 (by decide) lk208 rfl dX11_judge_53 ?_
        refine lv_iload hx hb dX11_judge_56 (lv_at hl 0 rfl) ?_
        refine lv_iand hx hb dX11_judge_58 ?_
        have J79 : ∀ (k9 : Int32) (H : Heap) (locs : List Loc) (ls : Array Slot), j_X11_judge_79 y3 y4 M5 x7 x8 k9 = some q13 → va_P (dC, dI) vwCl (wM tI tZ h M5) H → va_D A (wM tI tZ h M5) → va_S A s.heap H locs → lv_has ls 7 [(0, .ref (h 0)), (1, .int y3), (2, .int y4), (3, .int x7), (4, .int x8)] → W p l e RRX11_judge s m args below meth c H locs 0 0 (MQ below (qcMi dC dI tI tZ A h r M') args s 0 0 A) (F0 m 79 ls [.int k9]) := by
          intro k9 H locs ls hf hP hD hS hl
          unfold j_X11_judge_79 at hf
          refine lv_istore (lv' := [(5, .int k9), (0, .ref (h 0)), (1, .int y3), (2, .int y4), (3, .int x7), (4, .int x8)]) hx hb dX11_judge_79 hl (by decide) rfl (fun ls hl => ?_)
          refine lv_iload_n hx hb dX11_judge_81 rfl (lv_at hl 4 rfl) ?_
          refine lv_iload_n hx hb dX11_judge_82 rfl (lv_at hl 2 rfl) ?_
          have J106 : ∀ (k10 : Int32) (H : Heap) (locs : List Loc) (ls : Array Slot), j_X11_judge_106 y4 M5 x7 x8 k10 = some q13 → va_P (dC, dI) vwCl (wM tI tZ h M5) H → va_D A (wM tI tZ h M5) → va_S A s.heap H locs → lv_has ls 7 [(0, .ref (h 0)), (2, .int y4), (3, .int x7), (4, .int x8)] → W p l e RRX11_judge s m args below meth c H locs 0 0 (MQ below (qcMi dC dI tI tZ A h r M') args s 0 0 A) (F0 m 106 ls [.int k10]) := by
            intro k10 H locs ls hf hP hD hS hl
            unfold j_X11_judge_106 at hf
            refine lv_istore (lv' := [(6, .int k10), (0, .ref (h 0)), (2, .int y4), (3, .int x7), (4, .int x8)]) hx hb dX11_judge_106 hl (by decide) rfl (fun ls hl => ?_)
            refine lv_iload hx hb dX11_judge_108 (lv_at hl 0 rfl) ?_
            refine lv_if_le (tgt := 121) hx hb dX11_judge_110 (by decide) (fun c15 => ?_) (fun c15 => ?_)
            · have hf := (if_pos c15).symm.trans hf
              refine lv_iload_n hx hb dX11_judge_121 rfl (lv_at hl 3 rfl) ?_
              refine lv_aload_n hx hb dX11_judge_122 rfl (lv_at hl 1 rfl) ?_
              refine lv_iload hx hb dX11_judge_123 (lv_at hl 4 rfl) ?_
              obtain ⟨r11, er11, hf⟩ := bd hf
              refine klMi (rest := [.int x7]) (As := [.int x8]) ⟨hx, hb, hml, hown, hts⟩ (c_X11_timeOfSet l dC dI tI tZ h H.size M5 x8 r11 er11) (cwV 1 hts gX11_judge_X11_timeOfSet rfl rfl rfl (by decide +kernel) ⟨Nat.le_of_ble_eq_true rfl, Nat.le_of_ble_eq_true rfl⟩) rfl hl.1 rfl (Nat.le_of_ble_eq_true rfl) dX11_judge_125 ⟨Nat.zero_le _, Nat.zero_le _⟩ hK hP hD hS hA (fun H locs hP hD hS => ?_)
              refine lv_iadd hx hb dX11_judge_128 ?_
              refine lv_topi (fun x12 ex12 => ?_)
              have hf := bs ex12 hf
              refine lv_istore_n (lv' := [(1, .int x12), (6, .int k10), (0, .ref (h 0)), (2, .int y4), (3, .int x7), (4, .int x8)]) hx hb dX11_judge_129 rfl hl (by decide) rfl (fun ls hl => ?_)
              refine lv_aload_n hx hb dX11_judge_130 rfl (lv_at hl 2 rfl) ?_
              refine lv_dup hx hb dX11_judge_131 rfl ?_
              refine geM hx hb hts hin hown hK hP 13 (by decide) lk208 rfl dX11_judge_132 ?_
              refine lv_iload hx hb dX11_judge_135 (lv_at hl 5 rfl) ?_
              refine lv_ixor hx hb dX11_judge_137 ?_
              obtain ⟨M13, eM13, hf⟩ := bn hf
              refine puM (M1 := M13) hx hb hts hin hown hK hP hD hS 13 (by decide) lk208 rfl (by decide +kernel) (by rw [eM13]; rfl) dX11_judge_138 (fun H locs hP hD hS => ?_)
              obtain ⟨x14, ex14, hf⟩ := bn hf
              refine lv_iinc (v := x14) (lv' := [(2, .int x14), (1, .int x12), (6, .int k10), (0, .ref (h 0)), (3, .int x7), (4, .int x8)]) hx hb dX11_judge_141 hl (k := 3) rfl (by rw [ex14]; rfl) (by decide) rfl (fun ls hl => ?_)
              refine lv_goto (tgt := 13) hx hb dX11_judge_144 (by decide) ?_
              exact ih13 x12 x14 M13 _ _ _ (lp_l hf hq13) hP hD hS (lv_sub hl [3, 1, 0] rfl)
            · have hf := (if_neg c15).symm.trans hf
              refine lv_bipush (v := 10) hx hb dX11_judge_113 (by decide) ?_
              refine lv_iload_n hx hb dX11_judge_115 rfl (lv_at hl 2 rfl) ?_
              refine lv_imul hx hb dX11_judge_116 ?_
              refine lv_iload hx hb dX11_judge_117 (lv_at hl 0 rfl) ?_
              refine lv_iadd hx hb dX11_judge_119 ?_
              have hf := lp_r hf hq13
              exact rtMi hx hb hr hlocks hK hP hD hS hf dX11_judge_120
          refine lv_icmp_ge (tgt := 90) hx hb dX11_judge_83 (by decide) (fun c18 => ?_) (fun c18 => ?_)
          · have hf := (if_pos c18).symm.trans hf
            refine lv_iload hx hb dX11_judge_90 (lv_at hl 0 rfl) ?_
            refine lv_if_ne (tgt := 99) hx hb dX11_judge_92 (by decide) (fun c17 => ?_) (fun c17 => ?_)
            · have hf := (if_neg c17).symm.trans hf
              refine lv_aload_n hx hb dX11_judge_99 rfl (lv_at hl 1 rfl) ?_
              refine lv_iload hx hb dX11_judge_100 (lv_at hl 5 rfl) ?_
              refine lv_iload_n hx hb dX11_judge_102 rfl (lv_at hl 4 rfl) ?_
              obtain ⟨r16, er16, hf⟩ := bd hf
              refine klMi (rest := []) (As := [.int x8, .int x7]) ⟨hx, hb, hml, hown, hts⟩ (c_X11_whyNot l dC dI tI tZ h H.size M5 x8 x7 r16 er16) (cwV 2 hts gX11_judge_X11_whyNot rfl rfl rfl (by decide +kernel) ⟨Nat.le_of_ble_eq_true rfl, Nat.le_of_ble_eq_true rfl⟩) rfl hl.1 rfl (Nat.le_of_ble_eq_true rfl) dX11_judge_103 ⟨Nat.zero_le _, Nat.zero_le _⟩ hK hP hD hS hA (fun H locs hP hD hS => ?_)
              exact J106 r16 _ _ _ hf hP hD hS (lv_sub hl [1, 3, 4, 5] rfl)
            · have hf := (if_pos c17).symm.trans hf
              refine lv_iconst (v := 2) hx hb dX11_judge_95 (by decide) ?_
              refine lv_goto (tgt := 106) hx hb dX11_judge_96 (by decide) ?_
              exact J106 2 _ _ _ hf hP hD hS (lv_sub hl [1, 3, 4, 5] rfl)
          · have hf := (if_neg c18).symm.trans hf
            refine lv_iconst (v := 1) hx hb dX11_judge_86 (by decide) ?_
            refine lv_goto (tgt := 106) hx hb dX11_judge_87 (by decide) ?_
            exact J106 1 _ _ _ hf hP hD hS (lv_sub hl [1, 3, 4, 5] rfl)
        have J74 : ∀  (H : Heap) (locs : List Loc) (ls : Array Slot), j_X11_judge_74 y3 y4 M5 x7 x8 = some q13 → va_P (dC, dI) vwCl (wM tI tZ h M5) H → va_D A (wM tI tZ h M5) → va_S A s.heap H locs → lv_has ls 7 [(0, .ref (h 0)), (1, .int y3), (2, .int y4), (3, .int x7), (4, .int x8)] → W p l e RRX11_judge s m args below meth c H locs 0 0 (MQ below (qcMi dC dI tI tZ A h r M') args s 0 0 A) (F0 m 74 ls []) := by
          intro  H locs ls hf hP hD hS hl
          unfold j_X11_judge_74 at hf
          refine lv_iconst (v := 1) hx hb dX11_judge_74 (by decide) ?_
          refine lv_goto (tgt := 79) hx hb dX11_judge_75 (by decide) ?_
          exact J79 1 _ _ _ hf hP hD hS (lv_sub hl [0, 1, 2, 3, 4] rfl)
        refine lv_if_eq (tgt := 74) hx hb dX11_judge_59 (by decide) (fun c20 => ?_) (fun c20 => ?_)
        · have hf := (if_pos c20).symm.trans hf
          exact J74  _ _ _ hf hP hD hS (lv_sub hl [2, 3, 4, 1, 0] rfl)
        · have hf := (if_neg c20).symm.trans hf
          refine lv_aload_n hx hb dX11_judge_62 rfl (lv_at hl 2 rfl) ?_
          refine geM hx hb hts hin hown hK hP 13 (by decide) lk208 rfl dX11_judge_63 ?_
          refine lv_iload hx hb dX11_judge_66 (lv_at hl 0 rfl) ?_
          refine lv_iand hx hb dX11_judge_68 ?_
          refine lv_iload hx hb dX11_judge_69 (lv_at hl 0 rfl) ?_
          refine lv_icmp_ne (tgt := 78) hx hb dX11_judge_71 (by decide) (fun c19 => ?_) (fun c19 => ?_)
          · have hf := (if_neg c19).symm.trans hf
            refine lv_iconst (v := 0) hx hb dX11_judge_78 (by decide) ?_
            exact J79 0 _ _ _ hf hP hD hS (lv_sub hl [2, 3, 4, 1, 0] rfl)
          · have hf := (if_pos c19).symm.trans hf
            exact J74  _ _ _ hf hP hD hS (lv_sub hl [2, 3, 4, 1, 0] rfl)
  exact L13 FU 0 0 M2 _ _ _ hf hP hD hS (lv_sub hl [2, 1, 0] rfl)

def f_X11_judged (M : MS)  : Option (Int32 × MS) :=
  bi2 (f_X11_judge M) (fun r1 M2 => some ((r1, M2)))
def rmX11_judged : Room := { frames := 5, cells := 0, slots := 0, locals := 121 }
abbrev RRX11_judged : Room := (headSpec wsX11_judged rmX11_judged).room
theorem inX11_judged : ∀ w ∈ wsX110, w ∈ wsX11_judged := by decide +kernel
set_option maxHeartbeats 4000000 in
set_option maxRecDepth 100000 in
theorem c_X11_judged (l : Launch) (dC : Nat → ClassId) (dI : Nat → Nat → Nat) (tI tZ : ClassId) (h : Nat → Nat) (sz : Nat) (M : MS)  (r : Int32) (M' : MS) (hf : f_X11_judged M  = some (r, M')) : cMi l yX11_judged wsX11_judged rmX11_judged dC dI tI tZ h sz [.ref (h 0)] M r M' := by
  refine Met.ofW (cc := cX11_judged) (maxL := 1) (ret := (some .int)) (by decide) rfl ?_
  intro p e s m args below meth c s₁ B hml hv
  obtain ⟨hargs, hsz, hP, hK, hD0⟩ := hv
  have hx := B.exec
  have hb := B.bytes
  have hr := B.returns
  have hts := atoms_spec (ws := wsX11_judged) B.pre
  have hown : s.vm.findClass RX11 = some m.cls := findClass_of_methodNamed B.named
  have hlocks := B.notSynchronized
  have hin := inX11_judged
  have hsz : s.heap.size = sz := hsz
  subst hsz
  have hD := hD0.self (sz := s.heap.size)
  generalize hAe : va_A (wM tI tZ h M) s.heap.size = A at hD ⊢
  have hA : ∀ q : Nat, s.heap.size ≤ q → A q := fun q h => by rw [← hAe]; exact Or.inr h
  have hS : va_S A s.heap s.heap [] := va_S.rf
  have hl := lv_entry ([.ref (h 0)]) (n := 1) (Nat.le_of_ble_eq_true rfl)
  rw [show entryFrame m args 1 = entryFrame m ([.ref (h 0)] : List Value).toArray 1 from by rw [hargs], lg_entry_eq]
  generalize (lg_sl ([.ref (h 0)]) ++ List.replicate (1 - (lg_sl ([.ref (h 0)])).length) Slot.unset).toArray = ls at hl ⊢
  have hl : lv_has ls 1 [(0, .ref (h 0))] := hl
  unfold f_X11_judged at hf
  refine lv_aload_n hx hb dX11_judged_0 rfl (lv_at hl 0 rfl) ?_
  obtain ⟨r1, M2, er1, hf⟩ := b2 hf
  refine klMi (rest := []) (As := []) ⟨hx, hb, hml, hown, hts⟩ (c_X11_judge l dC dI tI tZ h s.heap.size M r1 M2 er1) (cwV 0 hts gX11_judged_X11_judge rfl rfl rfl (by decide +kernel) ⟨Nat.le_of_ble_eq_true rfl, Nat.le_of_ble_eq_true rfl⟩) rfl hl.1 rfl (Nat.le_of_ble_eq_true rfl) dX11_judged_1 ⟨Nat.zero_le _, Nat.zero_le _⟩ hK hP hD hS hA (fun H locs hP hD hS => ?_)
  exact rtMi hx hb hr hlocks hK hP hD hS hf dX11_judged_4

def f_X11_there (M : MS)  : Option (Int32 × MS) :=
  bi2 (f_X11_judge M) (fun r1 M2 => some ((M2 13 0, M2)))
def rmX11_there : Room := { frames := 5, cells := 0, slots := 0, locals := 121 }
abbrev RRX11_there : Room := (headSpec wsX11_there rmX11_there).room
theorem inX11_there : ∀ w ∈ wsX110, w ∈ wsX11_there := by decide +kernel
set_option maxHeartbeats 4000000 in
set_option maxRecDepth 100000 in
theorem c_X11_there (l : Launch) (dC : Nat → ClassId) (dI : Nat → Nat → Nat) (tI tZ : ClassId) (h : Nat → Nat) (sz : Nat) (M : MS)  (r : Int32) (M' : MS) (hf : f_X11_there M  = some (r, M')) : cMi l yX11_there wsX11_there rmX11_there dC dI tI tZ h sz [.ref (h 0)] M r M' := by
  refine Met.ofW (cc := cX11_there) (maxL := 2) (ret := (some .int)) (by decide) rfl ?_
  intro p e s m args below meth c s₁ B hml hv
  obtain ⟨hargs, hsz, hP, hK, hD0⟩ := hv
  have hx := B.exec
  have hb := B.bytes
  have hr := B.returns
  have hts := atoms_spec (ws := wsX11_there) B.pre
  have hown : s.vm.findClass RX11 = some m.cls := findClass_of_methodNamed B.named
  have hlocks := B.notSynchronized
  have hin := inX11_there
  have hsz : s.heap.size = sz := hsz
  subst hsz
  have lk208 : Cond.fieldLink RX11 208 (TX11 13).1 (TX11 13).2.1 (TX11 13).2.2.1 ∈ wsX11_there := by decide +kernel
  have hD := hD0.self (sz := s.heap.size)
  generalize hAe : va_A (wM tI tZ h M) s.heap.size = A at hD ⊢
  have hA : ∀ q : Nat, s.heap.size ≤ q → A q := fun q h => by rw [← hAe]; exact Or.inr h
  have hS : va_S A s.heap s.heap [] := va_S.rf
  have hl := lv_entry ([.ref (h 0)]) (n := 2) (Nat.le_of_ble_eq_true rfl)
  rw [show entryFrame m args 2 = entryFrame m ([.ref (h 0)] : List Value).toArray 2 from by rw [hargs], lg_entry_eq]
  generalize (lg_sl ([.ref (h 0)]) ++ List.replicate (2 - (lg_sl ([.ref (h 0)])).length) Slot.unset).toArray = ls at hl ⊢
  have hl : lv_has ls 2 [(0, .ref (h 0))] := hl
  unfold f_X11_there at hf
  refine lv_aload_n hx hb dX11_there_0 rfl (lv_at hl 0 rfl) ?_
  obtain ⟨r1, M2, er1, hf⟩ := b2 hf
  refine klMi (rest := []) (As := []) ⟨hx, hb, hml, hown, hts⟩ (c_X11_judge l dC dI tI tZ h s.heap.size M r1 M2 er1) (cwV 0 hts gX11_there_X11_judge rfl rfl rfl (by decide +kernel) ⟨Nat.le_of_ble_eq_true rfl, Nat.le_of_ble_eq_true rfl⟩) rfl hl.1 rfl (Nat.le_of_ble_eq_true rfl) dX11_there_1 ⟨Nat.zero_le _, Nat.zero_le _⟩ hK hP hD hS hA (fun H locs hP hD hS => ?_)
  refine lv_istore_n (lv' := [(1, .int r1), (0, .ref (h 0))]) hx hb dX11_there_4 rfl hl (by decide) rfl (fun ls hl => ?_)
  refine lv_aload_n hx hb dX11_there_5 rfl (lv_at hl 1 rfl) ?_
  refine geM hx hb hts hin hown hK hP 13 (by decide) lk208 rfl dX11_there_6 ?_
  exact rtMi hx hb hr hlocks hK hP hD hS hf dX11_there_9

def f_X11_at (p0 : Int32) (p1 : Int32) : Option Int32 :=
  some ((64 * p0) + p1)
def rmX11_at : Room := { frames := 0, cells := 0, slots := 0, locals := 0 }
abbrev RRX11_at : Room := (headSpec wsX11_at rmX11_at).room
set_option maxHeartbeats 4000000 in
set_option maxRecDepth 100000 in
theorem c_X11_at (l : Launch) (sz : Nat) (p0 : Int32) (p1 : Int32) (r : Int32) (hf : f_X11_at p0 p1 = some r) : cEi l yX11_at wsX11_at rmX11_at sz [.int p0, .int p1] r := by
  refine Met.ofW (cc := cX11_at) (maxL := 2) (ret := (some .int)) (by decide) rfl ?_
  intro p e s m args below meth c s₁ B hml hv
  obtain ⟨hargs, hsz⟩ := hv
  have hx := B.exec
  have hb := B.bytes
  have hr := B.returns
  have hts := atoms_spec (ws := wsX11_at) B.pre
  have hown : s.vm.findClass RX11 = some m.cls := findClass_of_methodNamed B.named
  have hlocks := B.notSynchronized
  have hsz : s.heap.size = sz := hsz
  subst hsz
  obtain ⟨A, hAe⟩ : ∃ A : Nat → Prop, A = fun q => s.heap.size ≤ q := ⟨_, rfl⟩
  rw [← hAe]
  have hA : ∀ q : Nat, s.heap.size ≤ q → A q := fun q h => by rw [hAe]; exact h
  have hS : va_S A s.heap s.heap [] := va_S.rf
  have hl := lv_entry ([.int p0, .int p1]) (n := 2) (Nat.le_of_ble_eq_true rfl)
  rw [show entryFrame m args 2 = entryFrame m ([.int p0, .int p1] : List Value).toArray 2 from by rw [hargs], lg_entry_eq]
  generalize (lg_sl ([.int p0, .int p1]) ++ List.replicate (2 - (lg_sl ([.int p0, .int p1])).length) Slot.unset).toArray = ls at hl ⊢
  have hl : lv_has ls 2 [(0, .int p0), (1, .int p1)] := hl
  unfold f_X11_at at hf
  refine lv_bipush (v := 64) hx hb dX11_at_0 (by decide) ?_
  refine lv_iload_n hx hb dX11_at_2 rfl (lv_at hl 0 rfl) ?_
  refine lv_imul hx hb dX11_at_3 ?_
  refine lv_iload_n hx hb dX11_at_4 rfl (lv_at hl 1 rfl) ?_
  refine lv_iadd hx hb dX11_at_5 ?_
  exact rtEi hx hb hr hlocks hS hf dX11_at_6

def k_X11_hireOf_4 (y1 : Int32) : Option Int32 :=
  some y1
def b_X11_hireOf_4 (M : MS) (p0 : Int32) (y2 : Int32) (y3 : Int32) : Option ((Int32 × Int32) ⊕ Int32) :=
  Option.bind (f_X11_porters M) (fun r4 => (if r4 ≤ y3 then (some (Sum.inr y2)) else ((if ((p0 >>> (y3 &&& 31)) &&& 1) = 1 then (Option.bind (f_X11_told M y3 2) (fun r7 => Option.bind (some (y2 + r7)) (fun x8 => Option.bind (some (y3 + 1)) (fun x9 => some (Sum.inl (x8, x9)))))) else (Option.bind (some (y2 + 0)) (fun x5 => Option.bind (some (y3 + 1)) (fun x6 => some (Sum.inl (x5, x6)))))))))
def f_X11_hireOf (M : MS) (p0 : Int32) : Option Int32 :=
  Option.bind (lp (fun s => b_X11_hireOf_4 M p0 s.1 s.2) FU (0, 0)) (fun s => k_X11_hireOf_4 s)
def rmX11_hireOf : Room := { frames := 1, cells := 0, slots := 0, locals := 22 }
abbrev RRX11_hireOf : Room := (headSpec wsX11_hireOf rmX11_hireOf).room
theorem inX11_hireOf : ∀ w ∈ wsX110, w ∈ wsX11_hireOf := by decide +kernel
set_option maxHeartbeats 4000000 in
set_option maxRecDepth 100000 in
theorem c_X11_hireOf (l : Launch) (dC : Nat → ClassId) (dI : Nat → Nat → Nat) (tI tZ : ClassId) (h : Nat → Nat) (sz : Nat) (M : MS) (p0 : Int32) (r : Int32) (hf : f_X11_hireOf M p0 = some r) : cMi l yX11_hireOf wsX11_hireOf rmX11_hireOf dC dI tI tZ h sz [.ref (h 0), .int p0] M r M := by
  refine Met.ofW (cc := cX11_hireOf) (maxL := 4) (ret := (some .int)) (by decide) rfl ?_
  intro p e s m args below meth c s₁ B hml hv
  obtain ⟨hargs, hsz, hP, hK, hD0⟩ := hv
  have hx := B.exec
  have hb := B.bytes
  have hr := B.returns
  have hts := atoms_spec (ws := wsX11_hireOf) B.pre
  have hown : s.vm.findClass RX11 = some m.cls := findClass_of_methodNamed B.named
  have hlocks := B.notSynchronized
  have hin := inX11_hireOf
  have hsz : s.heap.size = sz := hsz
  subst hsz
  have hD := hD0.self (sz := s.heap.size)
  generalize hAe : va_A (wM tI tZ h M) s.heap.size = A at hD ⊢
  have hA : ∀ q : Nat, s.heap.size ≤ q → A q := fun q h => by rw [← hAe]; exact Or.inr h
  have hS : va_S A s.heap s.heap [] := va_S.rf
  have hl := lv_entry ([.ref (h 0), .int p0]) (n := 4) (Nat.le_of_ble_eq_true rfl)
  rw [show entryFrame m args 4 = entryFrame m ([.ref (h 0), .int p0] : List Value).toArray 4 from by rw [hargs], lg_entry_eq]
  generalize (lg_sl ([.ref (h 0), .int p0]) ++ List.replicate (4 - (lg_sl ([.ref (h 0), .int p0])).length) Slot.unset).toArray = ls at hl ⊢
  have hl : lv_has ls 4 [(0, .ref (h 0)), (1, .int p0)] := hl
  unfold f_X11_hireOf at hf
  refine lv_iconst (v := 0) hx hb dX11_hireOf_0 (by decide) ?_
  refine lv_istore_n (lv' := [(2, .int 0), (0, .ref (h 0)), (1, .int p0)]) hx hb dX11_hireOf_1 rfl hl (by decide) rfl (fun ls hl => ?_)
  refine lv_iconst (v := 0) hx hb dX11_hireOf_2 (by decide) ?_
  refine lv_istore_n (lv' := [(3, .int 0), (2, .int 0), (0, .ref (h 0)), (1, .int p0)]) hx hb dX11_hireOf_3 rfl hl (by decide) rfl (fun ls hl => ?_)
  have K4 : ∀ (y1 : Int32) (H : Heap) (locs : List Loc) (ls : Array Slot), k_X11_hireOf_4 y1 = some r → va_P (dC, dI) vwCl (wM tI tZ h M) H → va_D A (wM tI tZ h M) → va_S A s.heap H locs → lv_has ls 4 [(2, .int y1)] → W p l e RRX11_hireOf s m args below meth c H locs 0 0 (MQ below (qcMi dC dI tI tZ A h r M) args s 0 0 A) (F0 m 40 ls []) := by
    intro y1 H locs ls hf hP hD hS hl
    unfold k_X11_hireOf_4 at hf
    refine lv_iload_n hx hb dX11_hireOf_40 rfl (lv_at hl 0 rfl) ?_
    exact rtMi hx hb hr hlocks hK hP hD hS (congrArg (fun z => some (z, M)) (Option.some.inj hf)) dX11_hireOf_41
  obtain ⟨z4, ez4, hz4⟩ := bd hf
  have L4 : ∀ (n : Nat) (y2 : Int32) (y3 : Int32) (H : Heap) (locs : List Loc) (ls : Array Slot), lp (fun s => b_X11_hireOf_4 M p0 s.1 s.2) n (y2, y3) = some z4 → va_P (dC, dI) vwCl (wM tI tZ h M) H → va_D A (wM tI tZ h M) → va_S A s.heap H locs → lv_has ls 4 [(0, .ref (h 0)), (1, .int p0), (2, .int y2), (3, .int y3)] → W p l e RRX11_hireOf s m args below meth c H locs 0 0 (MQ below (qcMi dC dI tI tZ A h r M) args s 0 0 A) (F0 m 4 ls []) := by
    intro n
    induction n with
    | zero => intro y2 y3 H locs ls hf; exact lp_z hf
    | succ n ih4 =>
      intro y2 y3 H locs ls hf hP hD hS hl
      obtain ⟨q4, hf, hq4⟩ := lp_i hf
      have hf : b_X11_hireOf_4 M p0 y2 y3 = some q4 := hf
      unfold b_X11_hireOf_4 at hf
      refine lv_iload_n hx hb dX11_hireOf_4 rfl (lv_at hl 3 rfl) ?_
      refine lv_aload_n hx hb dX11_hireOf_5 rfl (lv_at hl 0 rfl) ?_
      obtain ⟨r4, er4, hf⟩ := bd hf
      refine klMi (rest := [.int y3]) (As := []) ⟨hx, hb, hml, hown, hts⟩ (c_X11_porters l dC dI tI tZ h H.size M r4 er4) (cwV 0 hts gX11_hireOf_X11_porters rfl rfl rfl (by decide +kernel) ⟨Nat.le_of_ble_eq_true rfl, Nat.le_of_ble_eq_true rfl⟩) rfl hl.1 rfl (Nat.le_of_ble_eq_true rfl) dX11_hireOf_6 ⟨Nat.zero_le _, Nat.zero_le _⟩ hK hP hD hS hA (fun H locs hP hD hS => ?_)
      refine lv_icmp_ge (tgt := 40) hx hb dX11_hireOf_9 (by decide) (fun c11 => ?_) (fun c11 => ?_)
      · have hf := (if_pos c11).symm.trans hf
        exact K4 y2 _ _ _ (lp_x (k := (fun s => k_X11_hireOf_4 s)) (lp_r hf hq4) hz4) hP hD hS (lv_sub hl [2] rfl)
      · have hf := (if_neg c11).symm.trans hf
        refine lv_iload_n hx hb dX11_hireOf_12 rfl (lv_at hl 2 rfl) ?_
        refine lv_iload_n hx hb dX11_hireOf_13 rfl (lv_at hl 1 rfl) ?_
        refine lv_iload_n hx hb dX11_hireOf_14 rfl (lv_at hl 3 rfl) ?_
        refine lv_ishr hx hb dX11_hireOf_15 ?_
        refine lv_iconst (v := 1) hx hb dX11_hireOf_16 (by decide) ?_
        refine lv_iand hx hb dX11_hireOf_17 ?_
        refine lv_iconst (v := 1) hx hb dX11_hireOf_18 (by decide) ?_
        refine lv_icmp_ne (tgt := 31) hx hb dX11_hireOf_19 (by decide) (fun c10 => ?_) (fun c10 => ?_)
        · have hf := (if_neg c10).symm.trans hf
          refine lv_iconst (v := 0) hx hb dX11_hireOf_31 (by decide) ?_
          refine lv_iadd hx hb dX11_hireOf_32 ?_
          refine lv_topi (fun x5 ex5 => ?_)
          have hf := bs ex5 hf
          refine lv_istore_n (lv' := [(2, .int x5), (0, .ref (h 0)), (1, .int p0), (3, .int y3)]) hx hb dX11_hireOf_33 rfl hl (by decide) rfl (fun ls hl => ?_)
          obtain ⟨x6, ex6, hf⟩ := bn hf
          refine lv_iinc (v := x6) (lv' := [(3, .int x6), (2, .int x5), (0, .ref (h 0)), (1, .int p0)]) hx hb dX11_hireOf_34 hl (k := 3) rfl (by rw [ex6]; rfl) (by decide) rfl (fun ls hl => ?_)
          refine lv_goto (tgt := 4) hx hb dX11_hireOf_37 (by decide) ?_
          exact ih4 x5 x6 _ _ _ (lp_l hf hq4) hP hD hS (lv_sub hl [2, 3, 1, 0] rfl)
        · have hf := (if_pos c10).symm.trans hf
          refine lv_aload_n hx hb dX11_hireOf_22 rfl (lv_at hl 0 rfl) ?_
          refine lv_iload_n hx hb dX11_hireOf_23 rfl (lv_at hl 3 rfl) ?_
          refine lv_iconst (v := 2) hx hb dX11_hireOf_24 (by decide) ?_
          obtain ⟨r7, er7, hf⟩ := bd hf
          refine klMi (rest := [.int y2]) (As := [.int y3, .int 2]) ⟨hx, hb, hml, hown, hts⟩ (c_X11_told l dC dI tI tZ h H.size M y3 2 r7 er7) (cwV 2 hts gX11_hireOf_X11_told rfl rfl rfl (by decide +kernel) ⟨Nat.le_of_ble_eq_true rfl, Nat.le_of_ble_eq_true rfl⟩) rfl hl.1 rfl (Nat.le_of_ble_eq_true rfl) dX11_hireOf_25 ⟨Nat.zero_le _, Nat.zero_le _⟩ hK hP hD hS hA (fun H locs hP hD hS => ?_)
          refine lv_goto (tgt := 32) hx hb dX11_hireOf_28 (by decide) ?_
          refine lv_iadd hx hb dX11_hireOf_32 ?_
          refine lv_topi (fun x8 ex8 => ?_)
          have hf := bs ex8 hf
          refine lv_istore_n (lv' := [(2, .int x8), (0, .ref (h 0)), (1, .int p0), (3, .int y3)]) hx hb dX11_hireOf_33 rfl hl (by decide) rfl (fun ls hl => ?_)
          obtain ⟨x9, ex9, hf⟩ := bn hf
          refine lv_iinc (v := x9) (lv' := [(3, .int x9), (2, .int x8), (0, .ref (h 0)), (1, .int p0)]) hx hb dX11_hireOf_34 hl (k := 3) rfl (by rw [ex9]; rfl) (by decide) rfl (fun ls hl => ?_)
          refine lv_goto (tgt := 4) hx hb dX11_hireOf_37 (by decide) ?_
          exact ih4 x8 x9 _ _ _ (lp_l hf hq4) hP hD hS (lv_sub hl [2, 3, 1, 0] rfl)
  exact L4 FU 0 0 _ _ _ ez4 hP hD hS (lv_sub hl [2, 3, 1, 0] rfl)

def j_X11_mayCross_18 (M : MS) (p0 : Int32) (p2 : Int32) (k1 : Int32) : Option Int32 :=
  (if k1 = 0 then (some 0) else ((if ((p0 >>> ((M 15 0) &&& 31)) &&& 1) = 0 then (Option.bind (f_X11_manyIn p0) (fun r2 => (if 3 ≤ r2 then (some 0) else (Option.bind (f_X11_whyNot M p0 p2) (fun r3 => (if r3 = 0 then (some 1) else (some 0))))))) else (some 0))))
def j_X11_mayCross_13 (M : MS) (p0 : Int32) (p2 : Int32) : Option Int32 :=
  j_X11_mayCross_18 M p0 p2 1
def f_X11_mayCross (M : MS) (p0 : Int32) (p1 : Int32) (p2 : Int32) : Option Int32 :=
  (if (p1 &&& p0) = 0 then (j_X11_mayCross_13 M p0 p2) else ((if (p1 &&& p0) = p0 then (j_X11_mayCross_13 M p0 p2) else (j_X11_mayCross_18 M p0 p2 0))))
def rmX11_mayCross : Room := { frames := 4, cells := 0, slots := 0, locals := 95 }
abbrev RRX11_mayCross : Room := (headSpec wsX11_mayCross rmX11_mayCross).room
theorem inX11_mayCross : ∀ w ∈ wsX110, w ∈ wsX11_mayCross := by decide +kernel
set_option maxHeartbeats 4000000 in
set_option maxRecDepth 100000 in
theorem c_X11_mayCross (l : Launch) (dC : Nat → ClassId) (dI : Nat → Nat → Nat) (tI tZ : ClassId) (h : Nat → Nat) (sz : Nat) (M : MS) (p0 : Int32) (p1 : Int32) (p2 : Int32) (r : Int32) (hf : f_X11_mayCross M p0 p1 p2 = some r) : cMi l yX11_mayCross wsX11_mayCross rmX11_mayCross dC dI tI tZ h sz [.ref (h 0), .int p0, .int p1, .int p2] M r M := by
  refine Met.ofW (cc := cX11_mayCross) (maxL := 5) (ret := (some .boolean)) (by decide) rfl ?_
  intro p e s m args below meth c s₁ B hml hv
  obtain ⟨hargs, hsz, hP, hK, hD0⟩ := hv
  have hx := B.exec
  have hb := B.bytes
  have hr := B.returns
  have hts := atoms_spec (ws := wsX11_mayCross) B.pre
  have hown : s.vm.findClass RX11 = some m.cls := findClass_of_methodNamed B.named
  have hlocks := B.notSynchronized
  have hin := inX11_mayCross
  have hsz : s.heap.size = sz := hsz
  subst hsz
  have lk214 : Cond.fieldLink RX11 214 (TX11 15).1 (TX11 15).2.1 (TX11 15).2.2.1 ∈ wsX11_mayCross := by decide +kernel
  have hD := hD0.self (sz := s.heap.size)
  generalize hAe : va_A (wM tI tZ h M) s.heap.size = A at hD ⊢
  have hA : ∀ q : Nat, s.heap.size ≤ q → A q := fun q h => by rw [← hAe]; exact Or.inr h
  have hS : va_S A s.heap s.heap [] := va_S.rf
  have hl := lv_entry ([.ref (h 0), .int p0, .int p1, .int p2]) (n := 5) (Nat.le_of_ble_eq_true rfl)
  rw [show entryFrame m args 5 = entryFrame m ([.ref (h 0), .int p0, .int p1, .int p2] : List Value).toArray 5 from by rw [hargs], lg_entry_eq]
  generalize (lg_sl ([.ref (h 0), .int p0, .int p1, .int p2]) ++ List.replicate (5 - (lg_sl ([.ref (h 0), .int p0, .int p1, .int p2])).length) Slot.unset).toArray = ls at hl ⊢
  have hl : lv_has ls 5 [(0, .ref (h 0)), (1, .int p0), (2, .int p1), (3, .int p2)] := hl
  unfold f_X11_mayCross at hf
  refine lv_iload_n hx hb dX11_mayCross_0 rfl (lv_at hl 2 rfl) ?_
  refine lv_iload_n hx hb dX11_mayCross_1 rfl (lv_at hl 1 rfl) ?_
  refine lv_iand hx hb dX11_mayCross_2 ?_
  have J18 : ∀ (k1 : Int32) (H : Heap) (locs : List Loc) (ls : Array Slot), j_X11_mayCross_18 M p0 p2 k1 = some r → va_P (dC, dI) vwCl (wM tI tZ h M) H → va_D A (wM tI tZ h M) → va_S A s.heap H locs → lv_has ls 5 [(0, .ref (h 0)), (1, .int p0), (3, .int p2)] → W p l e RRX11_mayCross s m args below meth c H locs 0 0 (MQ below (qcMi dC dI tI tZ A h r M) args s 0 0 A) (F0 m 18 ls [.int k1]) := by
    intro k1 H locs ls hf hP hD hS hl
    unfold j_X11_mayCross_18 at hf
    refine lv_istore (lv' := [(4, .int k1), (0, .ref (h 0)), (1, .int p0), (3, .int p2)]) hx hb dX11_mayCross_18 hl (by decide) rfl (fun ls hl => ?_)
    refine lv_iload hx hb dX11_mayCross_20 (lv_at hl 0 rfl) ?_
    refine lv_if_eq (tgt := 57) hx hb dX11_mayCross_22 (by decide) (fun c7 => ?_) (fun c7 => ?_)
    · have hf := (if_pos c7).symm.trans hf
      refine lv_iconst (v := 0) hx hb dX11_mayCross_57 (by decide) ?_
      exact rtMz hx hb hr hlocks hK hP hD hS rfl (congrArg (fun z => some (z, M)) (Option.some.inj hf)) dX11_mayCross_58
    · have hf := (if_neg c7).symm.trans hf
      refine lv_iload_n hx hb dX11_mayCross_25 rfl (lv_at hl 2 rfl) ?_
      refine lv_aload_n hx hb dX11_mayCross_26 rfl (lv_at hl 1 rfl) ?_
      refine geM hx hb hts hin hown hK hP 15 (by decide) lk214 rfl dX11_mayCross_27 ?_
      refine lv_ishr hx hb dX11_mayCross_30 ?_
      refine lv_iconst (v := 1) hx hb dX11_mayCross_31 (by decide) ?_
      refine lv_iand hx hb dX11_mayCross_32 ?_
      refine lv_if_ne (tgt := 57) hx hb dX11_mayCross_33 (by decide) (fun c6 => ?_) (fun c6 => ?_)
      · have hf := (if_neg c6).symm.trans hf
        refine lv_iconst (v := 0) hx hb dX11_mayCross_57 (by decide) ?_
        exact rtMz hx hb hr hlocks hK hP hD hS rfl (congrArg (fun z => some (z, M)) (Option.some.inj hf)) dX11_mayCross_58
      · have hf := (if_pos c6).symm.trans hf
        refine lv_iload_n hx hb dX11_mayCross_36 rfl (lv_at hl 2 rfl) ?_
        obtain ⟨r2, er2, hf⟩ := bd hf
        refine klEi (rest := []) (As := [.int p0]) ⟨hx, hb, hml, hown, hts⟩ (c_X11_manyIn l H.size p0 r2 er2) (va_cwS 1 hts gX11_mayCross_X11_manyIn rfl rfl rfl (by decide +kernel) ⟨Nat.le_of_ble_eq_true rfl, Nat.le_of_ble_eq_true rfl⟩) rfl hl.1 rfl (Nat.le_of_ble_eq_true rfl) dX11_mayCross_37 ⟨Nat.zero_le _, Nat.zero_le _⟩ hS hA (fun H2 locs hk hS => ?_)
        have hP := kpP hP hk
        generalize H2 = H at hP hS ⊢
        refine lv_iconst (v := 3) hx hb dX11_mayCross_40 (by decide) ?_
        refine lv_icmp_ge (tgt := 57) hx hb dX11_mayCross_41 (by decide) (fun c5 => ?_) (fun c5 => ?_)
        · have hf := (if_pos c5).symm.trans hf
          refine lv_iconst (v := 0) hx hb dX11_mayCross_57 (by decide) ?_
          exact rtMz hx hb hr hlocks hK hP hD hS rfl (congrArg (fun z => some (z, M)) (Option.some.inj hf)) dX11_mayCross_58
        · have hf := (if_neg c5).symm.trans hf
          refine lv_aload_n hx hb dX11_mayCross_44 rfl (lv_at hl 1 rfl) ?_
          refine lv_iload_n hx hb dX11_mayCross_45 rfl (lv_at hl 2 rfl) ?_
          refine lv_iload_n hx hb dX11_mayCross_46 rfl (lv_at hl 3 rfl) ?_
          obtain ⟨r3, er3, hf⟩ := bd hf
          refine klMi (rest := []) (As := [.int p0, .int p2]) ⟨hx, hb, hml, hown, hts⟩ (c_X11_whyNot l dC dI tI tZ h H.size M p0 p2 r3 er3) (cwV 2 hts gX11_mayCross_X11_whyNot rfl rfl rfl (by decide +kernel) ⟨Nat.le_of_ble_eq_true rfl, Nat.le_of_ble_eq_true rfl⟩) rfl hl.1 rfl (Nat.le_of_ble_eq_true rfl) dX11_mayCross_47 ⟨Nat.zero_le _, Nat.zero_le _⟩ hK hP hD hS hA (fun H locs hP hD hS => ?_)
          refine lv_if_ne (tgt := 57) hx hb dX11_mayCross_50 (by decide) (fun c4 => ?_) (fun c4 => ?_)
          · have hf := (if_neg c4).symm.trans hf
            refine lv_iconst (v := 0) hx hb dX11_mayCross_57 (by decide) ?_
            exact rtMz hx hb hr hlocks hK hP hD hS rfl (congrArg (fun z => some (z, M)) (Option.some.inj hf)) dX11_mayCross_58
          · have hf := (if_pos c4).symm.trans hf
            refine lv_iconst (v := 1) hx hb dX11_mayCross_53 (by decide) ?_
            refine lv_goto (tgt := 58) hx hb dX11_mayCross_54 (by decide) ?_
            exact rtMz hx hb hr hlocks hK hP hD hS rfl (congrArg (fun z => some (z, M)) (Option.some.inj hf)) dX11_mayCross_58
  have J13 : ∀  (H : Heap) (locs : List Loc) (ls : Array Slot), j_X11_mayCross_13 M p0 p2 = some r → va_P (dC, dI) vwCl (wM tI tZ h M) H → va_D A (wM tI tZ h M) → va_S A s.heap H locs → lv_has ls 5 [(0, .ref (h 0)), (1, .int p0), (3, .int p2)] → W p l e RRX11_mayCross s m args below meth c H locs 0 0 (MQ below (qcMi dC dI tI tZ A h r M) args s 0 0 A) (F0 m 13 ls []) := by
    intro  H locs ls hf hP hD hS hl
    unfold j_X11_mayCross_13 at hf
    refine lv_iconst (v := 1) hx hb dX11_mayCross_13 (by decide) ?_
    refine lv_goto (tgt := 18) hx hb dX11_mayCross_14 (by decide) ?_
    exact J18 1 _ _ _ hf hP hD hS (lv_sub hl [0, 1, 2] rfl)
  refine lv_if_eq (tgt := 13) hx hb dX11_mayCross_3 (by decide) (fun c9 => ?_) (fun c9 => ?_)
  · have hf := (if_pos c9).symm.trans hf
    exact J13  _ _ _ hf hP hD hS (lv_sub hl [0, 1, 3] rfl)
  · have hf := (if_neg c9).symm.trans hf
    refine lv_iload_n hx hb dX11_mayCross_6 rfl (lv_at hl 2 rfl) ?_
    refine lv_iload_n hx hb dX11_mayCross_7 rfl (lv_at hl 1 rfl) ?_
    refine lv_iand hx hb dX11_mayCross_8 ?_
    refine lv_iload_n hx hb dX11_mayCross_9 rfl (lv_at hl 1 rfl) ?_
    refine lv_icmp_ne (tgt := 17) hx hb dX11_mayCross_10 (by decide) (fun c8 => ?_) (fun c8 => ?_)
    · have hf := (if_neg c8).symm.trans hf
      refine lv_iconst (v := 0) hx hb dX11_mayCross_17 (by decide) ?_
      exact J18 0 _ _ _ hf hP hD hS (lv_sub hl [0, 1, 3] rfl)
    · have hf := (if_pos c8).symm.trans hf
      exact J13  _ _ _ hf hP hD hS (lv_sub hl [0, 1, 3] rfl)

def k_X11_goBack_3 (M1 : MS) : Option MS :=
  some M1
def b_X11_goBack_3 (p0 : Int32) (p1 : Int32) (p2 : Int32) (y2 : Int32) (M3 : MS) : Option ((Int32 × MS) ⊕ MS) :=
  Option.bind (f_X11_all M3) (fun r4 => (if r4 < y2 then (some (Sum.inr M3)) else (Option.bind (f_X11_at p2 (y2 ^^^ p0)) (fun r5 => Option.bind (rdI 15424 (M3 14) r5) (fun x6 => (if 1000000 ≤ x6 then (Option.bind (some (y2 + 1)) (fun x7 => some (Sum.inl (x7, M3)))) else (Option.bind (f_X11_mayCross M3 p0 y2 p1) (fun r8 => (if r8 = 0 then (Option.bind (some (y2 + 1)) (fun x9 => some (Sum.inl (x9, M3)))) else (Option.bind (f_X11_hireOf M3 p0) (fun r10 => Option.bind (f_X11_at p2 (y2 ^^^ p0)) (fun r11 => Option.bind (rdI 15424 (M3 14) r11) (fun x12 => Option.bind (some (r10 + x12)) (fun x13 => Option.bind (f_X11_at p1 y2) (fun r14 => Option.bind (f_X11_at p1 y2) (fun r15 => Option.bind (rdI 15424 (M3 14) r15) (fun x16 => (if x16 ≤ x13 then (Option.bind (f_X11_at p1 y2) (fun r17 => Option.bind (rdI 15424 (M3 14) r17) (fun x18 => Option.bind (wrM M3 14 15424 r14 x18) (fun M19 => Option.bind (some (y2 + 1)) (fun x20 => some (Sum.inl (x20, M19))))))) else (Option.bind (wrM M3 14 15424 r14 x13) (fun M21 => Option.bind (some (y2 + 1)) (fun x22 => some (Sum.inl (x22, M21)))))))))))))))))))))))
def f_X11_goBack (M : MS) (p0 : Int32) (p1 : Int32) (p2 : Int32) : Option MS :=
  Option.bind (lp (fun s => b_X11_goBack_3 p0 p1 p2 s.1 s.2) FU (0, M)) (fun s => k_X11_goBack_3 s)
def rmX11_goBack : Room := { frames := 5, cells := 0, slots := 0, locals := 119 }
abbrev RRX11_goBack : Room := (headSpec wsX11_goBack rmX11_goBack).room
theorem inX11_goBack : ∀ w ∈ wsX110, w ∈ wsX11_goBack := by decide +kernel
set_option maxHeartbeats 4000000 in
set_option maxRecDepth 100000 in
theorem c_X11_goBack (l : Launch) (dC : Nat → ClassId) (dI : Nat → Nat → Nat) (tI tZ : ClassId) (h : Nat → Nat) (sz : Nat) (M : MS) (p0 : Int32) (p1 : Int32) (p2 : Int32) (M' : MS) (hf : f_X11_goBack M p0 p1 p2 = some M') : cMv l yX11_goBack wsX11_goBack rmX11_goBack dC dI tI tZ h sz [.ref (h 0), .int p0, .int p1, .int p2] M M' := by
  refine Met.ofW (cc := cX11_goBack) (maxL := 6) (ret := none) (by decide) rfl ?_
  intro p e s m args below meth c s₁ B hml hv
  obtain ⟨hargs, hsz, hP, hK, hD0⟩ := hv
  have hx := B.exec
  have hb := B.bytes
  have hr := B.returns
  have hts := atoms_spec (ws := wsX11_goBack) B.pre
  have hown : s.vm.findClass RX11 = some m.cls := findClass_of_methodNamed B.named
  have hlocks := B.notSynchronized
  have hin := inX11_goBack
  have hsz : s.heap.size = sz := hsz
  subst hsz
  have lk29 : Cond.fieldLink RX11 29 (TX11 14).1 (TX11 14).2.1 (TX11 14).2.2.1 ∈ wsX11_goBack := by decide +kernel
  have hD := hD0.self (sz := s.heap.size)
  generalize hAe : va_A (wM tI tZ h M) s.heap.size = A at hD ⊢
  have hA : ∀ q : Nat, s.heap.size ≤ q → A q := fun q h => by rw [← hAe]; exact Or.inr h
  have hS : va_S A s.heap s.heap [] := va_S.rf
  have hl := lv_entry ([.ref (h 0), .int p0, .int p1, .int p2]) (n := 6) (Nat.le_of_ble_eq_true rfl)
  rw [show entryFrame m args 6 = entryFrame m ([.ref (h 0), .int p0, .int p1, .int p2] : List Value).toArray 6 from by rw [hargs], lg_entry_eq]
  generalize (lg_sl ([.ref (h 0), .int p0, .int p1, .int p2]) ++ List.replicate (6 - (lg_sl ([.ref (h 0), .int p0, .int p1, .int p2])).length) Slot.unset).toArray = ls at hl ⊢
  have hl : lv_has ls 6 [(0, .ref (h 0)), (1, .int p0), (2, .int p1), (3, .int p2)] := hl
  unfold f_X11_goBack at hf
  refine lv_iconst (v := 0) hx hb dX11_goBack_0 (by decide) ?_
  refine lv_istore (lv' := [(4, .int 0), (0, .ref (h 0)), (1, .int p0), (2, .int p1), (3, .int p2)]) hx hb dX11_goBack_1 hl (by decide) rfl (fun ls hl => ?_)
  have K3 : ∀ (M1 : MS) (H : Heap) (locs : List Loc) (ls : Array Slot), k_X11_goBack_3 M1 = some M' → va_P (dC, dI) vwCl (wM tI tZ h M1) H → va_D A (wM tI tZ h M1) → va_S A s.heap H locs → lv_has ls 6 [] → W p l e RRX11_goBack s m args below meth c H locs 0 0 (MQ below (qcMv dC dI tI tZ A h M') args s 0 0 A) (F0 m 111 ls []) := by
    intro M1 H locs ls hf hP hD hS hl
    unfold k_X11_goBack_3 at hf
    exact rtMv hx hb hr hlocks hK hP hD hS hf dX11_goBack_111
  obtain ⟨z3, ez3, hz3⟩ := bd hf
  have L3 : ∀ (n : Nat) (y2 : Int32) (M3 : MS) (H : Heap) (locs : List Loc) (ls : Array Slot), lp (fun s => b_X11_goBack_3 p0 p1 p2 s.1 s.2) n (y2, M3) = some z3 → va_P (dC, dI) vwCl (wM tI tZ h M3) H → va_D A (wM tI tZ h M3) → va_S A s.heap H locs → lv_has ls 6 [(0, .ref (h 0)), (1, .int p0), (2, .int p1), (3, .int p2), (4, .int y2)] → W p l e RRX11_goBack s m args below meth c H locs 0 0 (MQ below (qcMv dC dI tI tZ A h M') args s 0 0 A) (F0 m 3 ls []) := by
    intro n
    induction n with
    | zero => intro y2 M3 H locs ls hf; exact lp_z hf
    | succ n ih3 =>
      intro y2 M3 H locs ls hf hP hD hS hl
      obtain ⟨q3, hf, hq3⟩ := lp_i hf
      have hf : b_X11_goBack_3 p0 p1 p2 y2 M3 = some q3 := hf
      unfold b_X11_goBack_3 at hf
      refine lv_iload hx hb dX11_goBack_3 (lv_at hl 4 rfl) ?_
      refine lv_aload_n hx hb dX11_goBack_5 rfl (lv_at hl 0 rfl) ?_
      obtain ⟨r4, er4, hf⟩ := bd hf
      refine klMi (rest := [.int y2]) (As := []) ⟨hx, hb, hml, hown, hts⟩ (c_X11_all l dC dI tI tZ h H.size M3 r4 er4) (cwV 0 hts gX11_goBack_X11_all rfl rfl rfl (by decide +kernel) ⟨Nat.le_of_ble_eq_true rfl, Nat.le_of_ble_eq_true rfl⟩) rfl hl.1 rfl (Nat.le_of_ble_eq_true rfl) dX11_goBack_6 ⟨Nat.zero_le _, Nat.zero_le _⟩ hK hP hD hS hA (fun H locs hP hD hS => ?_)
      refine lv_icmp_gt (tgt := 111) hx hb dX11_goBack_9 (by decide) (fun c26 => ?_) (fun c26 => ?_)
      · have hf := (if_pos c26).symm.trans hf
        exact K3 M3 _ _ _ (lp_x (k := (fun s => k_X11_goBack_3 s)) (lp_r hf hq3) hz3) hP hD hS (lv_sub hl [] rfl)
      · have hf := (if_neg c26).symm.trans hf
        refine lv_aload_n hx hb dX11_goBack_12 rfl (lv_at hl 0 rfl) ?_
        refine geM hx hb hts hin hown hK hP 14 (by decide) lk29 rfl dX11_goBack_13 ?_
        refine lv_iload_n hx hb dX11_goBack_16 rfl (lv_at hl 3 rfl) ?_
        refine lv_iload hx hb dX11_goBack_17 (lv_at hl 4 rfl) ?_
        refine lv_iload_n hx hb dX11_goBack_19 rfl (lv_at hl 1 rfl) ?_
        refine lv_ixor hx hb dX11_goBack_20 ?_
        obtain ⟨r5, er5, hf⟩ := bd hf
        refine klEi (rest := [.ref (h 15)]) (As := [.int p2, .int (y2 ^^^ p0)]) ⟨hx, hb, hml, hown, hts⟩ (c_X11_at l H.size p2 (y2 ^^^ p0) r5 er5) (va_cwS 2 hts gX11_goBack_X11_at rfl rfl rfl (by decide +kernel) ⟨Nat.le_of_ble_eq_true rfl, Nat.le_of_ble_eq_true rfl⟩) rfl hl.1 rfl (Nat.le_of_ble_eq_true rfl) dX11_goBack_21 ⟨Nat.zero_le _, Nat.zero_le _⟩ hS hA (fun H2 locs hk hS => ?_)
        have hP := kpP hP hk
        generalize H2 = H at hP hS ⊢
        obtain ⟨x6, hix6, ex6, hf⟩ := rd_b hf
        refine va_iald hx hb hK hP 7 0 rfl rfl hix6 dX11_goBack_24 (kI ex6 ?_)
        refine lv_ldc (v := 1000000) hx hb hown (hts (.constant RX11 220 (1000000)) (by decide +kernel)) dX11_goBack_25 ?_
        refine lv_icmp_ge (tgt := 105) hx hb dX11_goBack_27 (by decide) (fun c25 => ?_) (fun c25 => ?_)
        · have hf := (if_pos c25).symm.trans hf
          obtain ⟨x7, ex7, hf⟩ := bn hf
          refine lv_iinc (v := x7) (lv' := [(4, .int x7), (0, .ref (h 0)), (1, .int p0), (2, .int p1), (3, .int p2)]) hx hb dX11_goBack_105 hl (k := 4) rfl (by rw [ex7]; rfl) (by decide) rfl (fun ls hl => ?_)
          refine lv_goto (tgt := 3) hx hb dX11_goBack_108 (by decide) ?_
          exact ih3 x7 M3 _ _ _ (lp_l hf hq3) hP hD hS (lv_sub hl [1, 2, 3, 4, 0] rfl)
        · have hf := (if_neg c25).symm.trans hf
          refine lv_aload_n hx hb dX11_goBack_30 rfl (lv_at hl 0 rfl) ?_
          refine lv_iload_n hx hb dX11_goBack_31 rfl (lv_at hl 1 rfl) ?_
          refine lv_iload hx hb dX11_goBack_32 (lv_at hl 4 rfl) ?_
          refine lv_iload_n hx hb dX11_goBack_34 rfl (lv_at hl 2 rfl) ?_
          obtain ⟨r8, er8, hf⟩ := bd hf
          refine klMi (rest := []) (As := [.int p0, .int y2, .int p1]) ⟨hx, hb, hml, hown, hts⟩ (c_X11_mayCross l dC dI tI tZ h H.size M3 p0 y2 p1 r8 er8) (cwV 3 hts gX11_goBack_X11_mayCross rfl rfl rfl (by decide +kernel) ⟨Nat.le_of_ble_eq_true rfl, Nat.le_of_ble_eq_true rfl⟩) rfl hl.1 rfl (Nat.le_of_ble_eq_true rfl) dX11_goBack_35 ⟨Nat.zero_le _, Nat.zero_le _⟩ hK hP hD hS hA (fun H locs hP hD hS => ?_)
          refine lv_if_eq (tgt := 105) hx hb dX11_goBack_38 (by decide) (fun c24 => ?_) (fun c24 => ?_)
          · have hf := (if_pos c24).symm.trans hf
            obtain ⟨x9, ex9, hf⟩ := bn hf
            refine lv_iinc (v := x9) (lv' := [(4, .int x9), (0, .ref (h 0)), (1, .int p0), (2, .int p1), (3, .int p2)]) hx hb dX11_goBack_105 hl (k := 4) rfl (by rw [ex9]; rfl) (by decide) rfl (fun ls hl => ?_)
            refine lv_goto (tgt := 3) hx hb dX11_goBack_108 (by decide) ?_
            exact ih3 x9 M3 _ _ _ (lp_l hf hq3) hP hD hS (lv_sub hl [1, 2, 3, 4, 0] rfl)
          · have hf := (if_neg c24).symm.trans hf
            refine lv_aload_n hx hb dX11_goBack_41 rfl (lv_at hl 0 rfl) ?_
            refine lv_iload_n hx hb dX11_goBack_42 rfl (lv_at hl 1 rfl) ?_
            obtain ⟨r10, er10, hf⟩ := bd hf
            refine klMi (rest := []) (As := [.int p0]) ⟨hx, hb, hml, hown, hts⟩ (c_X11_hireOf l dC dI tI tZ h H.size M3 p0 r10 er10) (cwV 1 hts gX11_goBack_X11_hireOf rfl rfl rfl (by decide +kernel) ⟨Nat.le_of_ble_eq_true rfl, Nat.le_of_ble_eq_true rfl⟩) rfl hl.1 rfl (Nat.le_of_ble_eq_true rfl) dX11_goBack_43 ⟨Nat.zero_le _, Nat.zero_le _⟩ hK hP hD hS hA (fun H locs hP hD hS => ?_)
            refine lv_aload_n hx hb dX11_goBack_46 rfl (lv_at hl 0 rfl) ?_
            refine geM hx hb hts hin hown hK hP 14 (by decide) lk29 rfl dX11_goBack_47 ?_
            refine lv_iload_n hx hb dX11_goBack_50 rfl (lv_at hl 3 rfl) ?_
            refine lv_iload hx hb dX11_goBack_51 (lv_at hl 4 rfl) ?_
            refine lv_iload_n hx hb dX11_goBack_53 rfl (lv_at hl 1 rfl) ?_
            refine lv_ixor hx hb dX11_goBack_54 ?_
            obtain ⟨r11, er11, hf⟩ := bd hf
            refine klEi (rest := [.ref (h 15), .int r10]) (As := [.int p2, .int (y2 ^^^ p0)]) ⟨hx, hb, hml, hown, hts⟩ (c_X11_at l H.size p2 (y2 ^^^ p0) r11 er11) (va_cwS 2 hts gX11_goBack_X11_at rfl rfl rfl (by decide +kernel) ⟨Nat.le_of_ble_eq_true rfl, Nat.le_of_ble_eq_true rfl⟩) rfl hl.1 rfl (Nat.le_of_ble_eq_true rfl) dX11_goBack_55 ⟨Nat.zero_le _, Nat.zero_le _⟩ hS hA (fun H2 locs hk hS => ?_)
            have hP := kpP hP hk
            generalize H2 = H at hP hS ⊢
            obtain ⟨x12, hix12, ex12, hf⟩ := rd_b hf
            refine va_iald hx hb hK hP 7 0 rfl rfl hix12 dX11_goBack_58 (kI ex12 ?_)
            refine lv_iadd hx hb dX11_goBack_59 ?_
            refine lv_topi (fun x13 ex13 => ?_)
            have hf := bs ex13 hf
            refine lv_istore (lv' := [(5, .int x13), (0, .ref (h 0)), (1, .int p0), (2, .int p1), (3, .int p2), (4, .int y2)]) hx hb dX11_goBack_60 hl (by decide) rfl (fun ls hl => ?_)
            refine lv_aload_n hx hb dX11_goBack_62 rfl (lv_at hl 1 rfl) ?_
            refine geM hx hb hts hin hown hK hP 14 (by decide) lk29 rfl dX11_goBack_63 ?_
            refine lv_iload_n hx hb dX11_goBack_66 rfl (lv_at hl 3 rfl) ?_
            refine lv_iload hx hb dX11_goBack_67 (lv_at hl 5 rfl) ?_
            obtain ⟨r14, er14, hf⟩ := bd hf
            refine klEi (rest := [.ref (h 15)]) (As := [.int p1, .int y2]) ⟨hx, hb, hml, hown, hts⟩ (c_X11_at l H.size p1 y2 r14 er14) (va_cwS 2 hts gX11_goBack_X11_at rfl rfl rfl (by decide +kernel) ⟨Nat.le_of_ble_eq_true rfl, Nat.le_of_ble_eq_true rfl⟩) rfl hl.1 rfl (Nat.le_of_ble_eq_true rfl) dX11_goBack_69 ⟨Nat.zero_le _, Nat.zero_le _⟩ hS hA (fun H2 locs hk hS => ?_)
            have hP := kpP hP hk
            generalize H2 = H at hP hS ⊢
            refine lv_iload hx hb dX11_goBack_72 (lv_at hl 0 rfl) ?_
            refine lv_aload_n hx hb dX11_goBack_74 rfl (lv_at hl 1 rfl) ?_
            refine geM hx hb hts hin hown hK hP 14 (by decide) lk29 rfl dX11_goBack_75 ?_
            refine lv_iload_n hx hb dX11_goBack_78 rfl (lv_at hl 3 rfl) ?_
            refine lv_iload hx hb dX11_goBack_79 (lv_at hl 5 rfl) ?_
            obtain ⟨r15, er15, hf⟩ := bd hf
            refine klEi (rest := [.ref (h 15), .int x13, .int r14, .ref (h 15)]) (As := [.int p1, .int y2]) ⟨hx, hb, hml, hown, hts⟩ (c_X11_at l H.size p1 y2 r15 er15) (va_cwS 2 hts gX11_goBack_X11_at rfl rfl rfl (by decide +kernel) ⟨Nat.le_of_ble_eq_true rfl, Nat.le_of_ble_eq_true rfl⟩) rfl hl.1 rfl (Nat.le_of_ble_eq_true rfl) dX11_goBack_81 ⟨Nat.zero_le _, Nat.zero_le _⟩ hS hA (fun H2 locs hk hS => ?_)
            have hP := kpP hP hk
            generalize H2 = H at hP hS ⊢
            obtain ⟨x16, hix16, ex16, hf⟩ := rd_b hf
            refine va_iald hx hb hK hP 7 0 rfl rfl hix16 dX11_goBack_84 (kI ex16 ?_)
            refine lv_icmp_ge (tgt := 93) hx hb dX11_goBack_85 (by decide) (fun c23 => ?_) (fun c23 => ?_)
            · have hf := (if_pos c23).symm.trans hf
              refine lv_aload_n hx hb dX11_goBack_93 rfl (lv_at hl 1 rfl) ?_
              refine geM hx hb hts hin hown hK hP 14 (by decide) lk29 rfl dX11_goBack_94 ?_
              refine lv_iload_n hx hb dX11_goBack_97 rfl (lv_at hl 3 rfl) ?_
              refine lv_iload hx hb dX11_goBack_98 (lv_at hl 5 rfl) ?_
              obtain ⟨r17, er17, hf⟩ := bd hf
              refine klEi (rest := [.ref (h 15), .int r14, .ref (h 15)]) (As := [.int p1, .int y2]) ⟨hx, hb, hml, hown, hts⟩ (c_X11_at l H.size p1 y2 r17 er17) (va_cwS 2 hts gX11_goBack_X11_at rfl rfl rfl (by decide +kernel) ⟨Nat.le_of_ble_eq_true rfl, Nat.le_of_ble_eq_true rfl⟩) rfl hl.1 rfl (Nat.le_of_ble_eq_true rfl) dX11_goBack_100 ⟨Nat.zero_le _, Nat.zero_le _⟩ hS hA (fun H2 locs hk hS => ?_)
              have hP := kpP hP hk
              generalize H2 = H at hP hS ⊢
              obtain ⟨x18, hix18, ex18, hf⟩ := rd_b hf
              refine va_iald hx hb hK hP 7 0 rfl rfl hix18 dX11_goBack_103 (kI ex18 ?_)
              obtain ⟨M19, hiM19, eM19, hf⟩ := wr_b hf
              refine va_iast hx hb hK hP hD hS 7 0 rfl rfl hiM19 dX11_goBack_104 (fun H locs hP hD hS => ?_)
              have hP : va_P (dC, dI) vwCl (wM tI tZ h M19) H := by rw [eM19]; exact hP
              have hD : va_D A (wM tI tZ h M19) := by rw [eM19]; exact hD
              obtain ⟨x20, ex20, hf⟩ := bn hf
              refine lv_iinc (v := x20) (lv' := [(4, .int x20), (5, .int x13), (0, .ref (h 0)), (1, .int p0), (2, .int p1), (3, .int p2)]) hx hb dX11_goBack_105 hl (k := 5) rfl (by rw [ex20]; rfl) (by decide) rfl (fun ls hl => ?_)
              refine lv_goto (tgt := 3) hx hb dX11_goBack_108 (by decide) ?_
              exact ih3 x20 M19 _ _ _ (lp_l hf hq3) hP hD hS (lv_sub hl [2, 3, 4, 5, 0] rfl)
            · have hf := (if_neg c23).symm.trans hf
              refine lv_iload hx hb dX11_goBack_88 (lv_at hl 0 rfl) ?_
              refine lv_goto (tgt := 104) hx hb dX11_goBack_90 (by decide) ?_
              obtain ⟨M21, hiM21, eM21, hf⟩ := wr_b hf
              refine va_iast hx hb hK hP hD hS 7 0 rfl rfl hiM21 dX11_goBack_104 (fun H locs hP hD hS => ?_)
              have hP : va_P (dC, dI) vwCl (wM tI tZ h M21) H := by rw [eM21]; exact hP
              have hD : va_D A (wM tI tZ h M21) := by rw [eM21]; exact hD
              obtain ⟨x22, ex22, hf⟩ := bn hf
              refine lv_iinc (v := x22) (lv' := [(4, .int x22), (5, .int x13), (0, .ref (h 0)), (1, .int p0), (2, .int p1), (3, .int p2)]) hx hb dX11_goBack_105 hl (k := 5) rfl (by rw [ex22]; rfl) (by decide) rfl (fun ls hl => ?_)
              refine lv_goto (tgt := 3) hx hb dX11_goBack_108 (by decide) ?_
              exact ih3 x22 M21 _ _ _ (lp_l hf hq3) hP hD hS (lv_sub hl [2, 3, 4, 5, 0] rfl)
  exact L3 FU 0 M _ _ _ ez3 hP hD hS (lv_sub hl [1, 2, 3, 4, 0] rfl)

def k_X11_findHire_41 (M3 : MS) : Option (Int32 × MS) :=
  Option.bind (rdI 15424 (M3 14) 0) (fun x4 => some ((x4, M3)))
def k_X11_findHire_90 (y5 : Int32) (M8 : MS) : Option ((Int32 × MS) ⊕ MS) :=
  Option.bind (some (y5 + (-1))) (fun x9 => some (Sum.inl (x9, M8)))
def j_X11_findHire_122 (p1 : Int32) (y5 : Int32) (y10 : Int32) (M11 : MS) (k14 : Int32) : Option ((Int32 × MS) ⊕ MS) :=
  (if p1 < k14 then (Option.bind (some (y10 + 1)) (fun x15 => some (Sum.inl (x15, M11)))) else (Option.bind (f_X11_goBack M11 y10 y5 k14) (fun M16 => Option.bind (some (y10 + 1)) (fun x17 => some (Sum.inl (x17, M16))))))
def b_X11_findHire_90 (p1 : Int32) (y5 : Int32) (y10 : Int32) (M11 : MS) : Option ((Int32 × MS) ⊕ MS) :=
  Option.bind (f_X11_all M11) (fun r12 => (if r12 < y10 then (some (Sum.inr M11)) else (Option.bind (f_X11_manyIn y10) (fun r13 => (if 3 ≤ r13 then (j_X11_findHire_122 p1 y5 y10 M11 241) else (Option.bind (f_X11_timeOfSet M11 y10) (fun r19 => j_X11_findHire_122 p1 y5 y10 M11 (y5 + r19))))))))
def k_X11_findHire_48 (p1 : Int32) (y5 : Int32) (M7 : MS) : Option ((Int32 × MS) ⊕ MS) :=
  Option.bind (lp (fun s => b_X11_findHire_90 p1 y5 s.1 s.2) FU (1, M7)) (fun s => k_X11_findHire_90 y5 s)
def b_X11_findHire_48 (y5 : Int32) (y22 : Int32) (M23 : MS) : Option ((Int32 × MS) ⊕ MS) :=
  Option.bind (f_X11_all M23) (fun r24 => (if r24 < y22 then (some (Sum.inr M23)) else (Option.bind (f_X11_at y5 y22) (fun r25 => Option.bind (f_X11_at (y5 + 1) y22) (fun r26 => Option.bind (rdI 15424 (M23 14) r26) (fun x27 => Option.bind (wrM M23 14 15424 r25 x27) (fun M28 => Option.bind (some (y22 + 1)) (fun x29 => some (Sum.inl (x29, M28))))))))))
def b_X11_findHire_41 (p1 : Int32) (y5 : Int32) (M6 : MS) : Option ((Int32 × MS) ⊕ MS) :=
  (if y5 < 0 then (some (Sum.inr M6)) else (Option.bind (lp (fun s => b_X11_findHire_48 y5 s.1 s.2) FU (0, M6)) (fun s => k_X11_findHire_48 p1 y5 s)))
def k_X11_findHire_2 (p1 : Int32) (M1 : MS) : Option (Int32 × MS) :=
  Option.bind (some (p1 - 1)) (fun x2 => Option.bind (lp (fun s => b_X11_findHire_41 p1 s.1 s.2) FU (x2, M1)) (fun s => k_X11_findHire_41 s))
def b_X11_findHire_2 (p0 : Int32) (p1 : Int32) (y32 : Int32) (M33 : MS) : Option ((Int32 × MS) ⊕ MS) :=
  (if 64 ≤ y32 then (some (Sum.inr M33)) else (Option.bind (f_X11_at p1 y32) (fun r34 => (if (y32 &&& p0) = p0 then (Option.bind (wrM M33 14 15424 r34 0) (fun M37 => Option.bind (some (y32 + 1)) (fun x38 => some (Sum.inl (x38, M37))))) else (Option.bind (wrM M33 14 15424 r34 1000000) (fun M35 => Option.bind (some (y32 + 1)) (fun x36 => some (Sum.inl (x36, M35)))))))))
def f_X11_findHire (M : MS) (p0 : Int32) (p1 : Int32) : Option (Int32 × MS) :=
  Option.bind (lp (fun s => b_X11_findHire_2 p0 p1 s.1 s.2) FU (0, M)) (fun s => k_X11_findHire_2 p1 s)
def rmX11_findHire : Room := { frames := 6, cells := 0, slots := 0, locals := 144 }
abbrev RRX11_findHire : Room := (headSpec wsX11_findHire rmX11_findHire).room
theorem inX11_findHire : ∀ w ∈ wsX110, w ∈ wsX11_findHire := by decide +kernel
set_option maxHeartbeats 4000000 in
set_option maxRecDepth 100000 in
theorem c_X11_findHire (l : Launch) (dC : Nat → ClassId) (dI : Nat → Nat → Nat) (tI tZ : ClassId) (h : Nat → Nat) (sz : Nat) (M : MS) (p0 : Int32) (p1 : Int32) (r : Int32) (M' : MS) (hf : f_X11_findHire M p0 p1 = some (r, M')) : cMi l yX11_findHire wsX11_findHire rmX11_findHire dC dI tI tZ h sz [.ref (h 0), .int p0, .int p1] M r M' := by
  refine Met.ofW (cc := cX11_findHire) (maxL := 6) (ret := (some .int)) (by decide) rfl ?_
  intro p e s m args below meth c s₁ B hml hv
  obtain ⟨hargs, hsz, hP, hK, hD0⟩ := hv
  have hx := B.exec
  have hb := B.bytes
  have hr := B.returns
  have hts := atoms_spec (ws := wsX11_findHire) B.pre
  have hown : s.vm.findClass RX11 = some m.cls := findClass_of_methodNamed B.named
  have hlocks := B.notSynchronized
  have hin := inX11_findHire
  have hsz : s.heap.size = sz := hsz
  subst hsz
  have lk29 : Cond.fieldLink RX11 29 (TX11 14).1 (TX11 14).2.1 (TX11 14).2.2.1 ∈ wsX11_findHire := by decide +kernel
  have hD := hD0.self (sz := s.heap.size)
  generalize hAe : va_A (wM tI tZ h M) s.heap.size = A at hD ⊢
  have hA : ∀ q : Nat, s.heap.size ≤ q → A q := fun q h => by rw [← hAe]; exact Or.inr h
  have hS : va_S A s.heap s.heap [] := va_S.rf
  have hl := lv_entry ([.ref (h 0), .int p0, .int p1]) (n := 6) (Nat.le_of_ble_eq_true rfl)
  rw [show entryFrame m args 6 = entryFrame m ([.ref (h 0), .int p0, .int p1] : List Value).toArray 6 from by rw [hargs], lg_entry_eq]
  generalize (lg_sl ([.ref (h 0), .int p0, .int p1]) ++ List.replicate (6 - (lg_sl ([.ref (h 0), .int p0, .int p1])).length) Slot.unset).toArray = ls at hl ⊢
  have hl : lv_has ls 6 [(0, .ref (h 0)), (1, .int p0), (2, .int p1)] := hl
  unfold f_X11_findHire at hf
  refine lv_iconst (v := 0) hx hb dX11_findHire_0 (by decide) ?_
  refine lv_istore_n (lv' := [(3, .int 0), (0, .ref (h 0)), (1, .int p0), (2, .int p1)]) hx hb dX11_findHire_1 rfl hl (by decide) rfl (fun ls hl => ?_)
  have K2 : ∀ (M1 : MS) (H : Heap) (locs : List Loc) (ls : Array Slot), k_X11_findHire_2 p1 M1 = some (r, M') → va_P (dC, dI) vwCl (wM tI tZ h M1) H → va_D A (wM tI tZ h M1) → va_S A s.heap H locs → lv_has ls 6 [(0, .ref (h 0)), (2, .int p1)] → W p l e RRX11_findHire s m args below meth c H locs 0 0 (MQ below (qcMi dC dI tI tZ A h r M') args s 0 0 A) (F0 m 37 ls []) := by
    intro M1 H locs ls hf hP hD hS hl
    unfold k_X11_findHire_2 at hf
    refine lv_iload_n hx hb dX11_findHire_37 rfl (lv_at hl 1 rfl) ?_
    refine lv_iconst (v := 1) hx hb dX11_findHire_38 (by decide) ?_
    refine lv_isub hx hb dX11_findHire_39 ?_
    refine lv_topi (fun x2 ex2 => ?_)
    have hf := bs ex2 hf
    refine lv_istore_n (lv' := [(3, .int x2), (0, .ref (h 0)), (2, .int p1)]) hx hb dX11_findHire_40 rfl hl (by decide) rfl (fun ls hl => ?_)
    have K41 : ∀ (M3 : MS) (H : Heap) (locs : List Loc) (ls : Array Slot), k_X11_findHire_41 M3 = some (r, M') → va_P (dC, dI) vwCl (wM tI tZ h M3) H → va_D A (wM tI tZ h M3) → va_S A s.heap H locs → lv_has ls 6 [(0, .ref (h 0))] → W p l e RRX11_findHire s m args below meth c H locs 0 0 (MQ below (qcMi dC dI tI tZ A h r M') args s 0 0 A) (F0 m 151 ls []) := by
      intro M3 H locs ls hf hP hD hS hl
      unfold k_X11_findHire_41 at hf
      refine lv_aload_n hx hb dX11_findHire_151 rfl (lv_at hl 0 rfl) ?_
      refine geM hx hb hts hin hown hK hP 14 (by decide) lk29 rfl dX11_findHire_152 ?_
      refine lv_iconst (v := 0) hx hb dX11_findHire_155 (by decide) ?_
      obtain ⟨x4, hix4, ex4, hf⟩ := rd_b hf
      refine va_iald hx hb hK hP 7 0 rfl rfl hix4 dX11_findHire_156 (kI ex4 ?_)
      exact rtMi hx hb hr hlocks hK hP hD hS hf dX11_findHire_157
    obtain ⟨z41, ez41, hz41⟩ := bd hf
    have L41 : ∀ (n : Nat) (y5 : Int32) (M6 : MS) (H : Heap) (locs : List Loc) (ls : Array Slot), lp (fun s => b_X11_findHire_41 p1 s.1 s.2) n (y5, M6) = some z41 → va_P (dC, dI) vwCl (wM tI tZ h M6) H → va_D A (wM tI tZ h M6) → va_S A s.heap H locs → lv_has ls 6 [(0, .ref (h 0)), (2, .int p1), (3, .int y5)] → W p l e RRX11_findHire s m args below meth c H locs 0 0 (MQ below (qcMi dC dI tI tZ A h r M') args s 0 0 A) (F0 m 41 ls []) := by
      intro n
      induction n with
      | zero => intro y5 M6 H locs ls hf; exact lp_z hf
      | succ n ih41 =>
        intro y5 M6 H locs ls hf hP hD hS hl
        obtain ⟨q41, hf, hq41⟩ := lp_i hf
        have hf : b_X11_findHire_41 p1 y5 M6 = some q41 := hf
        unfold b_X11_findHire_41 at hf
        refine lv_iload_n hx hb dX11_findHire_41 rfl (lv_at hl 2 rfl) ?_
        refine lv_if_lt (tgt := 151) hx hb dX11_findHire_42 (by decide) (fun c31 => ?_) (fun c31 => ?_)
        · have hf := (if_pos c31).symm.trans hf
          exact K41 M6 _ _ _ (lp_x (k := (fun s => k_X11_findHire_41 s)) (lp_r hf hq41) hz41) hP hD hS (lv_sub hl [0] rfl)
        · have hf := (if_neg c31).symm.trans hf
          refine lv_iconst (v := 0) hx hb dX11_findHire_45 (by decide) ?_
          refine lv_istore (lv' := [(4, .int 0), (0, .ref (h 0)), (2, .int p1), (3, .int y5)]) hx hb dX11_findHire_46 hl (by decide) rfl (fun ls hl => ?_)
          have K48 : ∀ (M7 : MS) (H : Heap) (locs : List Loc) (ls : Array Slot), k_X11_findHire_48 p1 y5 M7 = some q41 → va_P (dC, dI) vwCl (wM tI tZ h M7) H → va_D A (wM tI tZ h M7) → va_S A s.heap H locs → lv_has ls 6 [(0, .ref (h 0)), (2, .int p1), (3, .int y5)] → W p l e RRX11_findHire s m args below meth c H locs 0 0 (MQ below (qcMi dC dI tI tZ A h r M') args s 0 0 A) (F0 m 87 ls []) := by
            intro M7 H locs ls hf hP hD hS hl
            unfold k_X11_findHire_48 at hf
            refine lv_iconst (v := 1) hx hb dX11_findHire_87 (by decide) ?_
            refine lv_istore (lv' := [(4, .int 1), (0, .ref (h 0)), (2, .int p1), (3, .int y5)]) hx hb dX11_findHire_88 hl (by decide) rfl (fun ls hl => ?_)
            have K90 : ∀ (M8 : MS) (H : Heap) (locs : List Loc) (ls : Array Slot), k_X11_findHire_90 y5 M8 = some q41 → va_P (dC, dI) vwCl (wM tI tZ h M8) H → va_D A (wM tI tZ h M8) → va_S A s.heap H locs → lv_has ls 6 [(0, .ref (h 0)), (2, .int p1), (3, .int y5)] → W p l e RRX11_findHire s m args below meth c H locs 0 0 (MQ below (qcMi dC dI tI tZ A h r M') args s 0 0 A) (F0 m 145 ls []) := by
              intro M8 H locs ls hf hP hD hS hl
              unfold k_X11_findHire_90 at hf
              obtain ⟨x9, ex9, hf⟩ := bn hf
              refine lv_iinc (v := x9) (lv' := [(3, .int x9), (0, .ref (h 0)), (2, .int p1)]) hx hb dX11_findHire_145 hl (k := 2) rfl (by rw [ex9]; rfl) (by decide) rfl (fun ls hl => ?_)
              refine lv_goto (tgt := 41) hx hb dX11_findHire_148 (by decide) ?_
              exact ih41 x9 M8 _ _ _ (lp_l hf hq41) hP hD hS (lv_sub hl [1, 2, 0] rfl)
            obtain ⟨z90, ez90, hz90⟩ := bd hf
            have L90 : ∀ (n : Nat) (y10 : Int32) (M11 : MS) (H : Heap) (locs : List Loc) (ls : Array Slot), lp (fun s => b_X11_findHire_90 p1 y5 s.1 s.2) n (y10, M11) = some z90 → va_P (dC, dI) vwCl (wM tI tZ h M11) H → va_D A (wM tI tZ h M11) → va_S A s.heap H locs → lv_has ls 6 [(0, .ref (h 0)), (2, .int p1), (3, .int y5), (4, .int y10)] → W p l e RRX11_findHire s m args below meth c H locs 0 0 (MQ below (qcMi dC dI tI tZ A h r M') args s 0 0 A) (F0 m 90 ls []) := by
              intro n
              induction n with
              | zero => intro y10 M11 H locs ls hf; exact lp_z hf
              | succ n ih90 =>
                intro y10 M11 H locs ls hf hP hD hS hl
                obtain ⟨q90, hf, hq90⟩ := lp_i hf
                have hf : b_X11_findHire_90 p1 y5 y10 M11 = some q90 := hf
                unfold b_X11_findHire_90 at hf
                refine lv_iload hx hb dX11_findHire_90 (lv_at hl 3 rfl) ?_
                refine lv_aload_n hx hb dX11_findHire_92 rfl (lv_at hl 0 rfl) ?_
                obtain ⟨r12, er12, hf⟩ := bd hf
                refine klMi (rest := [.int y10]) (As := []) ⟨hx, hb, hml, hown, hts⟩ (c_X11_all l dC dI tI tZ h H.size M11 r12 er12) (cwV 0 hts gX11_findHire_X11_all rfl rfl rfl (by decide +kernel) ⟨Nat.le_of_ble_eq_true rfl, Nat.le_of_ble_eq_true rfl⟩) rfl hl.1 rfl (Nat.le_of_ble_eq_true rfl) dX11_findHire_93 ⟨Nat.zero_le _, Nat.zero_le _⟩ hK hP hD hS hA (fun H locs hP hD hS => ?_)
                refine lv_icmp_gt (tgt := 145) hx hb dX11_findHire_96 (by decide) (fun c21 => ?_) (fun c21 => ?_)
                · have hf := (if_pos c21).symm.trans hf
                  exact K90 M11 _ _ _ (lp_x (k := (fun s => k_X11_findHire_90 y5 s)) (lp_r hf hq90) hz90) hP hD hS (lv_sub hl [0, 1, 2] rfl)
                · have hf := (if_neg c21).symm.trans hf
                  refine lv_iload hx hb dX11_findHire_99 (lv_at hl 3 rfl) ?_
                  obtain ⟨r13, er13, hf⟩ := bd hf
                  refine klEi (rest := []) (As := [.int y10]) ⟨hx, hb, hml, hown, hts⟩ (c_X11_manyIn l H.size y10 r13 er13) (va_cwS 1 hts gX11_findHire_X11_manyIn rfl rfl rfl (by decide +kernel) ⟨Nat.le_of_ble_eq_true rfl, Nat.le_of_ble_eq_true rfl⟩) rfl hl.1 rfl (Nat.le_of_ble_eq_true rfl) dX11_findHire_101 ⟨Nat.zero_le _, Nat.zero_le _⟩ hS hA (fun H2 locs hk hS => ?_)
                  have hP := kpP hP hk
                  generalize H2 = H at hP hS ⊢
                  refine lv_iconst (v := 3) hx hb dX11_findHire_104 (by decide) ?_
                  have J122 : ∀ (k14 : Int32) (H : Heap) (locs : List Loc) (ls : Array Slot), j_X11_findHire_122 p1 y5 y10 M11 k14 = some q90 → va_P (dC, dI) vwCl (wM tI tZ h M11) H → va_D A (wM tI tZ h M11) → va_S A s.heap H locs → lv_has ls 6 [(0, .ref (h 0)), (2, .int p1), (3, .int y5), (4, .int y10)] → W p l e RRX11_findHire s m args below meth c H locs 0 0 (MQ below (qcMi dC dI tI tZ A h r M') args s 0 0 A) (F0 m 122 ls [.int k14]) := by
                    intro k14 H locs ls hf hP hD hS hl
                    unfold j_X11_findHire_122 at hf
                    refine lv_istore (lv' := [(5, .int k14), (0, .ref (h 0)), (2, .int p1), (3, .int y5), (4, .int y10)]) hx hb dX11_findHire_122 hl (by decide) rfl (fun ls hl => ?_)
                    refine lv_iload hx hb dX11_findHire_124 (lv_at hl 0 rfl) ?_
                    refine lv_iload_n hx hb dX11_findHire_126 rfl (lv_at hl 2 rfl) ?_
                    refine lv_icmp_gt (tgt := 139) hx hb dX11_findHire_127 (by decide) (fun c18 => ?_) (fun c18 => ?_)
                    · have hf := (if_pos c18).symm.trans hf
                      obtain ⟨x15, ex15, hf⟩ := bn hf
                      refine lv_iinc (v := x15) (lv' := [(4, .int x15), (5, .int k14), (0, .ref (h 0)), (2, .int p1), (3, .int y5)]) hx hb dX11_findHire_139 hl (k := 4) rfl (by rw [ex15]; rfl) (by decide) rfl (fun ls hl => ?_)
                      refine lv_goto (tgt := 90) hx hb dX11_findHire_142 (by decide) ?_
                      exact ih90 x15 M11 _ _ _ (lp_l hf hq90) hP hD hS (lv_sub hl [2, 3, 4, 0] rfl)
                    · have hf := (if_neg c18).symm.trans hf
                      refine lv_aload_n hx hb dX11_findHire_130 rfl (lv_at hl 1 rfl) ?_
                      refine lv_iload hx hb dX11_findHire_131 (lv_at hl 4 rfl) ?_
                      refine lv_iload_n hx hb dX11_findHire_133 rfl (lv_at hl 3 rfl) ?_
                      refine lv_iload hx hb dX11_findHire_134 (lv_at hl 0 rfl) ?_
                      obtain ⟨M16, eM16, hf⟩ := bd hf
                      refine klMv (rest := []) (As := [.int y10, .int y5, .int k14]) ⟨hx, hb, hml, hown, hts⟩ (c_X11_goBack l dC dI tI tZ h H.size M11 y10 y5 k14 M16 eM16) (cwV 3 hts gX11_findHire_X11_goBack rfl rfl rfl (by decide +kernel) ⟨Nat.le_of_ble_eq_true rfl, Nat.le_of_ble_eq_true rfl⟩) rfl hl.1 rfl (Nat.le_of_ble_eq_true rfl) dX11_findHire_136 ⟨Nat.zero_le _, Nat.zero_le _⟩ hK hP hD hS hA (fun H locs hP hD hS => ?_)
                      obtain ⟨x17, ex17, hf⟩ := bn hf
                      refine lv_iinc (v := x17) (lv' := [(4, .int x17), (5, .int k14), (0, .ref (h 0)), (2, .int p1), (3, .int y5)]) hx hb dX11_findHire_139 hl (k := 4) rfl (by rw [ex17]; rfl) (by decide) rfl (fun ls hl => ?_)
                      refine lv_goto (tgt := 90) hx hb dX11_findHire_142 (by decide) ?_
                      exact ih90 x17 M16 _ _ _ (lp_l hf hq90) hP hD hS (lv_sub hl [2, 3, 4, 0] rfl)
                  refine lv_icmp_ge (tgt := 119) hx hb dX11_findHire_105 (by decide) (fun c20 => ?_) (fun c20 => ?_)
                  · have hf := (if_pos c20).symm.trans hf
                    refine lv_sipush (v := 241) hx hb dX11_findHire_119 (by decide) ?_
                    exact J122 241 _ _ _ hf hP hD hS (lv_sub hl [0, 1, 2, 3] rfl)
                  · have hf := (if_neg c20).symm.trans hf
                    refine lv_iload_n hx hb dX11_findHire_108 rfl (lv_at hl 2 rfl) ?_
                    refine lv_aload_n hx hb dX11_findHire_109 rfl (lv_at hl 0 rfl) ?_
                    refine lv_iload hx hb dX11_findHire_110 (lv_at hl 3 rfl) ?_
                    obtain ⟨r19, er19, hf⟩ := bd hf
                    refine klMi (rest := [.int y5]) (As := [.int y10]) ⟨hx, hb, hml, hown, hts⟩ (c_X11_timeOfSet l dC dI tI tZ h H.size M11 y10 r19 er19) (cwV 1 hts gX11_findHire_X11_timeOfSet rfl rfl rfl (by decide +kernel) ⟨Nat.le_of_ble_eq_true rfl, Nat.le_of_ble_eq_true rfl⟩) rfl hl.1 rfl (Nat.le_of_ble_eq_true rfl) dX11_findHire_112 ⟨Nat.zero_le _, Nat.zero_le _⟩ hK hP hD hS hA (fun H locs hP hD hS => ?_)
                    refine lv_iadd hx hb dX11_findHire_115 ?_
                    refine lv_goto (tgt := 122) hx hb dX11_findHire_116 (by decide) ?_
                    exact J122 (y5 + r19) _ _ _ hf hP hD hS (lv_sub hl [0, 1, 2, 3] rfl)
            exact L90 FU 1 M7 _ _ _ ez90 hP hD hS (lv_sub hl [1, 2, 3, 0] rfl)
          obtain ⟨z48, ez48, hz48⟩ := bd hf
          have L48 : ∀ (n : Nat) (y22 : Int32) (M23 : MS) (H : Heap) (locs : List Loc) (ls : Array Slot), lp (fun s => b_X11_findHire_48 y5 s.1 s.2) n (y22, M23) = some z48 → va_P (dC, dI) vwCl (wM tI tZ h M23) H → va_D A (wM tI tZ h M23) → va_S A s.heap H locs → lv_has ls 6 [(0, .ref (h 0)), (2, .int p1), (3, .int y5), (4, .int y22)] → W p l e RRX11_findHire s m args below meth c H locs 0 0 (MQ below (qcMi dC dI tI tZ A h r M') args s 0 0 A) (F0 m 48 ls []) := by
            intro n
            induction n with
            | zero => intro y22 M23 H locs ls hf; exact lp_z hf
            | succ n ih48 =>
              intro y22 M23 H locs ls hf hP hD hS hl
              obtain ⟨q48, hf, hq48⟩ := lp_i hf
              have hf : b_X11_findHire_48 y5 y22 M23 = some q48 := hf
              unfold b_X11_findHire_48 at hf
              refine lv_iload hx hb dX11_findHire_48 (lv_at hl 3 rfl) ?_
              refine lv_aload_n hx hb dX11_findHire_50 rfl (lv_at hl 0 rfl) ?_
              obtain ⟨r24, er24, hf⟩ := bd hf
              refine klMi (rest := [.int y22]) (As := []) ⟨hx, hb, hml, hown, hts⟩ (c_X11_all l dC dI tI tZ h H.size M23 r24 er24) (cwV 0 hts gX11_findHire_X11_all rfl rfl rfl (by decide +kernel) ⟨Nat.le_of_ble_eq_true rfl, Nat.le_of_ble_eq_true rfl⟩) rfl hl.1 rfl (Nat.le_of_ble_eq_true rfl) dX11_findHire_51 ⟨Nat.zero_le _, Nat.zero_le _⟩ hK hP hD hS hA (fun H locs hP hD hS => ?_)
              refine lv_icmp_gt (tgt := 87) hx hb dX11_findHire_54 (by decide) (fun c30 => ?_) (fun c30 => ?_)
              · have hf := (if_pos c30).symm.trans hf
                exact K48 M23 _ _ _ (lp_x (k := (fun s => k_X11_findHire_48 p1 y5 s)) (lp_r hf hq48) hz48) hP hD hS (lv_sub hl [0, 1, 2] rfl)
              · have hf := (if_neg c30).symm.trans hf
                refine lv_aload_n hx hb dX11_findHire_57 rfl (lv_at hl 0 rfl) ?_
                refine geM hx hb hts hin hown hK hP 14 (by decide) lk29 rfl dX11_findHire_58 ?_
                refine lv_iload_n hx hb dX11_findHire_61 rfl (lv_at hl 2 rfl) ?_
                refine lv_iload hx hb dX11_findHire_62 (lv_at hl 3 rfl) ?_
                obtain ⟨r25, er25, hf⟩ := bd hf
                refine klEi (rest := [.ref (h 15)]) (As := [.int y5, .int y22]) ⟨hx, hb, hml, hown, hts⟩ (c_X11_at l H.size y5 y22 r25 er25) (va_cwS 2 hts gX11_findHire_X11_at rfl rfl rfl (by decide +kernel) ⟨Nat.le_of_ble_eq_true rfl, Nat.le_of_ble_eq_true rfl⟩) rfl hl.1 rfl (Nat.le_of_ble_eq_true rfl) dX11_findHire_64 ⟨Nat.zero_le _, Nat.zero_le _⟩ hS hA (fun H2 locs hk hS => ?_)
                have hP := kpP hP hk
                generalize H2 = H at hP hS ⊢
                refine lv_aload_n hx hb dX11_findHire_67 rfl (lv_at hl 0 rfl) ?_
                refine geM hx hb hts hin hown hK hP 14 (by decide) lk29 rfl dX11_findHire_68 ?_
                refine lv_iload_n hx hb dX11_findHire_71 rfl (lv_at hl 2 rfl) ?_
                refine lv_iconst (v := 1) hx hb dX11_findHire_72 (by decide) ?_
                refine lv_iadd hx hb dX11_findHire_73 ?_
                refine lv_iload hx hb dX11_findHire_74 (lv_at hl 3 rfl) ?_
                obtain ⟨r26, er26, hf⟩ := bd hf
                refine klEi (rest := [.ref (h 15), .int r25, .ref (h 15)]) (As := [.int (y5 + 1), .int y22]) ⟨hx, hb, hml, hown, hts⟩ (c_X11_at l H.size (y5 + 1) y22 r26 er26) (va_cwS 2 hts gX11_findHire_X11_at rfl rfl rfl (by decide +kernel) ⟨Nat.le_of_ble_eq_true rfl, Nat.le_of_ble_eq_true rfl⟩) rfl hl.1 rfl (Nat.le_of_ble_eq_true rfl) dX11_findHire_76 ⟨Nat.zero_le _, Nat.zero_le _⟩ hS hA (fun H2 locs hk hS => ?_)
                have hP := kpP hP hk
                generalize H2 = H at hP hS ⊢
                obtain ⟨x27, hix27, ex27, hf⟩ := rd_b hf
                refine va_iald hx hb hK hP 7 0 rfl rfl hix27 dX11_findHire_79 (kI ex27 ?_)
                obtain ⟨M28, hiM28, eM28, hf⟩ := wr_b hf
                refine va_iast hx hb hK hP hD hS 7 0 rfl rfl hiM28 dX11_findHire_80 (fun H locs hP hD hS => ?_)
                have hP : va_P (dC, dI) vwCl (wM tI tZ h M28) H := by rw [eM28]; exact hP
                have hD : va_D A (wM tI tZ h M28) := by rw [eM28]; exact hD
                obtain ⟨x29, ex29, hf⟩ := bn hf
                refine lv_iinc (v := x29) (lv' := [(4, .int x29), (0, .ref (h 0)), (2, .int p1), (3, .int y5)]) hx hb dX11_findHire_81 hl (k := 3) rfl (by rw [ex29]; rfl) (by decide) rfl (fun ls hl => ?_)
                refine lv_goto (tgt := 48) hx hb dX11_findHire_84 (by decide) ?_
                exact ih48 x29 M28 _ _ _ (lp_l hf hq48) hP hD hS (lv_sub hl [1, 2, 3, 0] rfl)
          exact L48 FU 0 M6 _ _ _ ez48 hP hD hS (lv_sub hl [1, 2, 3, 0] rfl)
    exact L41 FU x2 M1 _ _ _ ez41 hP hD hS (lv_sub hl [1, 2, 0] rfl)
  obtain ⟨z2, ez2, hz2⟩ := bd hf
  have L2 : ∀ (n : Nat) (y32 : Int32) (M33 : MS) (H : Heap) (locs : List Loc) (ls : Array Slot), lp (fun s => b_X11_findHire_2 p0 p1 s.1 s.2) n (y32, M33) = some z2 → va_P (dC, dI) vwCl (wM tI tZ h M33) H → va_D A (wM tI tZ h M33) → va_S A s.heap H locs → lv_has ls 6 [(0, .ref (h 0)), (1, .int p0), (2, .int p1), (3, .int y32)] → W p l e RRX11_findHire s m args below meth c H locs 0 0 (MQ below (qcMi dC dI tI tZ A h r M') args s 0 0 A) (F0 m 2 ls []) := by
    intro n
    induction n with
    | zero => intro y32 M33 H locs ls hf; exact lp_z hf
    | succ n ih2 =>
      intro y32 M33 H locs ls hf hP hD hS hl
      obtain ⟨q2, hf, hq2⟩ := lp_i hf
      have hf : b_X11_findHire_2 p0 p1 y32 M33 = some q2 := hf
      unfold b_X11_findHire_2 at hf
      refine lv_iload_n hx hb dX11_findHire_2 rfl (lv_at hl 3 rfl) ?_
      refine lv_bipush (v := 64) hx hb dX11_findHire_3 (by decide) ?_
      refine lv_icmp_ge (tgt := 37) hx hb dX11_findHire_5 (by decide) (fun c40 => ?_) (fun c40 => ?_)
      · have hf := (if_pos c40).symm.trans hf
        exact K2 M33 _ _ _ (lp_x (k := (fun s => k_X11_findHire_2 p1 s)) (lp_r hf hq2) hz2) hP hD hS (lv_sub hl [0, 2] rfl)
      · have hf := (if_neg c40).symm.trans hf
        refine lv_aload_n hx hb dX11_findHire_8 rfl (lv_at hl 0 rfl) ?_
        refine geM hx hb hts hin hown hK hP 14 (by decide) lk29 rfl dX11_findHire_9 ?_
        refine lv_iload_n hx hb dX11_findHire_12 rfl (lv_at hl 2 rfl) ?_
        refine lv_iload_n hx hb dX11_findHire_13 rfl (lv_at hl 3 rfl) ?_
        obtain ⟨r34, er34, hf⟩ := bd hf
        refine klEi (rest := [.ref (h 15)]) (As := [.int p1, .int y32]) ⟨hx, hb, hml, hown, hts⟩ (c_X11_at l H.size p1 y32 r34 er34) (va_cwS 2 hts gX11_findHire_X11_at rfl rfl rfl (by decide +kernel) ⟨Nat.le_of_ble_eq_true rfl, Nat.le_of_ble_eq_true rfl⟩) rfl hl.1 rfl (Nat.le_of_ble_eq_true rfl) dX11_findHire_14 ⟨Nat.zero_le _, Nat.zero_le _⟩ hS hA (fun H2 locs hk hS => ?_)
        have hP := kpP hP hk
        generalize H2 = H at hP hS ⊢
        refine lv_iload_n hx hb dX11_findHire_17 rfl (lv_at hl 3 rfl) ?_
        refine lv_iload_n hx hb dX11_findHire_18 rfl (lv_at hl 1 rfl) ?_
        refine lv_iand hx hb dX11_findHire_19 ?_
        refine lv_iload_n hx hb dX11_findHire_20 rfl (lv_at hl 1 rfl) ?_
        refine lv_icmp_ne (tgt := 28) hx hb dX11_findHire_21 (by decide) (fun c39 => ?_) (fun c39 => ?_)
        · have hf := (if_neg c39).symm.trans hf
          refine lv_ldc (v := 1000000) hx hb hown (hts (.constant RX11 220 (1000000)) (by decide +kernel)) dX11_findHire_28 ?_
          obtain ⟨M35, hiM35, eM35, hf⟩ := wr_b hf
          refine va_iast hx hb hK hP hD hS 7 0 rfl rfl hiM35 dX11_findHire_30 (fun H locs hP hD hS => ?_)
          have hP : va_P (dC, dI) vwCl (wM tI tZ h M35) H := by rw [eM35]; exact hP
          have hD : va_D A (wM tI tZ h M35) := by rw [eM35]; exact hD
          obtain ⟨x36, ex36, hf⟩ := bn hf
          refine lv_iinc (v := x36) (lv' := [(3, .int x36), (0, .ref (h 0)), (1, .int p0), (2, .int p1)]) hx hb dX11_findHire_31 hl (k := 3) rfl (by rw [ex36]; rfl) (by decide) rfl (fun ls hl => ?_)
          refine lv_goto (tgt := 2) hx hb dX11_findHire_34 (by decide) ?_
          exact ih2 x36 M35 _ _ _ (lp_l hf hq2) hP hD hS (lv_sub hl [1, 2, 3, 0] rfl)
        · have hf := (if_pos c39).symm.trans hf
          refine lv_iconst (v := 0) hx hb dX11_findHire_24 (by decide) ?_
          refine lv_goto (tgt := 30) hx hb dX11_findHire_25 (by decide) ?_
          obtain ⟨M37, hiM37, eM37, hf⟩ := wr_b hf
          refine va_iast hx hb hK hP hD hS 7 0 rfl rfl hiM37 dX11_findHire_30 (fun H locs hP hD hS => ?_)
          have hP : va_P (dC, dI) vwCl (wM tI tZ h M37) H := by rw [eM37]; exact hP
          have hD : va_D A (wM tI tZ h M37) := by rw [eM37]; exact hD
          obtain ⟨x38, ex38, hf⟩ := bn hf
          refine lv_iinc (v := x38) (lv' := [(3, .int x38), (0, .ref (h 0)), (1, .int p0), (2, .int p1)]) hx hb dX11_findHire_31 hl (k := 3) rfl (by rw [ex38]; rfl) (by decide) rfl (fun ls hl => ?_)
          refine lv_goto (tgt := 2) hx hb dX11_findHire_34 (by decide) ?_
          exact ih2 x38 M37 _ _ _ (lp_l hf hq2) hP hD hS (lv_sub hl [1, 2, 3, 0] rfl)
  exact L2 FU 0 M _ _ _ ez2 hP hD hS (lv_sub hl [1, 2, 3, 0] rfl)

def k_X11_goForth_23 (M3 : MS) : Option MS :=
  some M3
def b_X11_goForth_23 (p0 : Int32) (p1 : Int32) (y4 : Int32) (M5 : MS) : Option ((Int32 × MS) ⊕ MS) :=
  Option.bind (f_X11_all M5) (fun r6 => (if r6 < y4 then (some (Sum.inr M5)) else (Option.bind (f_X11_mayCross M5 y4 p1 p0) (fun r7 => (if r7 = 0 then (Option.bind (some (y4 + 1)) (fun x8 => some (Sum.inl (x8, M5)))) else (Option.bind (f_X11_timeOfSet M5 y4) (fun r9 => Option.bind (f_X11_at (p0 + r9) (p1 ^^^ y4)) (fun r10 => Option.bind (wrM M5 20 15424 r10 (vp_nar .boolean 1)) (fun M11 => Option.bind (some (y4 + 1)) (fun x12 => some (Sum.inl (x12, M11))))))))))))
def f_X11_goForth (M : MS) (p0 : Int32) (p1 : Int32) : Option MS :=
  (if p0 = 240 then (some M) else (Option.bind (f_X11_at (p0 + 1) p1) (fun r1 => Option.bind (wrM M 20 15424 r1 (vp_nar .boolean 1)) (fun M2 => Option.bind (lp (fun s => b_X11_goForth_23 p0 p1 s.1 s.2) FU (1, M2)) (fun s => k_X11_goForth_23 s)))))
def rmX11_goForth : Room := { frames := 5, cells := 0, slots := 0, locals := 119 }
abbrev RRX11_goForth : Room := (headSpec wsX11_goForth rmX11_goForth).room
theorem inX11_goForth : ∀ w ∈ wsX110, w ∈ wsX11_goForth := by decide +kernel
set_option maxHeartbeats 4000000 in
set_option maxRecDepth 100000 in
theorem c_X11_goForth (l : Launch) (dC : Nat → ClassId) (dI : Nat → Nat → Nat) (tI tZ : ClassId) (h : Nat → Nat) (sz : Nat) (M : MS) (p0 : Int32) (p1 : Int32) (M' : MS) (hf : f_X11_goForth M p0 p1 = some M') : cMv l yX11_goForth wsX11_goForth rmX11_goForth dC dI tI tZ h sz [.ref (h 0), .int p0, .int p1] M M' := by
  refine Met.ofW (cc := cX11_goForth) (maxL := 4) (ret := none) (by decide) rfl ?_
  intro p e s m args below meth c s₁ B hml hv
  obtain ⟨hargs, hsz, hP, hK, hD0⟩ := hv
  have hx := B.exec
  have hb := B.bytes
  have hr := B.returns
  have hts := atoms_spec (ws := wsX11_goForth) B.pre
  have hown : s.vm.findClass RX11 = some m.cls := findClass_of_methodNamed B.named
  have hlocks := B.notSynchronized
  have hin := inX11_goForth
  have hsz : s.heap.size = sz := hsz
  subst hsz
  have lk38 : Cond.fieldLink RX11 38 (TX11 20).1 (TX11 20).2.1 (TX11 20).2.2.1 ∈ wsX11_goForth := by decide +kernel
  have hD := hD0.self (sz := s.heap.size)
  generalize hAe : va_A (wM tI tZ h M) s.heap.size = A at hD ⊢
  have hA : ∀ q : Nat, s.heap.size ≤ q → A q := fun q h => by rw [← hAe]; exact Or.inr h
  have hS : va_S A s.heap s.heap [] := va_S.rf
  have hl := lv_entry ([.ref (h 0), .int p0, .int p1]) (n := 4) (Nat.le_of_ble_eq_true rfl)
  rw [show entryFrame m args 4 = entryFrame m ([.ref (h 0), .int p0, .int p1] : List Value).toArray 4 from by rw [hargs], lg_entry_eq]
  generalize (lg_sl ([.ref (h 0), .int p0, .int p1]) ++ List.replicate (4 - (lg_sl ([.ref (h 0), .int p0, .int p1])).length) Slot.unset).toArray = ls at hl ⊢
  have hl : lv_has ls 4 [(0, .ref (h 0)), (1, .int p0), (2, .int p1)] := hl
  unfold f_X11_goForth at hf
  refine lv_iload_n hx hb dX11_goForth_0 rfl (lv_at hl 1 rfl) ?_
  refine lv_sipush (v := 240) hx hb dX11_goForth_1 (by decide) ?_
  refine lv_icmp_ne (tgt := 8) hx hb dX11_goForth_4 (by decide) (fun c15 => ?_) (fun c15 => ?_)
  · have hf := (if_neg c15).symm.trans hf
    refine lv_aload_n hx hb dX11_goForth_8 rfl (lv_at hl 0 rfl) ?_
    refine geM hx hb hts hin hown hK hP 20 (by decide) lk38 rfl dX11_goForth_9 ?_
    refine lv_iload_n hx hb dX11_goForth_12 rfl (lv_at hl 1 rfl) ?_
    refine lv_iconst (v := 1) hx hb dX11_goForth_13 (by decide) ?_
    refine lv_iadd hx hb dX11_goForth_14 ?_
    refine lv_iload_n hx hb dX11_goForth_15 rfl (lv_at hl 2 rfl) ?_
    obtain ⟨r1, er1, hf⟩ := bd hf
    refine klEi (rest := [.ref (h 21)]) (As := [.int (p0 + 1), .int p1]) ⟨hx, hb, hml, hown, hts⟩ (c_X11_at l s.heap.size (p0 + 1) p1 r1 er1) (va_cwS 2 hts gX11_goForth_X11_at rfl rfl rfl (by decide +kernel) ⟨Nat.le_of_ble_eq_true rfl, Nat.le_of_ble_eq_true rfl⟩) rfl hl.1 rfl (Nat.le_of_ble_eq_true rfl) dX11_goForth_16 ⟨Nat.zero_le _, Nat.zero_le _⟩ hS hA (fun H2 locs hk hS => ?_)
    have hP := kpP hP hk
    generalize H2 = H at hP hS ⊢
    refine lv_iconst (v := 1) hx hb dX11_goForth_19 (by decide) ?_
    obtain ⟨M2, hiM2, eM2, hf⟩ := wr_b hf
    refine va_zast hx hb hK hP hD hS 10 1 rfl rfl hiM2 dX11_goForth_20 (fun H locs hP hD hS => ?_)
    have hP : va_P (dC, dI) vwCl (wM tI tZ h M2) H := by rw [eM2]; exact hP
    have hD : va_D A (wM tI tZ h M2) := by rw [eM2]; exact hD
    refine lv_iconst (v := 1) hx hb dX11_goForth_21 (by decide) ?_
    refine lv_istore_n (lv' := [(3, .int 1), (0, .ref (h 0)), (1, .int p0), (2, .int p1)]) hx hb dX11_goForth_22 rfl hl (by decide) rfl (fun ls hl => ?_)
    have K23 : ∀ (M3 : MS) (H : Heap) (locs : List Loc) (ls : Array Slot), k_X11_goForth_23 M3 = some M' → va_P (dC, dI) vwCl (wM tI tZ h M3) H → va_D A (wM tI tZ h M3) → va_S A s.heap H locs → lv_has ls 4 [] → W p l e RRX11_goForth s m args below meth c H locs 0 0 (MQ below (qcMv dC dI tI tZ A h M') args s 0 0 A) (F0 m 66 ls []) := by
      intro M3 H locs ls hf hP hD hS hl
      unfold k_X11_goForth_23 at hf
      exact rtMv hx hb hr hlocks hK hP hD hS hf dX11_goForth_66
    obtain ⟨z23, ez23, hz23⟩ := bd hf
    have L23 : ∀ (n : Nat) (y4 : Int32) (M5 : MS) (H : Heap) (locs : List Loc) (ls : Array Slot), lp (fun s => b_X11_goForth_23 p0 p1 s.1 s.2) n (y4, M5) = some z23 → va_P (dC, dI) vwCl (wM tI tZ h M5) H → va_D A (wM tI tZ h M5) → va_S A s.heap H locs → lv_has ls 4 [(0, .ref (h 0)), (1, .int p0), (2, .int p1), (3, .int y4)] → W p l e RRX11_goForth s m args below meth c H locs 0 0 (MQ below (qcMv dC dI tI tZ A h M') args s 0 0 A) (F0 m 23 ls []) := by
      intro n
      induction n with
      | zero => intro y4 M5 H locs ls hf; exact lp_z hf
      | succ n ih23 =>
        intro y4 M5 H locs ls hf hP hD hS hl
        obtain ⟨q23, hf, hq23⟩ := lp_i hf
        have hf : b_X11_goForth_23 p0 p1 y4 M5 = some q23 := hf
        unfold b_X11_goForth_23 at hf
        refine lv_iload_n hx hb dX11_goForth_23 rfl (lv_at hl 3 rfl) ?_
        refine lv_aload_n hx hb dX11_goForth_24 rfl (lv_at hl 0 rfl) ?_
        obtain ⟨r6, er6, hf⟩ := bd hf
        refine klMi (rest := [.int y4]) (As := []) ⟨hx, hb, hml, hown, hts⟩ (c_X11_all l dC dI tI tZ h H.size M5 r6 er6) (cwV 0 hts gX11_goForth_X11_all rfl rfl rfl (by decide +kernel) ⟨Nat.le_of_ble_eq_true rfl, Nat.le_of_ble_eq_true rfl⟩) rfl hl.1 rfl (Nat.le_of_ble_eq_true rfl) dX11_goForth_25 ⟨Nat.zero_le _, Nat.zero_le _⟩ hK hP hD hS hA (fun H locs hP hD hS => ?_)
        refine lv_icmp_gt (tgt := 66) hx hb dX11_goForth_28 (by decide) (fun c14 => ?_) (fun c14 => ?_)
        · have hf := (if_pos c14).symm.trans hf
          exact K23 M5 _ _ _ (lp_x (k := (fun s => k_X11_goForth_23 s)) (lp_r hf hq23) hz23) hP hD hS (lv_sub hl [] rfl)
        · have hf := (if_neg c14).symm.trans hf
          refine lv_aload_n hx hb dX11_goForth_31 rfl (lv_at hl 0 rfl) ?_
          refine lv_iload_n hx hb dX11_goForth_32 rfl (lv_at hl 3 rfl) ?_
          refine lv_iload_n hx hb dX11_goForth_33 rfl (lv_at hl 2 rfl) ?_
          refine lv_iload_n hx hb dX11_goForth_34 rfl (lv_at hl 1 rfl) ?_
          obtain ⟨r7, er7, hf⟩ := bd hf
          refine klMi (rest := []) (As := [.int y4, .int p1, .int p0]) ⟨hx, hb, hml, hown, hts⟩ (c_X11_mayCross l dC dI tI tZ h H.size M5 y4 p1 p0 r7 er7) (cwV 3 hts gX11_goForth_X11_mayCross rfl rfl rfl (by decide +kernel) ⟨Nat.le_of_ble_eq_true rfl, Nat.le_of_ble_eq_true rfl⟩) rfl hl.1 rfl (Nat.le_of_ble_eq_true rfl) dX11_goForth_35 ⟨Nat.zero_le _, Nat.zero_le _⟩ hK hP hD hS hA (fun H locs hP hD hS => ?_)
          refine lv_if_eq (tgt := 60) hx hb dX11_goForth_38 (by decide) (fun c13 => ?_) (fun c13 => ?_)
          · have hf := (if_pos c13).symm.trans hf
            obtain ⟨x8, ex8, hf⟩ := bn hf
            refine lv_iinc (v := x8) (lv' := [(3, .int x8), (0, .ref (h 0)), (1, .int p0), (2, .int p1)]) hx hb dX11_goForth_60 hl (k := 3) rfl (by rw [ex8]; rfl) (by decide) rfl (fun ls hl => ?_)
            refine lv_goto (tgt := 23) hx hb dX11_goForth_63 (by decide) ?_
            exact ih23 x8 M5 _ _ _ (lp_l hf hq23) hP hD hS (lv_sub hl [1, 2, 3, 0] rfl)
          · have hf := (if_neg c13).symm.trans hf
            refine lv_aload_n hx hb dX11_goForth_41 rfl (lv_at hl 0 rfl) ?_
            refine geM hx hb hts hin hown hK hP 20 (by decide) lk38 rfl dX11_goForth_42 ?_
            refine lv_iload_n hx hb dX11_goForth_45 rfl (lv_at hl 1 rfl) ?_
            refine lv_aload_n hx hb dX11_goForth_46 rfl (lv_at hl 0 rfl) ?_
            refine lv_iload_n hx hb dX11_goForth_47 rfl (lv_at hl 3 rfl) ?_
            obtain ⟨r9, er9, hf⟩ := bd hf
            refine klMi (rest := [.int p0, .ref (h 21)]) (As := [.int y4]) ⟨hx, hb, hml, hown, hts⟩ (c_X11_timeOfSet l dC dI tI tZ h H.size M5 y4 r9 er9) (cwV 1 hts gX11_goForth_X11_timeOfSet rfl rfl rfl (by decide +kernel) ⟨Nat.le_of_ble_eq_true rfl, Nat.le_of_ble_eq_true rfl⟩) rfl hl.1 rfl (Nat.le_of_ble_eq_true rfl) dX11_goForth_48 ⟨Nat.zero_le _, Nat.zero_le _⟩ hK hP hD hS hA (fun H locs hP hD hS => ?_)
            refine lv_iadd hx hb dX11_goForth_51 ?_
            refine lv_iload_n hx hb dX11_goForth_52 rfl (lv_at hl 2 rfl) ?_
            refine lv_iload_n hx hb dX11_goForth_53 rfl (lv_at hl 3 rfl) ?_
            refine lv_ixor hx hb dX11_goForth_54 ?_
            obtain ⟨r10, er10, hf⟩ := bd hf
            refine klEi (rest := [.ref (h 21)]) (As := [.int (p0 + r9), .int (p1 ^^^ y4)]) ⟨hx, hb, hml, hown, hts⟩ (c_X11_at l H.size (p0 + r9) (p1 ^^^ y4) r10 er10) (va_cwS 2 hts gX11_goForth_X11_at rfl rfl rfl (by decide +kernel) ⟨Nat.le_of_ble_eq_true rfl, Nat.le_of_ble_eq_true rfl⟩) rfl hl.1 rfl (Nat.le_of_ble_eq_true rfl) dX11_goForth_55 ⟨Nat.zero_le _, Nat.zero_le _⟩ hS hA (fun H2 locs hk hS => ?_)
            have hP := kpP hP hk
            generalize H2 = H at hP hS ⊢
            refine lv_iconst (v := 1) hx hb dX11_goForth_58 (by decide) ?_
            obtain ⟨M11, hiM11, eM11, hf⟩ := wr_b hf
            refine va_zast hx hb hK hP hD hS 10 1 rfl rfl hiM11 dX11_goForth_59 (fun H locs hP hD hS => ?_)
            have hP : va_P (dC, dI) vwCl (wM tI tZ h M11) H := by rw [eM11]; exact hP
            have hD : va_D A (wM tI tZ h M11) := by rw [eM11]; exact hD
            obtain ⟨x12, ex12, hf⟩ := bn hf
            refine lv_iinc (v := x12) (lv' := [(3, .int x12), (0, .ref (h 0)), (1, .int p0), (2, .int p1)]) hx hb dX11_goForth_60 hl (k := 3) rfl (by rw [ex12]; rfl) (by decide) rfl (fun ls hl => ?_)
            refine lv_goto (tgt := 23) hx hb dX11_goForth_63 (by decide) ?_
            exact ih23 x12 M11 _ _ _ (lp_l hf hq23) hP hD hS (lv_sub hl [1, 2, 3, 0] rfl)
    exact L23 FU 1 M2 _ _ _ ez23 hP hD hS (lv_sub hl [1, 2, 3, 0] rfl)
  · have hf := (if_pos c15).symm.trans hf
    exact rtMv hx hb hr hlocks hK hP hD hS hf dX11_goForth_7

def b_X11_firstMinute_41 (p0 : Int32) (y2 : Int32) (y4 : Int32) (M5 : MS) : Option ((Int32 × MS) ⊕ ((Int32 × MS) ⊕ (Int32 × MS))) :=
  Option.bind (f_X11_all M5) (fun r6 => (if r6 < y4 then (Option.bind (some (y2 + 1)) (fun x7 => some (Sum.inr (Sum.inl (x7, M5))))) else (Option.bind (f_X11_at y2 y4) (fun r8 => Option.bind (rdI 15424 (M5 20) r8) (fun x9 => (if x9 = 0 then (Option.bind (some (y4 + 1)) (fun x10 => some (Sum.inl (x10, M5)))) else ((if (y4 &&& p0) = p0 then (some (Sum.inr (Sum.inr ((y2, M5))))) else (Option.bind (f_X11_goForth M5 y2 y4) (fun M11 => Option.bind (some (y4 + 1)) (fun x12 => some (Sum.inl (x12, M11)))))))))))))
def b_X11_firstMinute_32 (p0 : Int32) (y2 : Int32) (M3 : MS) : Option ((Int32 × MS) ⊕ (Int32 × MS)) :=
  (if 240 < y2 then (some (Sum.inr (((-1), M3)))) else (lp (fun s => b_X11_firstMinute_41 p0 y2 s.1 s.2) FU (0, M3)))
def k_X11_firstMinute_2 (p0 : Int32) (M1 : MS) : Option (Int32 × MS) :=
  lp (fun s => b_X11_firstMinute_32 p0 s.1 s.2) FU (0, M1)
def b_X11_firstMinute_2 (y17 : Int32) (M18 : MS) : Option ((Int32 × MS) ⊕ MS) :=
  (if 15424 ≤ y17 then (some (Sum.inr M18)) else ((if y17 = 0 then (Option.bind (wrM M18 20 15424 y17 (vp_nar .boolean 1)) (fun M21 => Option.bind (some (y17 + 1)) (fun x22 => some (Sum.inl (x22, M21))))) else (Option.bind (wrM M18 20 15424 y17 (vp_nar .boolean 0)) (fun M19 => Option.bind (some (y17 + 1)) (fun x20 => some (Sum.inl (x20, M19))))))))
def f_X11_firstMinute (M : MS) (p0 : Int32) : Option (Int32 × MS) :=
  Option.bind (lp (fun s => b_X11_firstMinute_2 s.1 s.2) FU (0, M)) (fun s => k_X11_firstMinute_2 p0 s)
def rmX11_firstMinute : Room := { frames := 6, cells := 0, slots := 0, locals := 142 }
abbrev RRX11_firstMinute : Room := (headSpec wsX11_firstMinute rmX11_firstMinute).room
theorem inX11_firstMinute : ∀ w ∈ wsX110, w ∈ wsX11_firstMinute := by decide +kernel
set_option maxHeartbeats 4000000 in
set_option maxRecDepth 100000 in
theorem c_X11_firstMinute (l : Launch) (dC : Nat → ClassId) (dI : Nat → Nat → Nat) (tI tZ : ClassId) (h : Nat → Nat) (sz : Nat) (M : MS) (p0 : Int32) (r : Int32) (M' : MS) (hf : f_X11_firstMinute M p0 = some (r, M')) : cMi l yX11_firstMinute wsX11_firstMinute rmX11_firstMinute dC dI tI tZ h sz [.ref (h 0), .int p0] M r M' := by
  refine Met.ofW (cc := cX11_firstMinute) (maxL := 4) (ret := (some .int)) (by decide) rfl ?_
  intro p e s m args below meth c s₁ B hml hv
  obtain ⟨hargs, hsz, hP, hK, hD0⟩ := hv
  have hx := B.exec
  have hb := B.bytes
  have hr := B.returns
  have hts := atoms_spec (ws := wsX11_firstMinute) B.pre
  have hown : s.vm.findClass RX11 = some m.cls := findClass_of_methodNamed B.named
  have hlocks := B.notSynchronized
  have hin := inX11_firstMinute
  have hsz : s.heap.size = sz := hsz
  subst hsz
  have lk38 : Cond.fieldLink RX11 38 (TX11 20).1 (TX11 20).2.1 (TX11 20).2.2.1 ∈ wsX11_firstMinute := by decide +kernel
  have hD := hD0.self (sz := s.heap.size)
  generalize hAe : va_A (wM tI tZ h M) s.heap.size = A at hD ⊢
  have hA : ∀ q : Nat, s.heap.size ≤ q → A q := fun q h => by rw [← hAe]; exact Or.inr h
  have hS : va_S A s.heap s.heap [] := va_S.rf
  have hl := lv_entry ([.ref (h 0), .int p0]) (n := 4) (Nat.le_of_ble_eq_true rfl)
  rw [show entryFrame m args 4 = entryFrame m ([.ref (h 0), .int p0] : List Value).toArray 4 from by rw [hargs], lg_entry_eq]
  generalize (lg_sl ([.ref (h 0), .int p0]) ++ List.replicate (4 - (lg_sl ([.ref (h 0), .int p0])).length) Slot.unset).toArray = ls at hl ⊢
  have hl : lv_has ls 4 [(0, .ref (h 0)), (1, .int p0)] := hl
  unfold f_X11_firstMinute at hf
  refine lv_iconst (v := 0) hx hb dX11_firstMinute_0 (by decide) ?_
  refine lv_istore_n (lv' := [(2, .int 0), (0, .ref (h 0)), (1, .int p0)]) hx hb dX11_firstMinute_1 rfl hl (by decide) rfl (fun ls hl => ?_)
  have K2 : ∀ (M1 : MS) (H : Heap) (locs : List Loc) (ls : Array Slot), k_X11_firstMinute_2 p0 M1 = some (r, M') → va_P (dC, dI) vwCl (wM tI tZ h M1) H → va_D A (wM tI tZ h M1) → va_S A s.heap H locs → lv_has ls 4 [(0, .ref (h 0)), (1, .int p0)] → W p l e RRX11_firstMinute s m args below meth c H locs 0 0 (MQ below (qcMi dC dI tI tZ A h r M') args s 0 0 A) (F0 m 30 ls []) := by
    intro M1 H locs ls hf hP hD hS hl
    unfold k_X11_firstMinute_2 at hf
    refine lv_iconst (v := 0) hx hb dX11_firstMinute_30 (by decide) ?_
    refine lv_istore_n (lv' := [(2, .int 0), (0, .ref (h 0)), (1, .int p0)]) hx hb dX11_firstMinute_31 rfl hl (by decide) rfl (fun ls hl => ?_)
    have L32 : ∀ (n : Nat) (y2 : Int32) (M3 : MS) (H : Heap) (locs : List Loc) (ls : Array Slot), lp (fun s => b_X11_firstMinute_32 p0 s.1 s.2) n (y2, M3) = some (r, M') → va_P (dC, dI) vwCl (wM tI tZ h M3) H → va_D A (wM tI tZ h M3) → va_S A s.heap H locs → lv_has ls 4 [(0, .ref (h 0)), (1, .int p0), (2, .int y2)] → W p l e RRX11_firstMinute s m args below meth c H locs 0 0 (MQ below (qcMi dC dI tI tZ A h r M') args s 0 0 A) (F0 m 32 ls []) := by
      intro n
      induction n with
      | zero => intro y2 M3 H locs ls hf; exact lp_z hf
      | succ n ih32 =>
        intro y2 M3 H locs ls hf hP hD hS hl
        obtain ⟨q32, hf, hq32⟩ := lp_i hf
        have hf : b_X11_firstMinute_32 p0 y2 M3 = some q32 := hf
        unfold b_X11_firstMinute_32 at hf
        refine lv_iload_n hx hb dX11_firstMinute_32 rfl (lv_at hl 2 rfl) ?_
        refine lv_sipush (v := 240) hx hb dX11_firstMinute_33 (by decide) ?_
        refine lv_icmp_gt (tgt := 89) hx hb dX11_firstMinute_36 (by decide) (fun c16 => ?_) (fun c16 => ?_)
        · have hf := (if_pos c16).symm.trans hf
          refine lv_iconst (v := (-1)) hx hb dX11_firstMinute_89 (by decide) ?_
          have hf := lp_r hf hq32
          exact rtMi hx hb hr hlocks hK hP hD hS hf dX11_firstMinute_90
        · have hf := (if_neg c16).symm.trans hf
          refine lv_iconst (v := 0) hx hb dX11_firstMinute_39 (by decide) ?_
          refine lv_istore_n (lv' := [(3, .int 0), (0, .ref (h 0)), (1, .int p0), (2, .int y2)]) hx hb dX11_firstMinute_40 rfl hl (by decide) rfl (fun ls hl => ?_)
          have L41 : ∀ (n : Nat) (y4 : Int32) (M5 : MS) (H : Heap) (locs : List Loc) (ls : Array Slot), lp (fun s => b_X11_firstMinute_41 p0 y2 s.1 s.2) n (y4, M5) = some q32 → va_P (dC, dI) vwCl (wM tI tZ h M5) H → va_D A (wM tI tZ h M5) → va_S A s.heap H locs → lv_has ls 4 [(0, .ref (h 0)), (1, .int p0), (2, .int y2), (3, .int y4)] → W p l e RRX11_firstMinute s m args below meth c H locs 0 0 (MQ below (qcMi dC dI tI tZ A h r M') args s 0 0 A) (F0 m 41 ls []) := by
            intro n
            induction n with
            | zero => intro y4 M5 H locs ls hf; exact lp_z hf
            | succ n ih41 =>
              intro y4 M5 H locs ls hf hP hD hS hl
              obtain ⟨q41, hf, hq41⟩ := lp_i hf
              have hf : b_X11_firstMinute_41 p0 y2 y4 M5 = some q41 := hf
              unfold b_X11_firstMinute_41 at hf
              refine lv_iload_n hx hb dX11_firstMinute_41 rfl (lv_at hl 3 rfl) ?_
              refine lv_aload_n hx hb dX11_firstMinute_42 rfl (lv_at hl 0 rfl) ?_
              obtain ⟨r6, er6, hf⟩ := bd hf
              refine klMi (rest := [.int y4]) (As := []) ⟨hx, hb, hml, hown, hts⟩ (c_X11_all l dC dI tI tZ h H.size M5 r6 er6) (cwV 0 hts gX11_firstMinute_X11_all rfl rfl rfl (by decide +kernel) ⟨Nat.le_of_ble_eq_true rfl, Nat.le_of_ble_eq_true rfl⟩) rfl hl.1 rfl (Nat.le_of_ble_eq_true rfl) dX11_firstMinute_43 ⟨Nat.zero_le _, Nat.zero_le _⟩ hK hP hD hS hA (fun H locs hP hD hS => ?_)
              refine lv_icmp_gt (tgt := 83) hx hb dX11_firstMinute_46 (by decide) (fun c15 => ?_) (fun c15 => ?_)
              · have hf := (if_pos c15).symm.trans hf
                obtain ⟨x7, ex7, hf⟩ := bn hf
                refine lv_iinc (v := x7) (lv' := [(2, .int x7), (0, .ref (h 0)), (1, .int p0), (3, .int y4)]) hx hb dX11_firstMinute_83 hl (k := 2) rfl (by rw [ex7]; rfl) (by decide) rfl (fun ls hl => ?_)
                refine lv_goto (tgt := 32) hx hb dX11_firstMinute_86 (by decide) ?_
                have hf := lp_r hf hq41
                exact ih32 x7 M5 _ _ _ (lp_l hf hq32) hP hD hS (lv_sub hl [1, 2, 0] rfl)
              · have hf := (if_neg c15).symm.trans hf
                refine lv_aload_n hx hb dX11_firstMinute_49 rfl (lv_at hl 0 rfl) ?_
                refine geM hx hb hts hin hown hK hP 20 (by decide) lk38 rfl dX11_firstMinute_50 ?_
                refine lv_iload_n hx hb dX11_firstMinute_53 rfl (lv_at hl 2 rfl) ?_
                refine lv_iload_n hx hb dX11_firstMinute_54 rfl (lv_at hl 3 rfl) ?_
                obtain ⟨r8, er8, hf⟩ := bd hf
                refine klEi (rest := [.ref (h 21)]) (As := [.int y2, .int y4]) ⟨hx, hb, hml, hown, hts⟩ (c_X11_at l H.size y2 y4 r8 er8) (va_cwS 2 hts gX11_firstMinute_X11_at rfl rfl rfl (by decide +kernel) ⟨Nat.le_of_ble_eq_true rfl, Nat.le_of_ble_eq_true rfl⟩) rfl hl.1 rfl (Nat.le_of_ble_eq_true rfl) dX11_firstMinute_55 ⟨Nat.zero_le _, Nat.zero_le _⟩ hS hA (fun H2 locs hk hS => ?_)
                have hP := kpP hP hk
                generalize H2 = H at hP hS ⊢
                obtain ⟨x9, hix9, ex9, hf⟩ := rd_b hf
                refine va_zald hx hb hK hP 10 1 rfl rfl hix9 dX11_firstMinute_58 (kI ex9 ?_)
                refine lv_if_eq (tgt := 77) hx hb dX11_firstMinute_59 (by decide) (fun c14 => ?_) (fun c14 => ?_)
                · have hf := (if_pos c14).symm.trans hf
                  obtain ⟨x10, ex10, hf⟩ := bn hf
                  refine lv_iinc (v := x10) (lv' := [(3, .int x10), (0, .ref (h 0)), (1, .int p0), (2, .int y2)]) hx hb dX11_firstMinute_77 hl (k := 3) rfl (by rw [ex10]; rfl) (by decide) rfl (fun ls hl => ?_)
                  refine lv_goto (tgt := 41) hx hb dX11_firstMinute_80 (by decide) ?_
                  exact ih41 x10 M5 _ _ _ (lp_l hf hq41) hP hD hS (lv_sub hl [1, 2, 3, 0] rfl)
                · have hf := (if_neg c14).symm.trans hf
                  refine lv_iload_n hx hb dX11_firstMinute_62 rfl (lv_at hl 3 rfl) ?_
                  refine lv_iload_n hx hb dX11_firstMinute_63 rfl (lv_at hl 1 rfl) ?_
                  refine lv_iand hx hb dX11_firstMinute_64 ?_
                  refine lv_iload_n hx hb dX11_firstMinute_65 rfl (lv_at hl 1 rfl) ?_
                  refine lv_icmp_ne (tgt := 71) hx hb dX11_firstMinute_66 (by decide) (fun c13 => ?_) (fun c13 => ?_)
                  · have hf := (if_neg c13).symm.trans hf
                    refine lv_aload_n hx hb dX11_firstMinute_71 rfl (lv_at hl 0 rfl) ?_
                    refine lv_iload_n hx hb dX11_firstMinute_72 rfl (lv_at hl 2 rfl) ?_
                    refine lv_iload_n hx hb dX11_firstMinute_73 rfl (lv_at hl 3 rfl) ?_
                    obtain ⟨M11, eM11, hf⟩ := bd hf
                    refine klMv (rest := []) (As := [.int y2, .int y4]) ⟨hx, hb, hml, hown, hts⟩ (c_X11_goForth l dC dI tI tZ h H.size M5 y2 y4 M11 eM11) (cwV 2 hts gX11_firstMinute_X11_goForth rfl rfl rfl (by decide +kernel) ⟨Nat.le_of_ble_eq_true rfl, Nat.le_of_ble_eq_true rfl⟩) rfl hl.1 rfl (Nat.le_of_ble_eq_true rfl) dX11_firstMinute_74 ⟨Nat.zero_le _, Nat.zero_le _⟩ hK hP hD hS hA (fun H locs hP hD hS => ?_)
                    obtain ⟨x12, ex12, hf⟩ := bn hf
                    refine lv_iinc (v := x12) (lv' := [(3, .int x12), (0, .ref (h 0)), (1, .int p0), (2, .int y2)]) hx hb dX11_firstMinute_77 hl (k := 3) rfl (by rw [ex12]; rfl) (by decide) rfl (fun ls hl => ?_)
                    refine lv_goto (tgt := 41) hx hb dX11_firstMinute_80 (by decide) ?_
                    exact ih41 x12 M11 _ _ _ (lp_l hf hq41) hP hD hS (lv_sub hl [1, 2, 3, 0] rfl)
                  · have hf := (if_pos c13).symm.trans hf
                    refine lv_iload_n hx hb dX11_firstMinute_69 rfl (lv_at hl 2 rfl) ?_
                    have hf := lp_r hf hq41
                    have hf := lp_r hf hq32
                    exact rtMi hx hb hr hlocks hK hP hD hS hf dX11_firstMinute_70
          exact L41 FU 0 M3 _ _ _ hf hP hD hS (lv_sub hl [1, 2, 3, 0] rfl)
    exact L32 FU 0 M1 _ _ _ hf hP hD hS (lv_sub hl [1, 2, 0] rfl)
  obtain ⟨z2, ez2, hz2⟩ := bd hf
  have L2 : ∀ (n : Nat) (y17 : Int32) (M18 : MS) (H : Heap) (locs : List Loc) (ls : Array Slot), lp (fun s => b_X11_firstMinute_2 s.1 s.2) n (y17, M18) = some z2 → va_P (dC, dI) vwCl (wM tI tZ h M18) H → va_D A (wM tI tZ h M18) → va_S A s.heap H locs → lv_has ls 4 [(0, .ref (h 0)), (1, .int p0), (2, .int y17)] → W p l e RRX11_firstMinute s m args below meth c H locs 0 0 (MQ below (qcMi dC dI tI tZ A h r M') args s 0 0 A) (F0 m 2 ls []) := by
    intro n
    induction n with
    | zero => intro y17 M18 H locs ls hf; exact lp_z hf
    | succ n ih2 =>
      intro y17 M18 H locs ls hf hP hD hS hl
      obtain ⟨q2, hf, hq2⟩ := lp_i hf
      have hf : b_X11_firstMinute_2 y17 M18 = some q2 := hf
      unfold b_X11_firstMinute_2 at hf
      refine lv_iload_n hx hb dX11_firstMinute_2 rfl (lv_at hl 2 rfl) ?_
      refine lv_sipush (v := 15424) hx hb dX11_firstMinute_3 (by decide) ?_
      refine lv_icmp_ge (tgt := 30) hx hb dX11_firstMinute_6 (by decide) (fun c24 => ?_) (fun c24 => ?_)
      · have hf := (if_pos c24).symm.trans hf
        exact K2 M18 _ _ _ (lp_x (k := (fun s => k_X11_firstMinute_2 p0 s)) (lp_r hf hq2) hz2) hP hD hS (lv_sub hl [0, 1] rfl)
      · have hf := (if_neg c24).symm.trans hf
        refine lv_aload_n hx hb dX11_firstMinute_9 rfl (lv_at hl 0 rfl) ?_
        refine geM hx hb hts hin hown hK hP 20 (by decide) lk38 rfl dX11_firstMinute_10 ?_
        refine lv_iload_n hx hb dX11_firstMinute_13 rfl (lv_at hl 2 rfl) ?_
        refine lv_iload_n hx hb dX11_firstMinute_14 rfl (lv_at hl 2 rfl) ?_
        refine lv_if_ne (tgt := 22) hx hb dX11_firstMinute_15 (by decide) (fun c23 => ?_) (fun c23 => ?_)
        · have hf := (if_neg c23).symm.trans hf
          refine lv_iconst (v := 0) hx hb dX11_firstMinute_22 (by decide) ?_
          obtain ⟨M19, hiM19, eM19, hf⟩ := wr_b hf
          refine va_zast hx hb hK hP hD hS 10 1 rfl rfl hiM19 dX11_firstMinute_23 (fun H locs hP hD hS => ?_)
          have hP : va_P (dC, dI) vwCl (wM tI tZ h M19) H := by rw [eM19]; exact hP
          have hD : va_D A (wM tI tZ h M19) := by rw [eM19]; exact hD
          obtain ⟨x20, ex20, hf⟩ := bn hf
          refine lv_iinc (v := x20) (lv' := [(2, .int x20), (0, .ref (h 0)), (1, .int p0)]) hx hb dX11_firstMinute_24 hl (k := 2) rfl (by rw [ex20]; rfl) (by decide) rfl (fun ls hl => ?_)
          refine lv_goto (tgt := 2) hx hb dX11_firstMinute_27 (by decide) ?_
          exact ih2 x20 M19 _ _ _ (lp_l hf hq2) hP hD hS (lv_sub hl [1, 2, 0] rfl)
        · have hf := (if_pos c23).symm.trans hf
          refine lv_iconst (v := 1) hx hb dX11_firstMinute_18 (by decide) ?_
          refine lv_goto (tgt := 23) hx hb dX11_firstMinute_19 (by decide) ?_
          obtain ⟨M21, hiM21, eM21, hf⟩ := wr_b hf
          refine va_zast hx hb hK hP hD hS 10 1 rfl rfl hiM21 dX11_firstMinute_23 (fun H locs hP hD hS => ?_)
          have hP : va_P (dC, dI) vwCl (wM tI tZ h M21) H := by rw [eM21]; exact hP
          have hD : va_D A (wM tI tZ h M21) := by rw [eM21]; exact hD
          obtain ⟨x22, ex22, hf⟩ := bn hf
          refine lv_iinc (v := x22) (lv' := [(2, .int x22), (0, .ref (h 0)), (1, .int p0)]) hx hb dX11_firstMinute_24 hl (k := 2) rfl (by rw [ex22]; rfl) (by decide) rfl (fun ls hl => ?_)
          refine lv_goto (tgt := 2) hx hb dX11_firstMinute_27 (by decide) ?_
          exact ih2 x22 M21 _ _ _ (lp_l hf hq2) hP hD hS (lv_sub hl [1, 2, 0] rfl)
  exact L2 FU 0 M _ _ _ ez2 hP hD hS (lv_sub hl [1, 2, 0] rfl)

def j_X11_findLeast_16 (p0 : Int32) (M1 : MS) (k2 : Int32) : Option (Int32 × MS) :=
  Option.bind (some (va_up M1 15 (fun _ => k2))) (fun M3 => bi2 (f_X11_firstMinute M3 p0) (fun r4 M5 => Option.bind (some (va_up M5 16 (fun _ => r4))) (fun M6 => (if (M6 16 0) = (-1) then (some ((1000000, M6))) else (bi2 (f_X11_findHire M6 p0 (M6 16 0)) (fun r7 M8 => some ((r7, M8))))))))
def f_X11_findLeast (M : MS) (p0 : Int32) (p1 : Int32) : Option (Int32 × MS) :=
  Option.bind (f_X11_carryNothing M) (fun M1 => (if p1 = (-1) then (j_X11_findLeast_16 p0 M1 6) else (j_X11_findLeast_16 p0 M1 p1)))
def rmX11_findLeast : Room := { frames := 7, cells := 0, slots := 0, locals := 169 }
abbrev RRX11_findLeast : Room := (headSpec wsX11_findLeast rmX11_findLeast).room
theorem inX11_findLeast : ∀ w ∈ wsX110, w ∈ wsX11_findLeast := by decide +kernel
set_option maxHeartbeats 4000000 in
set_option maxRecDepth 100000 in
theorem c_X11_findLeast (l : Launch) (dC : Nat → ClassId) (dI : Nat → Nat → Nat) (tI tZ : ClassId) (h : Nat → Nat) (sz : Nat) (M : MS) (p0 : Int32) (p1 : Int32) (r : Int32) (M' : MS) (hf : f_X11_findLeast M p0 p1 = some (r, M')) : cMi l yX11_findLeast wsX11_findLeast rmX11_findLeast dC dI tI tZ h sz [.ref (h 0), .int p0, .int p1] M r M' := by
  refine Met.ofW (cc := cX11_findLeast) (maxL := 3) (ret := (some .int)) (by decide) rfl ?_
  intro p e s m args below meth c s₁ B hml hv
  obtain ⟨hargs, hsz, hP, hK, hD0⟩ := hv
  have hx := B.exec
  have hb := B.bytes
  have hr := B.returns
  have hts := atoms_spec (ws := wsX11_findLeast) B.pre
  have hown : s.vm.findClass RX11 = some m.cls := findClass_of_methodNamed B.named
  have hlocks := B.notSynchronized
  have hin := inX11_findLeast
  have hsz : s.heap.size = sz := hsz
  subst hsz
  have lk214 : Cond.fieldLink RX11 214 (TX11 15).1 (TX11 15).2.1 (TX11 15).2.2.1 ∈ wsX11_findLeast := by decide +kernel
  have lk238 : Cond.fieldLink RX11 238 (TX11 16).1 (TX11 16).2.1 (TX11 16).2.2.1 ∈ wsX11_findLeast := by decide +kernel
  have hD := hD0.self (sz := s.heap.size)
  generalize hAe : va_A (wM tI tZ h M) s.heap.size = A at hD ⊢
  have hA : ∀ q : Nat, s.heap.size ≤ q → A q := fun q h => by rw [← hAe]; exact Or.inr h
  have hS : va_S A s.heap s.heap [] := va_S.rf
  have hl := lv_entry ([.ref (h 0), .int p0, .int p1]) (n := 3) (Nat.le_of_ble_eq_true rfl)
  rw [show entryFrame m args 3 = entryFrame m ([.ref (h 0), .int p0, .int p1] : List Value).toArray 3 from by rw [hargs], lg_entry_eq]
  generalize (lg_sl ([.ref (h 0), .int p0, .int p1]) ++ List.replicate (3 - (lg_sl ([.ref (h 0), .int p0, .int p1])).length) Slot.unset).toArray = ls at hl ⊢
  have hl : lv_has ls 3 [(0, .ref (h 0)), (1, .int p0), (2, .int p1)] := hl
  unfold f_X11_findLeast at hf
  refine lv_aload_n hx hb dX11_findLeast_0 rfl (lv_at hl 0 rfl) ?_
  obtain ⟨M1, eM1, hf⟩ := bd hf
  refine klMv (rest := []) (As := []) ⟨hx, hb, hml, hown, hts⟩ (c_X11_carryNothing l dC dI tI tZ h s.heap.size M M1 eM1) (cwV 0 hts gX11_findLeast_X11_carryNothing rfl rfl rfl (by decide +kernel) ⟨Nat.le_of_ble_eq_true rfl, Nat.le_of_ble_eq_true rfl⟩) rfl hl.1 rfl (Nat.le_of_ble_eq_true rfl) dX11_findLeast_1 ⟨Nat.zero_le _, Nat.zero_le _⟩ hK hP hD hS hA (fun H locs hP hD hS => ?_)
  refine lv_aload_n hx hb dX11_findLeast_4 rfl (lv_at hl 0 rfl) ?_
  refine lv_iload_n hx hb dX11_findLeast_5 rfl (lv_at hl 2 rfl) ?_
  refine lv_iconst (v := (-1)) hx hb dX11_findLeast_6 (by decide) ?_
  have J16 : ∀ (k2 : Int32) (H : Heap) (locs : List Loc) (ls : Array Slot), j_X11_findLeast_16 p0 M1 k2 = some (r, M') → va_P (dC, dI) vwCl (wM tI tZ h M1) H → va_D A (wM tI tZ h M1) → va_S A s.heap H locs → lv_has ls 3 [(0, .ref (h 0)), (1, .int p0)] → W p l e RRX11_findLeast s m args below meth c H locs 0 0 (MQ below (qcMi dC dI tI tZ A h r M') args s 0 0 A) (F0 m 16 ls [.int k2, .ref (h 0)]) := by
    intro k2 H locs ls hf hP hD hS hl
    unfold j_X11_findLeast_16 at hf
    obtain ⟨M3, eM3, hf⟩ := bn hf
    refine puM (M1 := M3) hx hb hts hin hown hK hP hD hS 15 (by decide) lk214 rfl (by decide +kernel) (by rw [eM3]; rfl) dX11_findLeast_16 (fun H locs hP hD hS => ?_)
    refine lv_aload_n hx hb dX11_findLeast_19 rfl (lv_at hl 0 rfl) ?_
    refine lv_aload_n hx hb dX11_findLeast_20 rfl (lv_at hl 0 rfl) ?_
    refine lv_iload_n hx hb dX11_findLeast_21 rfl (lv_at hl 1 rfl) ?_
    obtain ⟨r4, M5, er4, hf⟩ := b2 hf
    refine klMi (rest := [.ref (h 0)]) (As := [.int p0]) ⟨hx, hb, hml, hown, hts⟩ (c_X11_firstMinute l dC dI tI tZ h H.size M3 p0 r4 M5 er4) (cwV 1 hts gX11_findLeast_X11_firstMinute rfl rfl rfl (by decide +kernel) ⟨Nat.le_of_ble_eq_true rfl, Nat.le_of_ble_eq_true rfl⟩) rfl hl.1 rfl (Nat.le_of_ble_eq_true rfl) dX11_findLeast_22 ⟨Nat.zero_le _, Nat.zero_le _⟩ hK hP hD hS hA (fun H locs hP hD hS => ?_)
    obtain ⟨M6, eM6, hf⟩ := bn hf
    refine puM (M1 := M6) hx hb hts hin hown hK hP hD hS 16 (by decide) lk238 rfl (by decide +kernel) (by rw [eM6]; rfl) dX11_findLeast_25 (fun H locs hP hD hS => ?_)
    refine lv_aload_n hx hb dX11_findLeast_28 rfl (lv_at hl 0 rfl) ?_
    refine geM hx hb hts hin hown hK hP 16 (by decide) lk238 rfl dX11_findLeast_29 ?_
    refine lv_iconst (v := (-1)) hx hb dX11_findLeast_32 (by decide) ?_
    refine lv_icmp_ne (tgt := 41) hx hb dX11_findLeast_33 (by decide) (fun c9 => ?_) (fun c9 => ?_)
    · have hf := (if_neg c9).symm.trans hf
      refine lv_aload_n hx hb dX11_findLeast_41 rfl (lv_at hl 0 rfl) ?_
      refine lv_iload_n hx hb dX11_findLeast_42 rfl (lv_at hl 1 rfl) ?_
      refine lv_aload_n hx hb dX11_findLeast_43 rfl (lv_at hl 0 rfl) ?_
      refine geM hx hb hts hin hown hK hP 16 (by decide) lk238 rfl dX11_findLeast_44 ?_
      obtain ⟨r7, M8, er7, hf⟩ := b2 hf
      refine klMi (rest := []) (As := [.int p0, .int (M6 16 0)]) ⟨hx, hb, hml, hown, hts⟩ (c_X11_findHire l dC dI tI tZ h H.size M6 p0 (M6 16 0) r7 M8 er7) (cwV 2 hts gX11_findLeast_X11_findHire rfl rfl rfl (by decide +kernel) ⟨Nat.le_of_ble_eq_true rfl, Nat.le_of_ble_eq_true rfl⟩) rfl hl.1 rfl (Nat.le_of_ble_eq_true rfl) dX11_findLeast_47 ⟨Nat.zero_le _, Nat.zero_le _⟩ hK hP hD hS hA (fun H locs hP hD hS => ?_)
      exact rtMi hx hb hr hlocks hK hP hD hS hf dX11_findLeast_50
    · have hf := (if_pos c9).symm.trans hf
      refine lv_ldc (v := 1000000) hx hb hown (hts (.constant RX11 220 (1000000)) (by decide +kernel)) dX11_findLeast_36 ?_
      refine lv_goto (tgt := 50) hx hb dX11_findLeast_38 (by decide) ?_
      exact rtMi hx hb hr hlocks hK hP hD hS hf dX11_findLeast_50
  refine lv_icmp_ne (tgt := 15) hx hb dX11_findLeast_7 (by decide) (fun c10 => ?_) (fun c10 => ?_)
  · have hf := (if_neg c10).symm.trans hf
    refine lv_iload_n hx hb dX11_findLeast_15 rfl (lv_at hl 2 rfl) ?_
    exact J16 p1 _ _ _ hf hP hD hS (lv_sub hl [0, 1] rfl)
  · have hf := (if_pos c10).symm.trans hf
    refine lv_bipush (v := 6) hx hb dX11_findLeast_10 (by decide) ?_
    refine lv_goto (tgt := 16) hx hb dX11_findLeast_12 (by decide) ?_
    exact J16 6 _ _ _ hf hP hD hS (lv_sub hl [0, 1] rfl)

def f_X11_isNext (M : MS) (p0 : Int32) (p1 : Int32) (p2 : Int32) : Option Int32 :=
  Option.bind (f_X11_mayCross M p0 p2 p1) (fun r1 => (if r1 = 0 then (some 0) else (Option.bind (f_X11_timeOfSet M p0) (fun r2 => Option.bind (some (p1 + r2)) (fun x3 => (if (M 16 0) < x3 then (some 0) else (Option.bind (f_X11_hireOf M p0) (fun r4 => Option.bind (f_X11_at x3 (p2 ^^^ p0)) (fun r5 => Option.bind (rdI 15424 (M 14) r5) (fun x6 => Option.bind (f_X11_at p1 p2) (fun r7 => Option.bind (rdI 15424 (M 14) r7) (fun x8 => (if (r4 + x6) = x8 then (some 1) else (some 0))))))))))))))
def rmX11_isNext : Room := { frames := 5, cells := 0, slots := 0, locals := 119 }
abbrev RRX11_isNext : Room := (headSpec wsX11_isNext rmX11_isNext).room
theorem inX11_isNext : ∀ w ∈ wsX110, w ∈ wsX11_isNext := by decide +kernel
set_option maxHeartbeats 4000000 in
set_option maxRecDepth 100000 in
theorem c_X11_isNext (l : Launch) (dC : Nat → ClassId) (dI : Nat → Nat → Nat) (tI tZ : ClassId) (h : Nat → Nat) (sz : Nat) (M : MS) (p0 : Int32) (p1 : Int32) (p2 : Int32) (r : Int32) (hf : f_X11_isNext M p0 p1 p2 = some r) : cMi l yX11_isNext wsX11_isNext rmX11_isNext dC dI tI tZ h sz [.ref (h 0), .int p0, .int p1, .int p2] M r M := by
  refine Met.ofW (cc := cX11_isNext) (maxL := 5) (ret := (some .boolean)) (by decide) rfl ?_
  intro p e s m args below meth c s₁ B hml hv
  obtain ⟨hargs, hsz, hP, hK, hD0⟩ := hv
  have hx := B.exec
  have hb := B.bytes
  have hr := B.returns
  have hts := atoms_spec (ws := wsX11_isNext) B.pre
  have hown : s.vm.findClass RX11 = some m.cls := findClass_of_methodNamed B.named
  have hlocks := B.notSynchronized
  have hin := inX11_isNext
  have hsz : s.heap.size = sz := hsz
  subst hsz
  have lk29 : Cond.fieldLink RX11 29 (TX11 14).1 (TX11 14).2.1 (TX11 14).2.2.1 ∈ wsX11_isNext := by decide +kernel
  have lk238 : Cond.fieldLink RX11 238 (TX11 16).1 (TX11 16).2.1 (TX11 16).2.2.1 ∈ wsX11_isNext := by decide +kernel
  have hD := hD0.self (sz := s.heap.size)
  generalize hAe : va_A (wM tI tZ h M) s.heap.size = A at hD ⊢
  have hA : ∀ q : Nat, s.heap.size ≤ q → A q := fun q h => by rw [← hAe]; exact Or.inr h
  have hS : va_S A s.heap s.heap [] := va_S.rf
  have hl := lv_entry ([.ref (h 0), .int p0, .int p1, .int p2]) (n := 5) (Nat.le_of_ble_eq_true rfl)
  rw [show entryFrame m args 5 = entryFrame m ([.ref (h 0), .int p0, .int p1, .int p2] : List Value).toArray 5 from by rw [hargs], lg_entry_eq]
  generalize (lg_sl ([.ref (h 0), .int p0, .int p1, .int p2]) ++ List.replicate (5 - (lg_sl ([.ref (h 0), .int p0, .int p1, .int p2])).length) Slot.unset).toArray = ls at hl ⊢
  have hl : lv_has ls 5 [(0, .ref (h 0)), (1, .int p0), (2, .int p1), (3, .int p2)] := hl
  unfold f_X11_isNext at hf
  refine lv_aload_n hx hb dX11_isNext_0 rfl (lv_at hl 0 rfl) ?_
  refine lv_iload_n hx hb dX11_isNext_1 rfl (lv_at hl 1 rfl) ?_
  refine lv_iload_n hx hb dX11_isNext_2 rfl (lv_at hl 3 rfl) ?_
  refine lv_iload_n hx hb dX11_isNext_3 rfl (lv_at hl 2 rfl) ?_
  obtain ⟨r1, er1, hf⟩ := bd hf
  refine klMi (rest := []) (As := [.int p0, .int p2, .int p1]) ⟨hx, hb, hml, hown, hts⟩ (c_X11_mayCross l dC dI tI tZ h s.heap.size M p0 p2 p1 r1 er1) (cwV 3 hts gX11_isNext_X11_mayCross rfl rfl rfl (by decide +kernel) ⟨Nat.le_of_ble_eq_true rfl, Nat.le_of_ble_eq_true rfl⟩) rfl hl.1 rfl (Nat.le_of_ble_eq_true rfl) dX11_isNext_4 ⟨Nat.zero_le _, Nat.zero_le _⟩ hK hP hD hS hA (fun H locs hP hD hS => ?_)
  refine lv_if_ne (tgt := 12) hx hb dX11_isNext_7 (by decide) (fun c11 => ?_) (fun c11 => ?_)
  · have hf := (if_neg c11).symm.trans hf
    refine lv_iload_n hx hb dX11_isNext_12 rfl (lv_at hl 2 rfl) ?_
    refine lv_aload_n hx hb dX11_isNext_13 rfl (lv_at hl 0 rfl) ?_
    refine lv_iload_n hx hb dX11_isNext_14 rfl (lv_at hl 1 rfl) ?_
    obtain ⟨r2, er2, hf⟩ := bd hf
    refine klMi (rest := [.int p1]) (As := [.int p0]) ⟨hx, hb, hml, hown, hts⟩ (c_X11_timeOfSet l dC dI tI tZ h H.size M p0 r2 er2) (cwV 1 hts gX11_isNext_X11_timeOfSet rfl rfl rfl (by decide +kernel) ⟨Nat.le_of_ble_eq_true rfl, Nat.le_of_ble_eq_true rfl⟩) rfl hl.1 rfl (Nat.le_of_ble_eq_true rfl) dX11_isNext_15 ⟨Nat.zero_le _, Nat.zero_le _⟩ hK hP hD hS hA (fun H locs hP hD hS => ?_)
    refine lv_iadd hx hb dX11_isNext_18 ?_
    refine lv_topi (fun x3 ex3 => ?_)
    have hf := bs ex3 hf
    refine lv_istore (lv' := [(4, .int x3), (0, .ref (h 0)), (1, .int p0), (2, .int p1), (3, .int p2)]) hx hb dX11_isNext_19 hl (by decide) rfl (fun ls hl => ?_)
    refine lv_iload hx hb dX11_isNext_21 (lv_at hl 0 rfl) ?_
    refine lv_aload_n hx hb dX11_isNext_23 rfl (lv_at hl 1 rfl) ?_
    refine geM hx hb hts hin hown hK hP 16 (by decide) lk238 rfl dX11_isNext_24 ?_
    refine lv_icmp_gt (tgt := 66) hx hb dX11_isNext_27 (by decide) (fun c10 => ?_) (fun c10 => ?_)
    · have hf := (if_pos c10).symm.trans hf
      refine lv_iconst (v := 0) hx hb dX11_isNext_66 (by decide) ?_
      exact rtMz hx hb hr hlocks hK hP hD hS rfl (congrArg (fun z => some (z, M)) (Option.some.inj hf)) dX11_isNext_67
    · have hf := (if_neg c10).symm.trans hf
      refine lv_aload_n hx hb dX11_isNext_30 rfl (lv_at hl 1 rfl) ?_
      refine lv_iload_n hx hb dX11_isNext_31 rfl (lv_at hl 2 rfl) ?_
      obtain ⟨r4, er4, hf⟩ := bd hf
      refine klMi (rest := []) (As := [.int p0]) ⟨hx, hb, hml, hown, hts⟩ (c_X11_hireOf l dC dI tI tZ h H.size M p0 r4 er4) (cwV 1 hts gX11_isNext_X11_hireOf rfl rfl rfl (by decide +kernel) ⟨Nat.le_of_ble_eq_true rfl, Nat.le_of_ble_eq_true rfl⟩) rfl hl.1 rfl (Nat.le_of_ble_eq_true rfl) dX11_isNext_32 ⟨Nat.zero_le _, Nat.zero_le _⟩ hK hP hD hS hA (fun H locs hP hD hS => ?_)
      refine lv_aload_n hx hb dX11_isNext_35 rfl (lv_at hl 1 rfl) ?_
      refine geM hx hb hts hin hown hK hP 14 (by decide) lk29 rfl dX11_isNext_36 ?_
      refine lv_iload hx hb dX11_isNext_39 (lv_at hl 0 rfl) ?_
      refine lv_iload_n hx hb dX11_isNext_41 rfl (lv_at hl 4 rfl) ?_
      refine lv_iload_n hx hb dX11_isNext_42 rfl (lv_at hl 2 rfl) ?_
      refine lv_ixor hx hb dX11_isNext_43 ?_
      obtain ⟨r5, er5, hf⟩ := bd hf
      refine klEi (rest := [.ref (h 15), .int r4]) (As := [.int x3, .int (p2 ^^^ p0)]) ⟨hx, hb, hml, hown, hts⟩ (c_X11_at l H.size x3 (p2 ^^^ p0) r5 er5) (va_cwS 2 hts gX11_isNext_X11_at rfl rfl rfl (by decide +kernel) ⟨Nat.le_of_ble_eq_true rfl, Nat.le_of_ble_eq_true rfl⟩) rfl hl.1 rfl (Nat.le_of_ble_eq_true rfl) dX11_isNext_44 ⟨Nat.zero_le _, Nat.zero_le _⟩ hS hA (fun H2 locs hk hS => ?_)
      have hP := kpP hP hk
      generalize H2 = H at hP hS ⊢
      obtain ⟨x6, hix6, ex6, hf⟩ := rd_b hf
      refine va_iald hx hb hK hP 7 0 rfl rfl hix6 dX11_isNext_47 (kI ex6 ?_)
      refine lv_iadd hx hb dX11_isNext_48 ?_
      refine lv_aload_n hx hb dX11_isNext_49 rfl (lv_at hl 1 rfl) ?_
      refine geM hx hb hts hin hown hK hP 14 (by decide) lk29 rfl dX11_isNext_50 ?_
      refine lv_iload_n hx hb dX11_isNext_53 rfl (lv_at hl 3 rfl) ?_
      refine lv_iload_n hx hb dX11_isNext_54 rfl (lv_at hl 4 rfl) ?_
      obtain ⟨r7, er7, hf⟩ := bd hf
      refine klEi (rest := [.ref (h 15), .int (r4 + x6)]) (As := [.int p1, .int p2]) ⟨hx, hb, hml, hown, hts⟩ (c_X11_at l H.size p1 p2 r7 er7) (va_cwS 2 hts gX11_isNext_X11_at rfl rfl rfl (by decide +kernel) ⟨Nat.le_of_ble_eq_true rfl, Nat.le_of_ble_eq_true rfl⟩) rfl hl.1 rfl (Nat.le_of_ble_eq_true rfl) dX11_isNext_55 ⟨Nat.zero_le _, Nat.zero_le _⟩ hS hA (fun H2 locs hk hS => ?_)
      have hP := kpP hP hk
      generalize H2 = H at hP hS ⊢
      obtain ⟨x8, hix8, ex8, hf⟩ := rd_b hf
      refine va_iald hx hb hK hP 7 0 rfl rfl hix8 dX11_isNext_58 (kI ex8 ?_)
      refine lv_icmp_ne (tgt := 66) hx hb dX11_isNext_59 (by decide) (fun c9 => ?_) (fun c9 => ?_)
      · have hf := (if_neg c9).symm.trans hf
        refine lv_iconst (v := 0) hx hb dX11_isNext_66 (by decide) ?_
        exact rtMz hx hb hr hlocks hK hP hD hS rfl (congrArg (fun z => some (z, M)) (Option.some.inj hf)) dX11_isNext_67
      · have hf := (if_pos c9).symm.trans hf
        refine lv_iconst (v := 1) hx hb dX11_isNext_62 (by decide) ?_
        refine lv_goto (tgt := 67) hx hb dX11_isNext_63 (by decide) ?_
        exact rtMz hx hb hr hlocks hK hP hD hS rfl (congrArg (fun z => some (z, M)) (Option.some.inj hf)) dX11_isNext_67
  · have hf := (if_pos c11).symm.trans hf
    refine lv_iconst (v := 0) hx hb dX11_isNext_10 (by decide) ?_
    exact rtMz hx hb hr hlocks hK hP hD hS rfl (congrArg (fun z => some (z, M)) (Option.some.inj hf)) dX11_isNext_11

def k_X11_layRow_9 (M2 : MS) : Option MS :=
  some M2
def k_X11_layRow_19 (y3 : Int32) (y4 : Int32) (M5 : MS) (y6 : Int32) : Option ((Int32 × Int32 × MS) ⊕ MS) :=
  Option.bind (f_X11_all M5) (fun r7 => (if y6 ≤ r7 then (Option.bind (wrM M5 18 240 (M5 17 0) y3) (fun M8 => Option.bind (wrM M8 19 240 (M8 17 0) y6) (fun M9 => Option.bind (some (va_up M9 17 (fun _ => (M9 17 0) + 1))) (fun M10 => Option.bind (f_X11_timeOfSet M10 y6) (fun r11 => Option.bind (some (y3 + r11)) (fun x12 => Option.bind (some (y4 ^^^ y6)) (fun x13 => some (Sum.inl (x12, x13, M10))))))))) else (Option.bind (some (y3 + 1)) (fun x14 => some (Sum.inl (x14, y4, M5))))))
def b_X11_layRow_19 (y3 : Int32) (y4 : Int32) (M5 : MS) (y16 : Int32) : Option (Int32 ⊕ Int32) :=
  Option.bind (f_X11_all M5) (fun r17 => (if r17 < y16 then (some (Sum.inr y16)) else (Option.bind (f_X11_isNext M5 y16 y3 y4) (fun r18 => (if r18 = 0 then (Option.bind (some (y16 + 1)) (fun x19 => some (Sum.inl x19))) else (some (Sum.inr y16)))))))
def b_X11_layRow_9 (y3 : Int32) (y4 : Int32) (M5 : MS) : Option ((Int32 × Int32 × MS) ⊕ MS) :=
  (if (M5 16 0) ≤ y3 then (some (Sum.inr M5)) else (Option.bind (lp (fun s => b_X11_layRow_19 y3 y4 M5 s) FU 1) (fun s => k_X11_layRow_19 y3 y4 M5 s)))
def f_X11_layRow (M : MS)  : Option MS :=
  Option.bind (some (va_up M 17 (fun _ => 0))) (fun M1 => Option.bind (lp (fun s => b_X11_layRow_9 s.1 s.2.1 s.2.2) FU (0, 0, M1)) (fun s => k_X11_layRow_9 s))
def rmX11_layRow : Room := { frames := 6, cells := 0, slots := 0, locals := 143 }
abbrev RRX11_layRow : Room := (headSpec wsX11_layRow rmX11_layRow).room
theorem inX11_layRow : ∀ w ∈ wsX110, w ∈ wsX11_layRow := by decide +kernel
set_option maxHeartbeats 4000000 in
set_option maxRecDepth 100000 in
theorem c_X11_layRow (l : Launch) (dC : Nat → ClassId) (dI : Nat → Nat → Nat) (tI tZ : ClassId) (h : Nat → Nat) (sz : Nat) (M : MS)  (M' : MS) (hf : f_X11_layRow M  = some M') : cMv l yX11_layRow wsX11_layRow rmX11_layRow dC dI tI tZ h sz [.ref (h 0)] M M' := by
  refine Met.ofW (cc := cX11_layRow) (maxL := 4) (ret := none) (by decide) rfl ?_
  intro p e s m args below meth c s₁ B hml hv
  obtain ⟨hargs, hsz, hP, hK, hD0⟩ := hv
  have hx := B.exec
  have hb := B.bytes
  have hr := B.returns
  have hts := atoms_spec (ws := wsX11_layRow) B.pre
  have hown : s.vm.findClass RX11 = some m.cls := findClass_of_methodNamed B.named
  have hlocks := B.notSynchronized
  have hin := inX11_layRow
  have hsz : s.heap.size = sz := hsz
  subst hsz
  have lk32 : Cond.fieldLink RX11 32 (TX11 18).1 (TX11 18).2.1 (TX11 18).2.2.1 ∈ wsX11_layRow := by decide +kernel
  have lk35 : Cond.fieldLink RX11 35 (TX11 19).1 (TX11 19).2.1 (TX11 19).2.2.1 ∈ wsX11_layRow := by decide +kernel
  have lk238 : Cond.fieldLink RX11 238 (TX11 16).1 (TX11 16).2.1 (TX11 16).2.2.1 ∈ wsX11_layRow := by decide +kernel
  have lk244 : Cond.fieldLink RX11 244 (TX11 17).1 (TX11 17).2.1 (TX11 17).2.2.1 ∈ wsX11_layRow := by decide +kernel
  have hD := hD0.self (sz := s.heap.size)
  generalize hAe : va_A (wM tI tZ h M) s.heap.size = A at hD ⊢
  have hA : ∀ q : Nat, s.heap.size ≤ q → A q := fun q h => by rw [← hAe]; exact Or.inr h
  have hS : va_S A s.heap s.heap [] := va_S.rf
  have hl := lv_entry ([.ref (h 0)]) (n := 4) (Nat.le_of_ble_eq_true rfl)
  rw [show entryFrame m args 4 = entryFrame m ([.ref (h 0)] : List Value).toArray 4 from by rw [hargs], lg_entry_eq]
  generalize (lg_sl ([.ref (h 0)]) ++ List.replicate (4 - (lg_sl ([.ref (h 0)])).length) Slot.unset).toArray = ls at hl ⊢
  have hl : lv_has ls 4 [(0, .ref (h 0))] := hl
  unfold f_X11_layRow at hf
  refine lv_aload_n hx hb dX11_layRow_0 rfl (lv_at hl 0 rfl) ?_
  refine lv_iconst (v := 0) hx hb dX11_layRow_1 (by decide) ?_
  obtain ⟨M1, eM1, hf⟩ := bn hf
  refine puM (M1 := M1) hx hb hts hin hown hK hP hD hS 17 (by decide) lk244 rfl (by decide +kernel) (by rw [eM1]; rfl) dX11_layRow_2 (fun H locs hP hD hS => ?_)
  refine lv_iconst (v := 0) hx hb dX11_layRow_5 (by decide) ?_
  refine lv_istore_n (lv' := [(1, .int 0), (0, .ref (h 0))]) hx hb dX11_layRow_6 rfl hl (by decide) rfl (fun ls hl => ?_)
  refine lv_iconst (v := 0) hx hb dX11_layRow_7 (by decide) ?_
  refine lv_istore_n (lv' := [(2, .int 0), (1, .int 0), (0, .ref (h 0))]) hx hb dX11_layRow_8 rfl hl (by decide) rfl (fun ls hl => ?_)
  have K9 : ∀ (M2 : MS) (H : Heap) (locs : List Loc) (ls : Array Slot), k_X11_layRow_9 M2 = some M' → va_P (dC, dI) vwCl (wM tI tZ h M2) H → va_D A (wM tI tZ h M2) → va_S A s.heap H locs → lv_has ls 4 [] → W p l e RRX11_layRow s m args below meth c H locs 0 0 (MQ below (qcMv dC dI tI tZ A h M') args s 0 0 A) (F0 m 102 ls []) := by
    intro M2 H locs ls hf hP hD hS hl
    unfold k_X11_layRow_9 at hf
    exact rtMv hx hb hr hlocks hK hP hD hS hf dX11_layRow_102
  obtain ⟨z9, ez9, hz9⟩ := bd hf
  have L9 : ∀ (n : Nat) (y3 : Int32) (y4 : Int32) (M5 : MS) (H : Heap) (locs : List Loc) (ls : Array Slot), lp (fun s => b_X11_layRow_9 s.1 s.2.1 s.2.2) n (y3, y4, M5) = some z9 → va_P (dC, dI) vwCl (wM tI tZ h M5) H → va_D A (wM tI tZ h M5) → va_S A s.heap H locs → lv_has ls 4 [(0, .ref (h 0)), (1, .int y3), (2, .int y4)] → W p l e RRX11_layRow s m args below meth c H locs 0 0 (MQ below (qcMv dC dI tI tZ A h M') args s 0 0 A) (F0 m 9 ls []) := by
    intro n
    induction n with
    | zero => intro y3 y4 M5 H locs ls hf; exact lp_z hf
    | succ n ih9 =>
      intro y3 y4 M5 H locs ls hf hP hD hS hl
      obtain ⟨q9, hf, hq9⟩ := lp_i hf
      have hf : b_X11_layRow_9 y3 y4 M5 = some q9 := hf
      unfold b_X11_layRow_9 at hf
      refine lv_iload_n hx hb dX11_layRow_9 rfl (lv_at hl 1 rfl) ?_
      refine lv_aload_n hx hb dX11_layRow_10 rfl (lv_at hl 0 rfl) ?_
      refine geM hx hb hts hin hown hK hP 16 (by decide) lk238 rfl dX11_layRow_11 ?_
      refine lv_icmp_ge (tgt := 102) hx hb dX11_layRow_14 (by decide) (fun c22 => ?_) (fun c22 => ?_)
      · have hf := (if_pos c22).symm.trans hf
        exact K9 M5 _ _ _ (lp_x (k := (fun s => k_X11_layRow_9 s)) (lp_r hf hq9) hz9) hP hD hS (lv_sub hl [] rfl)
      · have hf := (if_neg c22).symm.trans hf
        refine lv_iconst (v := 1) hx hb dX11_layRow_17 (by decide) ?_
        refine lv_istore_n (lv' := [(3, .int 1), (0, .ref (h 0)), (1, .int y3), (2, .int y4)]) hx hb dX11_layRow_18 rfl hl (by decide) rfl (fun ls hl => ?_)
        have K19 : ∀ (y6 : Int32) (H : Heap) (locs : List Loc) (ls : Array Slot), k_X11_layRow_19 y3 y4 M5 y6 = some q9 → va_P (dC, dI) vwCl (wM tI tZ h M5) H → va_D A (wM tI tZ h M5) → va_S A s.heap H locs → lv_has ls 4 [(0, .ref (h 0)), (1, .int y3), (2, .int y4), (3, .int y6)] → W p l e RRX11_layRow s m args below meth c H locs 0 0 (MQ below (qcMv dC dI tI tZ A h M') args s 0 0 A) (F0 m 43 ls []) := by
          intro y6 H locs ls hf hP hD hS hl
          unfold k_X11_layRow_19 at hf
          refine lv_iload_n hx hb dX11_layRow_43 rfl (lv_at hl 3 rfl) ?_
          refine lv_aload_n hx hb dX11_layRow_44 rfl (lv_at hl 0 rfl) ?_
          obtain ⟨r7, er7, hf⟩ := bd hf
          refine klMi (rest := [.int y6]) (As := []) ⟨hx, hb, hml, hown, hts⟩ (c_X11_all l dC dI tI tZ h H.size M5 r7 er7) (cwV 0 hts gX11_layRow_X11_all rfl rfl rfl (by decide +kernel) ⟨Nat.le_of_ble_eq_true rfl, Nat.le_of_ble_eq_true rfl⟩) rfl hl.1 rfl (Nat.le_of_ble_eq_true rfl) dX11_layRow_45 ⟨Nat.zero_le _, Nat.zero_le _⟩ hK hP hD hS hA (fun H locs hP hD hS => ?_)
          refine lv_icmp_le (tgt := 57) hx hb dX11_layRow_48 (by decide) (fun c15 => ?_) (fun c15 => ?_)
          · have hf := (if_pos c15).symm.trans hf
            refine lv_aload_n hx hb dX11_layRow_57 rfl (lv_at hl 0 rfl) ?_
            refine geM hx hb hts hin hown hK hP 18 (by decide) lk32 rfl dX11_layRow_58 ?_
            refine lv_aload_n hx hb dX11_layRow_61 rfl (lv_at hl 0 rfl) ?_
            refine geM hx hb hts hin hown hK hP 17 (by decide) lk244 rfl dX11_layRow_62 ?_
            refine lv_iload_n hx hb dX11_layRow_65 rfl (lv_at hl 1 rfl) ?_
            obtain ⟨M8, hiM8, eM8, hf⟩ := wr_b hf
            refine va_iast hx hb hK hP hD hS 8 0 rfl rfl hiM8 dX11_layRow_66 (fun H locs hP hD hS => ?_)
            have hP : va_P (dC, dI) vwCl (wM tI tZ h M8) H := by rw [eM8]; exact hP
            have hD : va_D A (wM tI tZ h M8) := by rw [eM8]; exact hD
            refine lv_aload_n hx hb dX11_layRow_67 rfl (lv_at hl 0 rfl) ?_
            refine geM hx hb hts hin hown hK hP 19 (by decide) lk35 rfl dX11_layRow_68 ?_
            refine lv_aload_n hx hb dX11_layRow_71 rfl (lv_at hl 0 rfl) ?_
            refine geM hx hb hts hin hown hK hP 17 (by decide) lk244 rfl dX11_layRow_72 ?_
            refine lv_iload_n hx hb dX11_layRow_75 rfl (lv_at hl 3 rfl) ?_
            obtain ⟨M9, hiM9, eM9, hf⟩ := wr_b hf
            refine va_iast hx hb hK hP hD hS 9 0 rfl rfl hiM9 dX11_layRow_76 (fun H locs hP hD hS => ?_)
            have hP : va_P (dC, dI) vwCl (wM tI tZ h M9) H := by rw [eM9]; exact hP
            have hD : va_D A (wM tI tZ h M9) := by rw [eM9]; exact hD
            refine lv_aload_n hx hb dX11_layRow_77 rfl (lv_at hl 0 rfl) ?_
            refine lv_dup hx hb dX11_layRow_78 rfl ?_
            refine geM hx hb hts hin hown hK hP 17 (by decide) lk244 rfl dX11_layRow_79 ?_
            refine lv_iconst (v := 1) hx hb dX11_layRow_82 (by decide) ?_
            refine lv_iadd hx hb dX11_layRow_83 ?_
            obtain ⟨M10, eM10, hf⟩ := bn hf
            refine puM (M1 := M10) hx hb hts hin hown hK hP hD hS 17 (by decide) lk244 rfl (by decide +kernel) (by rw [eM10]; rfl) dX11_layRow_84 (fun H locs hP hD hS => ?_)
            refine lv_iload_n hx hb dX11_layRow_87 rfl (lv_at hl 1 rfl) ?_
            refine lv_aload_n hx hb dX11_layRow_88 rfl (lv_at hl 0 rfl) ?_
            refine lv_iload_n hx hb dX11_layRow_89 rfl (lv_at hl 3 rfl) ?_
            obtain ⟨r11, er11, hf⟩ := bd hf
            refine klMi (rest := [.int y3]) (As := [.int y6]) ⟨hx, hb, hml, hown, hts⟩ (c_X11_timeOfSet l dC dI tI tZ h H.size M10 y6 r11 er11) (cwV 1 hts gX11_layRow_X11_timeOfSet rfl rfl rfl (by decide +kernel) ⟨Nat.le_of_ble_eq_true rfl, Nat.le_of_ble_eq_true rfl⟩) rfl hl.1 rfl (Nat.le_of_ble_eq_true rfl) dX11_layRow_90 ⟨Nat.zero_le _, Nat.zero_le _⟩ hK hP hD hS hA (fun H locs hP hD hS => ?_)
            refine lv_iadd hx hb dX11_layRow_93 ?_
            refine lv_topi (fun x12 ex12 => ?_)
            have hf := bs ex12 hf
            refine lv_istore_n (lv' := [(1, .int x12), (0, .ref (h 0)), (2, .int y4), (3, .int y6)]) hx hb dX11_layRow_94 rfl hl (by decide) rfl (fun ls hl => ?_)
            refine lv_iload_n hx hb dX11_layRow_95 rfl (lv_at hl 2 rfl) ?_
            refine lv_iload_n hx hb dX11_layRow_96 rfl (lv_at hl 3 rfl) ?_
            refine lv_ixor hx hb dX11_layRow_97 ?_
            refine lv_topi (fun x13 ex13 => ?_)
            have hf := bs ex13 hf
            refine lv_istore_n (lv' := [(2, .int x13), (1, .int x12), (0, .ref (h 0)), (3, .int y6)]) hx hb dX11_layRow_98 rfl hl (by decide) rfl (fun ls hl => ?_)
            refine lv_goto (tgt := 9) hx hb dX11_layRow_99 (by decide) ?_
            exact ih9 x12 x13 M10 _ _ _ (lp_l hf hq9) hP hD hS (lv_sub hl [2, 1, 0] rfl)
          · have hf := (if_neg c15).symm.trans hf
            obtain ⟨x14, ex14, hf⟩ := bn hf
            refine lv_iinc (v := x14) (lv' := [(1, .int x14), (0, .ref (h 0)), (2, .int y4), (3, .int y6)]) hx hb dX11_layRow_51 hl (k := 1) rfl (by rw [ex14]; rfl) (by decide) rfl (fun ls hl => ?_)
            refine lv_goto (tgt := 99) hx hb dX11_layRow_54 (by decide) ?_
            refine lv_goto (tgt := 9) hx hb dX11_layRow_99 (by decide) ?_
            exact ih9 x14 y4 M5 _ _ _ (lp_l hf hq9) hP hD hS (lv_sub hl [1, 0, 2] rfl)
        obtain ⟨z19, ez19, hz19⟩ := bd hf
        have L19 : ∀ (n : Nat) (y16 : Int32) (H : Heap) (locs : List Loc) (ls : Array Slot), lp (fun s => b_X11_layRow_19 y3 y4 M5 s) n y16 = some z19 → va_P (dC, dI) vwCl (wM tI tZ h M5) H → va_D A (wM tI tZ h M5) → va_S A s.heap H locs → lv_has ls 4 [(0, .ref (h 0)), (1, .int y3), (2, .int y4), (3, .int y16)] → W p l e RRX11_layRow s m args below meth c H locs 0 0 (MQ below (qcMv dC dI tI tZ A h M') args s 0 0 A) (F0 m 19 ls []) := by
          intro n
          induction n with
          | zero => intro y16 H locs ls hf; exact lp_z hf
          | succ n ih19 =>
            intro y16 H locs ls hf hP hD hS hl
            obtain ⟨q19, hf, hq19⟩ := lp_i hf
            have hf : b_X11_layRow_19 y3 y4 M5 y16 = some q19 := hf
            unfold b_X11_layRow_19 at hf
            refine lv_iload_n hx hb dX11_layRow_19 rfl (lv_at hl 3 rfl) ?_
            refine lv_aload_n hx hb dX11_layRow_20 rfl (lv_at hl 0 rfl) ?_
            obtain ⟨r17, er17, hf⟩ := bd hf
            refine klMi (rest := [.int y16]) (As := []) ⟨hx, hb, hml, hown, hts⟩ (c_X11_all l dC dI tI tZ h H.size M5 r17 er17) (cwV 0 hts gX11_layRow_X11_all rfl rfl rfl (by decide +kernel) ⟨Nat.le_of_ble_eq_true rfl, Nat.le_of_ble_eq_true rfl⟩) rfl hl.1 rfl (Nat.le_of_ble_eq_true rfl) dX11_layRow_21 ⟨Nat.zero_le _, Nat.zero_le _⟩ hK hP hD hS hA (fun H locs hP hD hS => ?_)
            refine lv_icmp_gt (tgt := 43) hx hb dX11_layRow_24 (by decide) (fun c21 => ?_) (fun c21 => ?_)
            · have hf := (if_pos c21).symm.trans hf
              exact K19 y16 _ _ _ (lp_x (k := (fun s => k_X11_layRow_19 y3 y4 M5 s)) (lp_r hf hq19) hz19) hP hD hS (lv_sub hl [0, 1, 2, 3] rfl)
            · have hf := (if_neg c21).symm.trans hf
              refine lv_aload_n hx hb dX11_layRow_27 rfl (lv_at hl 0 rfl) ?_
              refine lv_iload_n hx hb dX11_layRow_28 rfl (lv_at hl 3 rfl) ?_
              refine lv_iload_n hx hb dX11_layRow_29 rfl (lv_at hl 1 rfl) ?_
              refine lv_iload_n hx hb dX11_layRow_30 rfl (lv_at hl 2 rfl) ?_
              obtain ⟨r18, er18, hf⟩ := bd hf
              refine klMi (rest := []) (As := [.int y16, .int y3, .int y4]) ⟨hx, hb, hml, hown, hts⟩ (c_X11_isNext l dC dI tI tZ h H.size M5 y16 y3 y4 r18 er18) (cwV 3 hts gX11_layRow_X11_isNext rfl rfl rfl (by decide +kernel) ⟨Nat.le_of_ble_eq_true rfl, Nat.le_of_ble_eq_true rfl⟩) rfl hl.1 rfl (Nat.le_of_ble_eq_true rfl) dX11_layRow_31 ⟨Nat.zero_le _, Nat.zero_le _⟩ hK hP hD hS hA (fun H locs hP hD hS => ?_)
              refine lv_if_ne (tgt := 43) hx hb dX11_layRow_34 (by decide) (fun c20 => ?_) (fun c20 => ?_)
              · have hf := (if_neg c20).symm.trans hf
                exact K19 y16 _ _ _ (lp_x (k := (fun s => k_X11_layRow_19 y3 y4 M5 s)) (lp_r hf hq19) hz19) hP hD hS (lv_sub hl [0, 1, 2, 3] rfl)
              · have hf := (if_pos c20).symm.trans hf
                obtain ⟨x19, ex19, hf⟩ := bn hf
                refine lv_iinc (v := x19) (lv' := [(3, .int x19), (0, .ref (h 0)), (1, .int y3), (2, .int y4)]) hx hb dX11_layRow_37 hl (k := 3) rfl (by rw [ex19]; rfl) (by decide) rfl (fun ls hl => ?_)
                refine lv_goto (tgt := 19) hx hb dX11_layRow_40 (by decide) ?_
                exact ih19 x19 _ _ _ (lp_l hf hq19) hP hD hS (lv_sub hl [1, 2, 3, 0] rfl)
        exact L19 FU 1 _ _ _ ez19 hP hD hS (lv_sub hl [1, 2, 3, 0] rfl)
  exact L9 FU 0 0 M1 _ _ _ ez9 hP hD hS (lv_sub hl [2, 1, 0] rfl)

def f_X11_isBand (M : MS) (p0 : Int32) : Option Int32 :=
  Option.bind (f_X11_all M) (fun r1 => Option.bind (f_X11_in (Int32.toInt64 p0) 0 (Int32.toInt64 r1)) (fun r2 => Option.bind (zr r2) (fun z3 => some z3)))
def rmX11_isBand : Room := { frames := 2, cells := 0, slots := 0, locals := 40 }
abbrev RRX11_isBand : Room := (headSpec wsX11_isBand rmX11_isBand).room
theorem inX11_isBand : ∀ w ∈ wsX110, w ∈ wsX11_isBand := by decide +kernel
set_option maxHeartbeats 4000000 in
set_option maxRecDepth 100000 in
theorem c_X11_isBand (l : Launch) (dC : Nat → ClassId) (dI : Nat → Nat → Nat) (tI tZ : ClassId) (h : Nat → Nat) (sz : Nat) (M : MS) (p0 : Int32) (r : Int32) (hf : f_X11_isBand M p0 = some r) : cMi l yX11_isBand wsX11_isBand rmX11_isBand dC dI tI tZ h sz [.ref (h 0), .int p0] M r M := by
  refine Met.ofW (cc := cX11_isBand) (maxL := 2) (ret := (some .boolean)) (by decide) rfl ?_
  intro p e s m args below meth c s₁ B hml hv
  obtain ⟨hargs, hsz, hP, hK, hD0⟩ := hv
  have hx := B.exec
  have hb := B.bytes
  have hr := B.returns
  have hts := atoms_spec (ws := wsX11_isBand) B.pre
  have hown : s.vm.findClass RX11 = some m.cls := findClass_of_methodNamed B.named
  have hlocks := B.notSynchronized
  have hin := inX11_isBand
  have hsz : s.heap.size = sz := hsz
  subst hsz
  have hD := hD0.self (sz := s.heap.size)
  generalize hAe : va_A (wM tI tZ h M) s.heap.size = A at hD ⊢
  have hA : ∀ q : Nat, s.heap.size ≤ q → A q := fun q h => by rw [← hAe]; exact Or.inr h
  have hS : va_S A s.heap s.heap [] := va_S.rf
  have hl := lv_entry ([.ref (h 0), .int p0]) (n := 2) (Nat.le_of_ble_eq_true rfl)
  rw [show entryFrame m args 2 = entryFrame m ([.ref (h 0), .int p0] : List Value).toArray 2 from by rw [hargs], lg_entry_eq]
  generalize (lg_sl ([.ref (h 0), .int p0]) ++ List.replicate (2 - (lg_sl ([.ref (h 0), .int p0])).length) Slot.unset).toArray = ls at hl ⊢
  have hl : lv_has ls 2 [(0, .ref (h 0)), (1, .int p0)] := hl
  unfold f_X11_isBand at hf
  refine lv_iload_n hx hb dX11_isBand_0 rfl (lv_at hl 1 rfl) ?_
  refine lv_i2l hx hb dX11_isBand_1 rfl ?_
  refine lv_lconst (v := 0) hx hb dX11_isBand_2 (by decide) ?_
  refine lv_aload_n hx hb dX11_isBand_3 rfl (lv_at hl 0 rfl) ?_
  obtain ⟨r1, er1, hf⟩ := bd hf
  refine klMi (rest := [.long 0, .long (Int32.toInt64 p0)]) (As := []) ⟨hx, hb, hml, hown, hts⟩ (c_X11_all l dC dI tI tZ h s.heap.size M r1 er1) (cwV 0 hts gX11_isBand_X11_all rfl rfl rfl (by decide +kernel) ⟨Nat.le_of_ble_eq_true rfl, Nat.le_of_ble_eq_true rfl⟩) rfl hl.1 rfl (Nat.le_of_ble_eq_true rfl) dX11_isBand_4 ⟨Nat.zero_le _, Nat.zero_le _⟩ hK hP hD hS hA (fun H locs hP hD hS => ?_)
  refine lv_i2l hx hb dX11_isBand_7 rfl ?_
  obtain ⟨r2, er2, hf⟩ := bd hf
  refine klEi (rest := []) (As := [.long (Int32.toInt64 p0), .long 0, .long (Int32.toInt64 r1)]) ⟨hx, hb, hml, hown, hts⟩ (c_X11_in l H.size (Int32.toInt64 p0) 0 (Int32.toInt64 r1) r2 er2) (va_cwS 3 hts gX11_isBand_X11_in rfl rfl rfl (by decide +kernel) ⟨Nat.le_of_ble_eq_true rfl, Nat.le_of_ble_eq_true rfl⟩) rfl hl.1 rfl (Nat.le_of_ble_eq_true rfl) dX11_isBand_8 ⟨Nat.zero_le _, Nat.zero_le _⟩ hS hA (fun H2 locs hk hS => ?_)
  have hP := kpP hP hk
  generalize H2 = H at hP hS ⊢
  obtain ⟨hnz3, hf⟩ := zr_b hf
  exact rtMz hx hb hr hlocks hK hP hD hS hnz3 (congrArg (fun z => some (z, M)) (Option.some.inj hf)) dX11_isBand_11

def f_X11_least (M : MS) (p0 : Int32) (p1 : Int32) : Option (Int32 × MS) :=
  Option.bind (f_X11_isBand M p0) (fun r1 => (if r1 = 0 then (bi2 (f_X11_bad M (-2)) (fun r2 M3 => some ((r2, M3)))) else (Option.bind (f_X11_in (Int32.toInt64 p1) 0 2) (fun r4 => (if r4 = 0 then (bi2 (f_X11_bad M (-2)) (fun r11 M12 => some ((r11, M12)))) else (bi2 (f_X11_findLeast M p0 (-1)) (fun r5 M6 => (if (M6 16 0) = (-1) then (some (((-1), M6))) else (Option.bind (f_X11_layRow M6) (fun M7 => (if p1 = 0 then (some ((M7 16 0, M7))) else ((if p1 = 1 then (some ((r5, M7))) else (some ((M7 17 0, M7))))))))))))))))
def rmX11_least : Room := { frames := 8, cells := 0, slots := 0, locals := 191 }
abbrev RRX11_least : Room := (headSpec wsX11_least rmX11_least).room
theorem inX11_least : ∀ w ∈ wsX110, w ∈ wsX11_least := by decide +kernel
set_option maxHeartbeats 4000000 in
set_option maxRecDepth 100000 in
theorem c_X11_least (l : Launch) (dC : Nat → ClassId) (dI : Nat → Nat → Nat) (tI tZ : ClassId) (h : Nat → Nat) (sz : Nat) (M : MS) (p0 : Int32) (p1 : Int32) (r : Int32) (M' : MS) (hf : f_X11_least M p0 p1 = some (r, M')) : cMi l yX11_least wsX11_least rmX11_least dC dI tI tZ h sz [.ref (h 0), .int p0, .int p1] M r M' := by
  refine Met.ofW (cc := cX11_least) (maxL := 4) (ret := (some .int)) (by decide) rfl ?_
  intro p e s m args below meth c s₁ B hml hv
  obtain ⟨hargs, hsz, hP, hK, hD0⟩ := hv
  have hx := B.exec
  have hb := B.bytes
  have hr := B.returns
  have hts := atoms_spec (ws := wsX11_least) B.pre
  have hown : s.vm.findClass RX11 = some m.cls := findClass_of_methodNamed B.named
  have hlocks := B.notSynchronized
  have hin := inX11_least
  have hsz : s.heap.size = sz := hsz
  subst hsz
  have lk238 : Cond.fieldLink RX11 238 (TX11 16).1 (TX11 16).2.1 (TX11 16).2.2.1 ∈ wsX11_least := by decide +kernel
  have lk244 : Cond.fieldLink RX11 244 (TX11 17).1 (TX11 17).2.1 (TX11 17).2.2.1 ∈ wsX11_least := by decide +kernel
  have hD := hD0.self (sz := s.heap.size)
  generalize hAe : va_A (wM tI tZ h M) s.heap.size = A at hD ⊢
  have hA : ∀ q : Nat, s.heap.size ≤ q → A q := fun q h => by rw [← hAe]; exact Or.inr h
  have hS : va_S A s.heap s.heap [] := va_S.rf
  have hl := lv_entry ([.ref (h 0), .int p0, .int p1]) (n := 4) (Nat.le_of_ble_eq_true rfl)
  rw [show entryFrame m args 4 = entryFrame m ([.ref (h 0), .int p0, .int p1] : List Value).toArray 4 from by rw [hargs], lg_entry_eq]
  generalize (lg_sl ([.ref (h 0), .int p0, .int p1]) ++ List.replicate (4 - (lg_sl ([.ref (h 0), .int p0, .int p1])).length) Slot.unset).toArray = ls at hl ⊢
  have hl : lv_has ls 4 [(0, .ref (h 0)), (1, .int p0), (2, .int p1)] := hl
  unfold f_X11_least at hf
  refine lv_aload_n hx hb dX11_least_0 rfl (lv_at hl 0 rfl) ?_
  refine lv_iload_n hx hb dX11_least_1 rfl (lv_at hl 1 rfl) ?_
  obtain ⟨r1, er1, hf⟩ := bd hf
  refine klMi (rest := []) (As := [.int p0]) ⟨hx, hb, hml, hown, hts⟩ (c_X11_isBand l dC dI tI tZ h s.heap.size M p0 r1 er1) (cwV 1 hts gX11_least_X11_isBand rfl rfl rfl (by decide +kernel) ⟨Nat.le_of_ble_eq_true rfl, Nat.le_of_ble_eq_true rfl⟩) rfl hl.1 rfl (Nat.le_of_ble_eq_true rfl) dX11_least_2 ⟨Nat.zero_le _, Nat.zero_le _⟩ hK hP hD hS hA (fun H locs hP hD hS => ?_)
  refine lv_if_eq (tgt := 20) hx hb dX11_least_5 (by decide) (fun c14 => ?_) (fun c14 => ?_)
  · have hf := (if_pos c14).symm.trans hf
    refine lv_aload_n hx hb dX11_least_20 rfl (lv_at hl 0 rfl) ?_
    refine lv_bipush (v := (-2)) hx hb dX11_least_21 (by decide) ?_
    obtain ⟨r2, M3, er2, hf⟩ := b2 hf
    refine klMi (rest := []) (As := [.int (-2)]) ⟨hx, hb, hml, hown, hts⟩ (c_X11_bad l dC dI tI tZ h H.size M (-2) r2 M3 er2) (cwV 1 hts gX11_least_X11_bad rfl rfl rfl (by decide +kernel) ⟨Nat.le_of_ble_eq_true rfl, Nat.le_of_ble_eq_true rfl⟩) rfl hl.1 rfl (Nat.le_of_ble_eq_true rfl) dX11_least_23 ⟨Nat.zero_le _, Nat.zero_le _⟩ hK hP hD hS hA (fun H locs hP hD hS => ?_)
    exact rtMi hx hb hr hlocks hK hP hD hS hf dX11_least_26
  · have hf := (if_neg c14).symm.trans hf
    refine lv_iload_n hx hb dX11_least_8 rfl (lv_at hl 2 rfl) ?_
    refine lv_i2l hx hb dX11_least_9 rfl ?_
    refine lv_lconst (v := 0) hx hb dX11_least_10 (by decide) ?_
    refine lv_ldc2 (v := 2) hx hb hown (hts (.constantLong RX11 253 (2)) (by decide +kernel)) dX11_least_11 ?_
    obtain ⟨r4, er4, hf⟩ := bd hf
    refine klEi (rest := []) (As := [.long (Int32.toInt64 p1), .long 0, .long 2]) ⟨hx, hb, hml, hown, hts⟩ (c_X11_in l H.size (Int32.toInt64 p1) 0 2 r4 er4) (va_cwS 3 hts gX11_least_X11_in rfl rfl rfl (by decide +kernel) ⟨Nat.le_of_ble_eq_true rfl, Nat.le_of_ble_eq_true rfl⟩) rfl hl.1 rfl (Nat.le_of_ble_eq_true rfl) dX11_least_14 ⟨Nat.zero_le _, Nat.zero_le _⟩ hS hA (fun H2 locs hk hS => ?_)
    have hP := kpP hP hk
    generalize H2 = H at hP hS ⊢
    refine lv_if_ne (tgt := 27) hx hb dX11_least_17 (by decide) (fun c13 => ?_) (fun c13 => ?_)
    · have hf := (if_neg c13).symm.trans hf
      refine lv_aload_n hx hb dX11_least_27 rfl (lv_at hl 0 rfl) ?_
      refine lv_iload_n hx hb dX11_least_28 rfl (lv_at hl 1 rfl) ?_
      refine lv_iconst (v := (-1)) hx hb dX11_least_29 (by decide) ?_
      obtain ⟨r5, M6, er5, hf⟩ := b2 hf
      refine klMi (rest := []) (As := [.int p0, .int (-1)]) ⟨hx, hb, hml, hown, hts⟩ (c_X11_findLeast l dC dI tI tZ h H.size M p0 (-1) r5 M6 er5) (cwV 2 hts gX11_least_X11_findLeast rfl rfl rfl (by decide +kernel) ⟨Nat.le_of_ble_eq_true rfl, Nat.le_of_ble_eq_true rfl⟩) rfl hl.1 rfl (Nat.le_of_ble_eq_true rfl) dX11_least_30 ⟨Nat.zero_le _, Nat.zero_le _⟩ hK hP hD hS hA (fun H locs hP hD hS => ?_)
      refine lv_istore_n (lv' := [(3, .int r5), (0, .ref (h 0)), (1, .int p0), (2, .int p1)]) hx hb dX11_least_33 rfl hl (by decide) rfl (fun ls hl => ?_)
      refine lv_aload_n hx hb dX11_least_34 rfl (lv_at hl 1 rfl) ?_
      refine geM hx hb hts hin hown hK hP 16 (by decide) lk238 rfl dX11_least_35 ?_
      refine lv_iconst (v := (-1)) hx hb dX11_least_38 (by decide) ?_
      refine lv_icmp_ne (tgt := 44) hx hb dX11_least_39 (by decide) (fun c10 => ?_) (fun c10 => ?_)
      · have hf := (if_neg c10).symm.trans hf
        refine lv_aload_n hx hb dX11_least_44 rfl (lv_at hl 1 rfl) ?_
        obtain ⟨M7, eM7, hf⟩ := bd hf
        refine klMv (rest := []) (As := []) ⟨hx, hb, hml, hown, hts⟩ (c_X11_layRow l dC dI tI tZ h H.size M6 M7 eM7) (cwV 0 hts gX11_least_X11_layRow rfl rfl rfl (by decide +kernel) ⟨Nat.le_of_ble_eq_true rfl, Nat.le_of_ble_eq_true rfl⟩) rfl hl.1 rfl (Nat.le_of_ble_eq_true rfl) dX11_least_45 ⟨Nat.zero_le _, Nat.zero_le _⟩ hK hP hD hS hA (fun H locs hP hD hS => ?_)
        refine lv_iload_n hx hb dX11_least_48 rfl (lv_at hl 3 rfl) ?_
        refine lv_if_ne (tgt := 59) hx hb dX11_least_49 (by decide) (fun c9 => ?_) (fun c9 => ?_)
        · have hf := (if_neg c9).symm.trans hf
          refine lv_iload_n hx hb dX11_least_59 rfl (lv_at hl 3 rfl) ?_
          refine lv_iconst (v := 1) hx hb dX11_least_60 (by decide) ?_
          refine lv_icmp_ne (tgt := 68) hx hb dX11_least_61 (by decide) (fun c8 => ?_) (fun c8 => ?_)
          · have hf := (if_neg c8).symm.trans hf
            refine lv_aload_n hx hb dX11_least_68 rfl (lv_at hl 1 rfl) ?_
            refine geM hx hb hts hin hown hK hP 17 (by decide) lk244 rfl dX11_least_69 ?_
            exact rtMi hx hb hr hlocks hK hP hD hS hf dX11_least_72
          · have hf := (if_pos c8).symm.trans hf
            refine lv_iload_n hx hb dX11_least_64 rfl (lv_at hl 0 rfl) ?_
            refine lv_goto (tgt := 72) hx hb dX11_least_65 (by decide) ?_
            exact rtMi hx hb hr hlocks hK hP hD hS hf dX11_least_72
        · have hf := (if_pos c9).symm.trans hf
          refine lv_aload_n hx hb dX11_least_52 rfl (lv_at hl 1 rfl) ?_
          refine geM hx hb hts hin hown hK hP 16 (by decide) lk238 rfl dX11_least_53 ?_
          refine lv_goto (tgt := 72) hx hb dX11_least_56 (by decide) ?_
          exact rtMi hx hb hr hlocks hK hP hD hS hf dX11_least_72
      · have hf := (if_pos c10).symm.trans hf
        refine lv_iconst (v := (-1)) hx hb dX11_least_42 (by decide) ?_
        exact rtMi hx hb hr hlocks hK hP hD hS hf dX11_least_43
    · have hf := (if_pos c13).symm.trans hf
      refine lv_aload_n hx hb dX11_least_20 rfl (lv_at hl 0 rfl) ?_
      refine lv_bipush (v := (-2)) hx hb dX11_least_21 (by decide) ?_
      obtain ⟨r11, M12, er11, hf⟩ := b2 hf
      refine klMi (rest := []) (As := [.int (-2)]) ⟨hx, hb, hml, hown, hts⟩ (c_X11_bad l dC dI tI tZ h H.size M (-2) r11 M12 er11) (cwV 1 hts gX11_least_X11_bad rfl rfl rfl (by decide +kernel) ⟨Nat.le_of_ble_eq_true rfl, Nat.le_of_ble_eq_true rfl⟩) rfl hl.1 rfl (Nat.le_of_ble_eq_true rfl) dX11_least_23 ⟨Nat.zero_le _, Nat.zero_le _⟩ hK hP hD hS hA (fun H locs hP hD hS => ?_)
      exact rtMi hx hb hr hlocks hK hP hD hS hf dX11_least_26
