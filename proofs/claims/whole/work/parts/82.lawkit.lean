
theorem va_Pl {D : va_G} {cl : List vw_C} {w1 w2 : va_W} {H : Heap} (h : va_P D cl (w1 ++ w2) H) : va_P D cl w1 H := fun k q hk => h k q (by rw [List.getElem?_append_left (List.getElem?_eq_some_iff.mp hk).1]; exact hk)
theorem va_Pr {D : va_G} {cl : List vw_C} {w1 w2 : va_W} {H : Heap} (h : va_P D cl (w1 ++ w2) H) : va_P D cl w2 H := fun k q hk => h (w1.length + k) q (by rw [List.getElem?_append_right (by omega), Nat.add_sub_cancel_left]; exact hk)
theorem va_Dl {A : Nat → Prop} {w1 w2 : va_W} (h : va_D A (w1 ++ w2)) : va_D A w1 := ⟨fun i j p q hp hq e => h.1 i j p q (by rw [List.getElem?_append_left (List.getElem?_eq_some_iff.mp hp).1]; exact hp) (by rw [List.getElem?_append_left (List.getElem?_eq_some_iff.mp hq).1]; exact hq) e, fun k q hk => h.2 k q (by rw [List.getElem?_append_left (List.getElem?_eq_some_iff.mp hk).1]; exact hk)⟩
theorem va_Dr {A : Nat → Prop} {w1 w2 : va_W} (h : va_D A (w1 ++ w2)) : va_D A w2 := ⟨fun i j p q hp hq e => by
    have := h.1 (w1.length + i) (w1.length + j) p q (by rw [List.getElem?_append_right (by omega), Nat.add_sub_cancel_left]; exact hp) (by rw [List.getElem?_append_right (by omega), Nat.add_sub_cancel_left]; exact hq) e
    omega, fun k q hk => h.2 (w1.length + k) q (by rw [List.getElem?_append_right (by omega), Nat.add_sub_cancel_left]; exact hk)⟩
theorem va_Dx {A : Nat → Prop} {w1 w2 : va_W} (h : va_D A (w1 ++ w2)) {i j : Nat} {p q : Nat × va_E} (hp : w1[i]? = some p) (hq : w2[j]? = some q) : p.1 ≠ q.1 := fun e => by
  have h1 := (List.getElem?_eq_some_iff.mp hp).1
  have := h.1 i (w1.length + j) p q (by rw [List.getElem?_append_left h1]; exact hp) (by rw [List.getElem?_append_right (by omega), Nat.add_sub_cancel_left]; exact hq) e
  omega
def tyL (t : Nat → ClassId) (tI tZ : ClassId) : List (ClassId × FieldType) := tyC t ++ tyM tI tZ
def lwC (dC : Nat → ClassId) (dI : Nat → Nat → Nat) (t : Nat → ClassId) (tI tZ : ClassId) (A : Nat → Prop) (h h' : Nat → Nat) (S : CS) (M : MS) (H : Heap) : Prop := ∃ (tx : Nat) (g : Nat → Nat → Option Nat) (LP : List Nat) (pf : Nat → va_E), va_P (dC, dI) vwCl ((wC t h tx g S ++ va_pl LP pf) ++ wM tI tZ h' M) H ∧ va_D A ((wC t h tx g S ++ va_pl LP pf) ++ wM tI tZ h' M) ∧ rlC g LP pf S
/-- behind a call that wrote to the first part alone, the second stands -/
theorem lw_front {D : va_G} {cl : List vw_C} {A : Nat → Prop} {w1 w1' w2 : va_W} {H H1 : Heap} (hP : va_P D cl (w1 ++ w2) H) (hD : va_D A (w1 ++ w2)) (hF : ∀ q, va_A w1 H.size q → A q) (hk : ∀ q : Nat, q < H.size → ¬ va_A w1 H.size q → H1[q]? = H[q]?) (hP1 : va_P D cl w1' H1) (hD1 : va_D (va_A w1 H.size) w1') : va_P D cl (w1' ++ w2) H1 ∧ va_D A (w1' ++ w2) := by
  have hno : ∀ (j : Nat) (q : Nat × va_E), w2[j]? = some q → ¬ va_A w1 H.size q.1 := by
    intro j q hq h
    rcases h with ⟨k, e, h⟩ | h
    · exact va_Dx hD h hq rfl
    · exact absurd (va_at.lt (va_Pr hP j q hq)) (Nat.not_lt.mpr h)
  refine ⟨va_P.app hP1 ((va_Pr hP).kept (fun j q hq => hk q.1 (va_at.lt (va_Pr hP j q hq)) (hno j q hq))), va_D.app (hD1.weaken (fun _ _ _ h => hF _ h)) (va_Dr hD) (fun i j p q hp hq e => ?_)⟩
  exact hno j q hq (e ▸ hD1.2 i p hp)
theorem lw_back {D : va_G} {cl : List vw_C} {A : Nat → Prop} {w1 w2 w2' : va_W} {H H1 : Heap} (hP : va_P D cl (w1 ++ w2) H) (hD : va_D A (w1 ++ w2)) (hF : ∀ q, va_A w2 H.size q → A q) (hk : ∀ q : Nat, q < H.size → ¬ va_A w2 H.size q → H1[q]? = H[q]?) (hP1 : va_P D cl w2' H1) (hD1 : va_D (va_A w2 H.size) w2') : va_P D cl (w1 ++ w2') H1 ∧ va_D A (w1 ++ w2') := by
  have hno : ∀ (j : Nat) (q : Nat × va_E), w1[j]? = some q → ¬ va_A w2 H.size q.1 := by
    intro j q hq h
    rcases h with ⟨k, e, h⟩ | h
    · exact va_Dx hD hq h rfl
    · exact absurd (va_at.lt (va_Pl hP j q hq)) (Nat.not_lt.mpr h)
  refine ⟨va_P.app ((va_Pl hP).kept (fun j q hq => hk q.1 (va_at.lt (va_Pl hP j q hq)) (hno j q hq))) hP1, va_D.app (va_Dl hD) (hD1.weaken (fun _ _ _ h => hF _ h)) (fun i j p q hp hq e => ?_)⟩
  exact hno i p hp (e ▸ hD1.2 j q hq)
section KL
variable {p : Program} {l : Launch} {e : Env} {R : Room} {s : State} {m : MethodId} {args : Array Value} {below : List Frame} {meth : Method} {c : Code} {H : Heap} {locs : List Loc} {cells slots : Nat} {Q : State → Prop} {pc : Nat} {ls : Array Slot} {rest : List Value} {dC : Nat → ClassId} {dI : Nat → Nat → Nat} {t : Nat → ClassId} {tI tZ : ClassId} {ts aK aV : Nat → Nat} {A : Nat → Prop} {h h' : Nat → Nat} {S S' : CS} {M M' : MS} {cc : ByteArray} {Ts : List Cond} {own : String} {nL : Nat}

theorem lwci {y : MethodName} {ws : List Cond} {rm : Room} {bytes : ByteArray} {maxL index n : Nat} {ret : Option FieldType} {As st : List Value} {r : Int32} (F : CallFix p m c cc nL s args Ts own) (hM : ∀ (A' : Nat → Prop) (tx : Nat), (∀ q : Nat, H.size ≤ q → A' q) → ∃ tx', cCi l y ws rm dC dI t ts aK aV A' h tx tx' H.size (.ref (h 0) :: As) S r S') (cw : CallW R s args own RX10 index y bytes maxL ret ws rm rm.cells rm.slots n) (hn : As.length = n) (hsize : ls.size = nL) (hst : st = As.reverse ++ .ref (h 0) :: rest) (hW : (rest.map fun v => v.category).sum ≤ 8) (hdg : decode cc pc = .ok (.invokevirtual index, 3)) (hf : cells + rm.cells ≤ R.cells ∧ slots + rm.slots ≤ R.slots) (hE : enC ts aK aV A s s.heap) (hK : va_K (dC, dI) vwCl (tyL t tI tZ) s) (hC : lwC dC dI t tI tZ A h h' S M H) (hS : va_S A s.heap H locs) (hA : ∀ q : Nat, s.heap.size ≤ q → A q)
    (kk : ∀ (H1 : Heap) (locs1 : List Loc), lwC dC dI t tI tZ A h h' S' M H1 → va_S A s.heap H1 locs1 → W p l e R s m args below meth c H1 locs1 (cells + rm.cells) (slots + rm.slots) Q (F0 m (pc + 3) ls (.int r :: rest))) : W p l e R s m args below meth c H locs cells slots Q (F0 m pc ls st) := by
  obtain ⟨tx, g, LP, pf, hP, hD, hG⟩ := hC
  have hF : ∀ q, va_A (wC t h tx g S ++ va_pl LP pf) H.size q → A q := fun q hq => hq.elim (fun h9 => by obtain ⟨k, e9, h9⟩ := h9; exact (va_Dl hD).2 k _ h9) (fun h9 => hA q (Nat.le_trans hS.1 h9))
  obtain ⟨tx', hM⟩ := hM (va_A (wC t h tx g S ++ va_pl LP pf) H.size) tx (fun q hq => Or.inr hq)
  have hKc : va_K (dC, dI) vwCl (tyC t) s := hK.sub [0, 1, 2, 3, 4] rfl
  refine va_calli (va_runV (As := As) (rest := rest) F hM cw ⟨preC_blind, va_recv hKc (va_Pl hP) (ci := 10) (q0 := 0) rfl rfl, fun U hU hW => ⟨rfl, congrArg Array.size hU, hE.go hS hU hW hF, by rw [hU]; exact ⟨g, LP, pf, va_Pl hP, (va_Dl hD).self, hG⟩, va_K.moved hW.alike hKc⟩⟩ rfl hn hsize hst (lv_room hW) hdg hf) hS (fun q _ h9 => hF q h9) hF (fun r_2 u U H1 locs ht hvm hw hB hz1 hk1 hS => ?_)
  have hw : r_2 = r := hw
  subst hw
  have hB : hwC dC dI t (va_A (wC t h tx g S ++ va_pl LP pf) H.size) h tx' S' U.heap := hB
  rw [ht] at hB
  obtain ⟨g1, LP1, pf1, hP1, hD1, hG1⟩ := hB
  obtain ⟨hP, hD⟩ := lw_front hP hD hF hk1 hP1 hD1
  exact kk H1 locs ⟨tx', g1, LP1, pf1, hP, hD, hG1⟩ hS

theorem lwcl {y : MethodName} {ws : List Cond} {rm : Room} {bytes : ByteArray} {maxL index n : Nat} {ret : Option FieldType} {As st : List Value} {r : Int64} (F : CallFix p m c cc nL s args Ts own) (hM : ∀ (A' : Nat → Prop) (tx : Nat), (∀ q : Nat, H.size ≤ q → A' q) → ∃ tx', cCl l y ws rm dC dI t ts aK aV A' h tx tx' H.size (.ref (h 0) :: As) S r S') (cw : CallW R s args own RX10 index y bytes maxL ret ws rm rm.cells rm.slots n) (hn : As.length = n) (hsize : ls.size = nL) (hst : st = As.reverse ++ .ref (h 0) :: rest) (hW : (rest.map fun v => v.category).sum ≤ 8) (hdg : decode cc pc = .ok (.invokevirtual index, 3)) (hf : cells + rm.cells ≤ R.cells ∧ slots + rm.slots ≤ R.slots) (hE : enC ts aK aV A s s.heap) (hK : va_K (dC, dI) vwCl (tyL t tI tZ) s) (hC : lwC dC dI t tI tZ A h h' S M H) (hS : va_S A s.heap H locs) (hA : ∀ q : Nat, s.heap.size ≤ q → A q)
    (kk : ∀ (H1 : Heap) (locs1 : List Loc), lwC dC dI t tI tZ A h h' S' M H1 → va_S A s.heap H1 locs1 → W p l e R s m args below meth c H1 locs1 (cells + rm.cells) (slots + rm.slots) Q (F0 m (pc + 3) ls (.long r :: rest))) : W p l e R s m args below meth c H locs cells slots Q (F0 m pc ls st) := by
  obtain ⟨tx, g, LP, pf, hP, hD, hG⟩ := hC
  have hF : ∀ q, va_A (wC t h tx g S ++ va_pl LP pf) H.size q → A q := fun q hq => hq.elim (fun h9 => by obtain ⟨k, e9, h9⟩ := h9; exact (va_Dl hD).2 k _ h9) (fun h9 => hA q (Nat.le_trans hS.1 h9))
  obtain ⟨tx', hM⟩ := hM (va_A (wC t h tx g S ++ va_pl LP pf) H.size) tx (fun q hq => Or.inr hq)
  have hKc : va_K (dC, dI) vwCl (tyC t) s := hK.sub [0, 1, 2, 3, 4] rfl
  refine va_calll (va_runV (As := As) (rest := rest) F hM cw ⟨preC_blind, va_recv hKc (va_Pl hP) (ci := 10) (q0 := 0) rfl rfl, fun U hU hW => ⟨rfl, congrArg Array.size hU, hE.go hS hU hW hF, by rw [hU]; exact ⟨g, LP, pf, va_Pl hP, (va_Dl hD).self, hG⟩, va_K.moved hW.alike hKc⟩⟩ rfl hn hsize hst (lv_room hW) hdg hf) hS (fun q _ h9 => hF q h9) hF (fun r_2 u U H1 locs ht hvm hw hB hz1 hk1 hS => ?_)
  have hw : r_2 = r := hw
  subst hw
  have hB : hwC dC dI t (va_A (wC t h tx g S ++ va_pl LP pf) H.size) h tx' S' U.heap := hB
  rw [ht] at hB
  obtain ⟨g1, LP1, pf1, hP1, hD1, hG1⟩ := hB
  obtain ⟨hP, hD⟩ := lw_front hP hD hF hk1 hP1 hD1
  exact kk H1 locs ⟨tx', g1, LP1, pf1, hP, hD, hG1⟩ hS

theorem lwmi {y : MethodName} {ws : List Cond} {rm : Room} {bytes : ByteArray} {maxL index n : Nat} {ret : Option FieldType} {As st : List Value} {r : Int32} (F : CallFix p m c cc nL s args Ts own) (hM : cMi l y ws rm dC dI tI tZ h' H.size (.ref (h' 0) :: As) M r M') (cw : CallW R s args own RX11 index y bytes maxL ret ws rm 0 0 n) (hn : As.length = n) (hsize : ls.size = nL) (hst : st = As.reverse ++ .ref (h' 0) :: rest) (hW : (rest.map fun v => v.category).sum ≤ 8) (hdg : decode cc pc = .ok (.invokevirtual index, 3)) (hf : cells + 0 ≤ R.cells ∧ slots + 0 ≤ R.slots) (hK : va_K (dC, dI) vwCl (tyL t tI tZ) s) (hC : lwC dC dI t tI tZ A h h' S M H) (hS : va_S A s.heap H locs) (hA : ∀ q : Nat, s.heap.size ≤ q → A q)
    (kk : ∀ (H1 : Heap) (locs1 : List Loc), lwC dC dI t tI tZ A h h' S M' H1 → va_S A s.heap H1 locs1 → W p l e R s m args below meth c H1 locs1 cells slots Q (F0 m (pc + 3) ls (.int r :: rest))) : W p l e R s m args below meth c H locs cells slots Q (F0 m pc ls st) := by
  obtain ⟨tx, g, LP, pf, hP, hD, hG⟩ := hC
  have hF : ∀ q, va_A (wM tI tZ h' M) H.size q → A q := fun q hq => hq.elim (fun h9 => by obtain ⟨k, e9, h9⟩ := h9; exact (va_Dr hD).2 k _ h9) (fun h9 => hA q (Nat.le_trans hS.1 h9))
  have hKc : va_K (dC, dI) vwCl (tyM tI tZ) s := hK.sub [5, 6] rfl
  refine va_calli (va_runV (As := As) (rest := rest) F hM cw ⟨fun a U g mk q => ?_, va_recv hKc (va_Pr hP) (ci := 11) (q0 := 0) rfl rfl, fun U hU hW => ⟨rfl, congrArg Array.size hU, by rw [hU]; exact va_Pr hP, va_K.moved hW.alike hKc, (va_Dr hD).weaken (fun _ _ _ _ => trivial)⟩⟩ rfl hn hsize hst (lv_room hW) hdg hf) hS (fun q _ h9 => hF q h9) hF (fun r_2 u U H1 locs ht hvm hw hB hz1 hk1 hS => ?_)
  · obtain ⟨q0, q1, qP, qK, qD⟩ := q
    exact ⟨q0, q1, qP, va_K.moved (u := U) (U := U.calling g mk a) (Vm.Alike.refl U.vm) qK, qD⟩
  · have hw : r_2 = r := hw
    subst hw
    obtain ⟨hP1, hK1, hD1⟩ := hB
    rw [ht] at hP1
    obtain ⟨hP, hD⟩ := lw_back hP hD hF hk1 hP1 hD1
    exact kk H1 locs ⟨tx, g, LP, pf, hP, hD, hG⟩ hS

theorem lwml {y : MethodName} {ws : List Cond} {rm : Room} {bytes : ByteArray} {maxL index n : Nat} {ret : Option FieldType} {As st : List Value} {r : Int64} (F : CallFix p m c cc nL s args Ts own) (hM : cMl l y ws rm dC dI tI tZ h' H.size (.ref (h' 0) :: As) M r M') (cw : CallW R s args own RX11 index y bytes maxL ret ws rm 0 0 n) (hn : As.length = n) (hsize : ls.size = nL) (hst : st = As.reverse ++ .ref (h' 0) :: rest) (hW : (rest.map fun v => v.category).sum ≤ 8) (hdg : decode cc pc = .ok (.invokevirtual index, 3)) (hf : cells + 0 ≤ R.cells ∧ slots + 0 ≤ R.slots) (hK : va_K (dC, dI) vwCl (tyL t tI tZ) s) (hC : lwC dC dI t tI tZ A h h' S M H) (hS : va_S A s.heap H locs) (hA : ∀ q : Nat, s.heap.size ≤ q → A q)
    (kk : ∀ (H1 : Heap) (locs1 : List Loc), lwC dC dI t tI tZ A h h' S M' H1 → va_S A s.heap H1 locs1 → W p l e R s m args below meth c H1 locs1 cells slots Q (F0 m (pc + 3) ls (.long r :: rest))) : W p l e R s m args below meth c H locs cells slots Q (F0 m pc ls st) := by
  obtain ⟨tx, g, LP, pf, hP, hD, hG⟩ := hC
  have hF : ∀ q, va_A (wM tI tZ h' M) H.size q → A q := fun q hq => hq.elim (fun h9 => by obtain ⟨k, e9, h9⟩ := h9; exact (va_Dr hD).2 k _ h9) (fun h9 => hA q (Nat.le_trans hS.1 h9))
  have hKc : va_K (dC, dI) vwCl (tyM tI tZ) s := hK.sub [5, 6] rfl
  refine va_calll (va_runV (As := As) (rest := rest) F hM cw ⟨fun a U g mk q => ?_, va_recv hKc (va_Pr hP) (ci := 11) (q0 := 0) rfl rfl, fun U hU hW => ⟨rfl, congrArg Array.size hU, by rw [hU]; exact va_Pr hP, va_K.moved hW.alike hKc, (va_Dr hD).weaken (fun _ _ _ _ => trivial)⟩⟩ rfl hn hsize hst (lv_room hW) hdg hf) hS (fun q _ h9 => hF q h9) hF (fun r_2 u U H1 locs ht hvm hw hB hz1 hk1 hS => ?_)
  · obtain ⟨q0, q1, qP, qK, qD⟩ := q
    exact ⟨q0, q1, qP, va_K.moved (u := U) (U := U.calling g mk a) (Vm.Alike.refl U.vm) qK, qD⟩
  · have hw : r_2 = r := hw
    subst hw
    obtain ⟨hP1, hK1, hD1⟩ := hB
    rw [ht] at hP1
    obtain ⟨hP, hD⟩ := lw_back hP hD hF hk1 hP1 hD1
    exact kk H1 locs ⟨tx, g, LP, pf, hP, hD, hG⟩ hS

end KL
