section KCP
variable {p : Program} {l : Launch} {e : Env} {R : Room} {s : State} {m : MethodId} {args : Array Value} {below : List Frame} {meth : Method} {c : Code} {H : Heap} {locs : List Loc} {cells slots : Nat} {Q : State → Prop} {pc : Nat} {ls : Array Slot} {rest : List Value} {D : va_G} {cl : List vw_C} {tys : List (ClassId × FieldType)} {ws : va_W} {A : Nat → Prop} {cc : ByteArray} {a : Nat}
theorem clampI (z : Int32) (hz : ¬ z < 0) : z.toInt = (z.toNatClampNeg : Int) := by
  have h1 := Int32.le_iff_toInt_le.mp (Int32.not_lt.mp hz)
  have h2 : (0 : Int32).toInt = 0 := rfl
  rw [h2] at h1
  show z.toInt = ((z.toInt.toNat : Nat) : Int)
  omega
/-- a static row of ints, given as it is at the start, copied into a row of ours -/
theorem cpSt (hexec : p.tables.exec = Jvm.exec) (hb : c.code = cc) (hml : c.maxLocals = ls.size) {own : String} {index : Nat} (hown : s.vm.findClass own = some m.cls) (hlink : (Cond.methodLink own index arraycopyName).before args s = true) (hnat : (Cond.native arraycopyName).before args s = true) (hstat : (Cond.static arraycopyName).before args s = true) (hini : (Cond.initialized "java/lang/System").before args s = true)
    (hK : va_K D cl tys s) (hP : va_P D cl ws H) (hD : va_D A ws) (hS : va_S A s.heap H locs) {b0 n0 : Nat} {f : Nat → Int32} (hX : va_T .int b0 n0 (fun j => .int (f j)) A s s.heap) (q1 t1 : Nat) {c1 : ClassId} {n1 : Nat} {g : Nat → Int32} (ha1 : ws[q1]? = some (a, .inl (c1, n1, .inl g))) (ht1 : tys[t1]? = some (c1, .int))
    {sp dp n : Int32} (h1 : ¬ sp < 0) (h2 : ¬ dp < 0) (h3 : ¬ n < 0) (h4 : sp.toNatClampNeg + n.toNatClampNeg ≤ n0) (h5 : dp.toNatClampNeg + n.toNatClampNeg ≤ n1)
    (hframes : 1 ≤ R.frames) (hlocals : (rest.map fun v => v.category).sum + (nativeFrameWords "java/lang/System" "arraycopy" 5 + 11) ≤ R.locals) (hdg : decode cc pc = .ok (.invokestatic index, 3))
    (kk : ∀ (H1 : Heap) (locs1 : List Loc), va_P D cl (ws.set q1 (a, .inl (c1, n1, .inl (va_cpy f g sp.toNatClampNeg dp.toNatClampNeg n.toNatClampNeg)))) H1 → va_D A (ws.set q1 (a, .inl (c1, n1, .inl (va_cpy f g sp.toNatClampNeg dp.toNatClampNeg n.toNatClampNeg)))) → va_S A s.heap H1 locs1 → W p l e R s m args below meth c H1 locs1 cells slots Q (F0 m (pc + 3) ls rest)) : W p l e R s m args below meth c H locs cells slots Q (F0 m pc ls (.int n :: .int dp :: .ref a :: .int sp :: .ref b0 :: rest)) := by
  obtain ⟨scr, hs1, ⟨hs6, k0, hk0, cm0, hkk0⟩, hs3, hs4, -, hs5, hs7⟩ := hX
  have hc0 : H[b0]? = some scr := by rw [hS.2.1 b0 (Array.getElem?_eq_some_iff.mp hs1).1 hs7]; exact hs1
  have hc1 : H[a]? = some (vp_cell c1 (n1, .inl g)) := hP q1 _ ha1
  have hl : a < H.size := (Array.getElem?_eq_some_iff.mp hc1).1
  obtain ⟨-, k1, hk1, cm1, hkk1⟩ := (hK.2 t1 _ ht1).1 n1 (fun j => .int (g j))
  have el : ∀ i, i < n.toNatClampNeg → scr.slots.getD (sp.toNatClampNeg + i) .null = .int (f (sp.toNatClampNeg + i)) := fun i hi => by
    rw [Array.getD_eq_getD_getElem?, hs5 _ (by omega)]
    rfl
  have e1 : copied scr (vp_cell c1 (n1, .inl g)) sp dp n = vp_cell c1 (n1, .inl (va_cpy f g sp.toNatClampNeg dp.toNatClampNeg n.toNatClampNeg)) := va_copiedX (fun z => .int z) scr c1 f g hs5 h4
  intro T hT X
  obtain ⟨vm', X', step⟩ := X.arraycopy hexec hown hlink hnat hstat hini (src := b0) (dst := a) (cs := scr) (cd := vp_cell c1 (n1, .inl g)) (srcPos := sp) (destPos := dp) (n := n) (by rw [hT]; exact hc0) (by rw [hT]; exact hc1)
    hs6 (fun _ h => by cases h) hs3 (fun h => by cases h) hk0 hk1 hkk0 hkk1 (by simp [refKind]) h1 h2 h3
    (by rw [clampI sp h1, clampI n h3]; omega)
    (by rw [clampI dp h2, clampI n h3]; show ¬ _ > ((arrV c1 n1 (fun j => .int (g j))).slots.size : Int); rw [arrV_size]; omega)
    (fun vm₁ _ i hi => by rw [el i hi]; exact ⟨rfl, trivial⟩)
    (g := F0 m pc ls (.int n :: .int dp :: .ref a :: .int sp :: .ref b0 :: rest)) rfl (by rw [hml]) (rest := rest) rfl (by rw [hb]; exact hdg) hframes (by show 2 * 0 + _ + _ ≤ _; omega)
  rw [e1] at X' step
  generalize hvc : vp_cell c1 (n1, .inl (va_cpy f g sp.toNatClampNeg dp.toNatClampNeg n.toNatClampNeg)) = vc at X' step
  have hheap : ((T.setVm vm').setCell a vc).heap = H.setIfInBounds a vc := by rw [← hT]; rfl
  have oq : ∀ q : Nat, q ≠ a → (H.setIfInBounds a vc)[q]? = H[q]? := fun q hq => by simp [Array.getElem?_setIfInBounds, Ne.symm hq]
  have hat : (H.setIfInBounds a vc)[a]? = some (vp_cell c1 (n1, .inl (va_cpy f g sp.toNatClampNeg dp.toNatClampNeg n.toNatClampNeg))) := by
    rw [hvc]
    simp [Array.getElem?_setIfInBounds, hl]
  have hSn : ∀ L : List Loc, (∀ q ∈ L, q.base = a) → va_S A s.heap (H.setIfInBounds a vc) (locs ++ L) := fun L hL => ⟨by simp; exact hS.1, fun q g1 g2 => by
      rw [oq q (fun e => g2 (by rw [e]; exact hD.2 q1 _ ha1))]
      exact hS.2.1 q g1 g2, fun q hq => by
      rcases List.mem_append.mp hq with h | h
      · exact hS.2.2 q h
      · rw [hL q h]
        exact hD.2 q1 _ ha1⟩
  obtain ⟨U, a1, b1⟩ := kk _ _ (hP.set hD ha1 hat oq) (hD.set ha1) (hSn _ (fun q hq => by
      obtain ⟨z, -, hz⟩ := List.mem_map.mp hq
      rw [← hz])) _ hheap X'
  exact ⟨U, step _ a1, b1⟩
end KCP
section KCV
variable {p : Program} {l : Launch} {e : Env} {R : Room} {s : State} {m : MethodId} {args : Array Value} {below : List Frame} {meth : Method} {c : Code} {H : Heap} {locs : List Loc} {cells slots : Nat} {Q : State → Prop} {pc : Nat} {ls : Array Slot} {rest : List Value} {dC : Nat → ClassId} {dI : Nat → Nat → Nat} {t : Nat → ClassId} {ts aK aV : Nat → Nat} {A : Nat → Prop} {h : Nat → Nat} {tx tx' tx1 : Nat} {S S' S1 : CS} {cc : ByteArray} {Ts : List Cond} {own : String} {nL : Nat} {g : Nat → Nat → Option Nat} {LP : List Nat} {pf : Nat → va_E}
theorem klCsv {y : MethodName} {ws : List Cond} {rm : Room} {bytes : ByteArray} {maxL index n : Nat} {ret : Option FieldType} {As st : List Value} (F : CallFix p m c cc nL s args Ts own) (hM : cCv l y ws rm dC dI t ts aK aV A h tx tx' H.size As S S') (cw : CallB R s args own index y bytes maxL ret ws rm rm.cells rm.slots n ∧ (Cond.static y).before args s = true) (hn : As.length = n) (hsize : ls.size = nL) (hst : st = As.reverse ++ rest) (hW : (rest.map fun v => v.category).sum ≤ 8) (hdg : decode cc pc = .ok (.invokestatic index, 3)) (hf : cells + rm.cells ≤ R.cells ∧ slots + rm.slots ≤ R.slots) (hE : enC ts aK aV A s s.heap) (hK : va_K (dC, dI) vwCl (tyC t) s) (hC : hwC dC dI t A h tx S H) (hS : va_S A s.heap H locs)
    (kk : ∀ (H1 : Heap) (locs1 : List Loc), hwC dC dI t A h tx' S' H1 → va_S A s.heap H1 locs1 → W p l e R s m args below meth c H1 locs1 (cells + rm.cells) (slots + rm.slots) Q (F0 m (pc + 3) ls rest)) : W p l e R s m args below meth c H locs cells slots Q (F0 m pc ls st) := by
  refine va_callv (va_runS (As := As) (rest := rest) F hM cw ⟨preC_blind, fun U hU hW => ⟨rfl, congrArg Array.size hU, hE.go hS hU hW (fun _ h => h), by rw [hU]; exact hC, va_K.moved hW.alike hK⟩⟩ rfl hn hsize hst (lv_room hW) hdg hf) hS (fun q _ h => h) (fun q h => h) (fun u U H1 locs ht hvm hw hB hz1 hk1 hS => ?_)
  have hB : hwC dC dI t A h tx' S' U.heap := hB
  rw [ht] at hB
  exact kk H1 locs hB hS
end KCV
def cr (v : Int32) : Option Int32 := if vp_nar .char v = v then some v else none
theorem cr_b {β : Type} {v : Int32} {k : Int32 → Option β} {r : β} (h : (cr v).bind k = some r) : narrow .char (.int v) = .int v ∧ k v = some r := by
  unfold cr at h
  by_cases hc : vp_nar .char v = v
  · rw [if_pos hc] at h
    exact ⟨(show narrow .char (.int v) = .int (vp_nar .char v) from rfl).trans (congrArg Value.int hc), h⟩
  · rw [if_neg hc] at h
    cases h
def qcEv (A : Nat → Prop) : Array Value → State → Outcome → State → Prop := va_Qv (fun (_ : Unit) => True) (fun _ _ => True) A
def cXv (l : Launch) (y : MethodName) (ws : List Cond) (rm : Room) (sz : Nat) (av : List Value) (X : State → Prop) : Prop := Met l y ws rm (va_Pc av (fun U => U.heap.size = sz ∧ X U)) (qcEv (fun q => sz ≤ q)) 0 0 (fun q => sz ≤ q)
section KCW
variable {p : Program} {l : Launch} {e : Env} {R : Room} {s : State} {m : MethodId} {args : Array Value} {below : List Frame} {meth : Method} {c : Code} {H : Heap} {locs : List Loc} {cells slots : Nat} {Q : State → Prop} {pc : Nat} {ls : Array Slot} {rest : List Value} {dC : Nat → ClassId} {dI : Nat → Nat → Nat} {t : Nat → ClassId} {ts aK aV : Nat → Nat} {A : Nat → Prop} {h : Nat → Nat} {tx tx' tx1 : Nat} {S S' S1 : CS} {cc : ByteArray} {Ts : List Cond} {own : String} {nL : Nat} {g : Nat → Nat → Option Nat} {LP : List Nat} {pf : Nat → va_E}
theorem rtEv (hx : p.tables.exec = Jvm.exec) (hb : c.code = cc) (hr : meth.sig.returnType = none) (hlocks : meth.locks = false) (hS : va_S A s.heap H locs) (hdg : decode cc pc = .ok (.return_, 1)) : W p l e R s m args below meth c H locs cells slots (MQ below (qcEv A) args s cells slots A) (F0 m pc ls []) :=
  W.vret hx hb hr (fun t ht hW => ⟨⟨(), rfl, trivial, trivial⟩, hS.F ht⟩) hS.2.2 hdg
theorem klXv {y : MethodName} {ws : List Cond} {rm : Room} {bytes : ByteArray} {maxL index n : Nat} {ret : Option FieldType} {As st : List Value} {X : State → Prop} (F : CallFix p m c cc nL s args Ts own) (hM : cXv l y ws rm H.size As X) (hXb : ∀ (a : Array Value) (U : State) (g : JFrame) (mk : MethodId), X U → X (U.calling g mk a)) (hX : ∀ U : State, U.heap = H → s.WarmedH U.vm → X U) (cw : CallB R s args own index y bytes maxL ret ws rm 0 0 n ∧ (Cond.static y).before args s = true) (hn : As.length = n) (hsize : ls.size = nL) (hst : st = As.reverse ++ rest) (hW : (rest.map fun v => v.category).sum ≤ 8) (hdg : decode cc pc = .ok (.invokestatic index, 3)) (hf : cells + 0 ≤ R.cells ∧ slots + 0 ≤ R.slots) (hS : va_S A s.heap H locs) (hA : ∀ q : Nat, s.heap.size ≤ q → A q)
    (kk : ∀ (H1 : Heap) (locs1 : List Loc), (∀ q : Nat, q < H.size → H1[q]? = H[q]?) → va_S A s.heap H1 locs1 → W p l e R s m args below meth c H1 locs1 cells slots Q (F0 m (pc + 3) ls rest)) : W p l e R s m args below meth c H locs cells slots Q (F0 m pc ls st) := by
  have hFc : ∀ q : Nat, H.size ≤ q → A q := fun q hq => hA q (Nat.le_trans hS.1 hq)
  refine va_callv (va_runS (As := As) (rest := rest) F hM cw ⟨fun a U g mk q => ⟨q.1, q.2.1, hXb a U g mk q.2.2⟩, fun U hU hW => ⟨rfl, congrArg Array.size hU, hX U hU hW⟩⟩ rfl hn hsize hst (lv_room hW) hdg hf) hS (fun q _ h => hFc q h) hFc (fun u t H1 locs ht hvm hw hB hz1 hk1 hS => ?_)
  exact kk H1 locs (fun q hq => hk1 q hq (Nat.not_le.mpr hq)) hS
end KCW
