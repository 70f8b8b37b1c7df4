
def aoC (U : State) : Prop := va_AO "OnlyTwo$Camp" U ∧ va_AO "OnlyTwo$Plain" U
theorem aoC.moved {s U : State} (hvm : s.vm.Alike U.vm) (h : aoC s) : aoC U := ⟨va_AO.moved hvm h.1, va_AO.moved hvm h.2⟩
theorem kEqI {D : va_G} {cl : List vw_C} {tys : List (ClassId × FieldType)} {U : State} {c1 c2 : ClassId} (hK : va_K D cl tys U) (i j : Nat) (h1 : tys[i]? = some (c1, .int)) (h2 : tys[j]? = some (c2, .int)) : c2 = c1 := Option.some.inj ((hK.2 j _ h2).2.symm.trans (hK.2 i _ h1).2)
theorem kEqZ {D : va_G} {cl : List vw_C} {tys : List (ClassId × FieldType)} {U : State} {c1 c2 : ClassId} (hK : va_K D cl tys U) (i j : Nat) (h1 : tys[i]? = some (c1, .boolean)) (h2 : tys[j]? = some (c2, .boolean)) : c2 = c1 := Option.some.inj ((hK.2 j _ h2).2.symm.trans (hK.2 i _ h1).2)
theorem kEqJ {D : va_G} {cl : List vw_C} {tys : List (ClassId × FieldType)} {U : State} {c1 c2 : ClassId} (hK : va_K D cl tys U) (i j : Nat) (h1 : tys[i]? = some (c1, .long)) (h2 : tys[j]? = some (c2, .long)) : c2 = c1 := Option.some.inj ((hK.2 j _ h2).2.symm.trans (hK.2 i _ h1).2)
theorem kEqO {D : va_G} {cl : List vw_C} {tys : List (ClassId × FieldType)} {U : State} {c1 c2 : ClassId} {C : String} (hK : va_K D cl tys U) (i j : Nat) (h1 : tys[i]? = some (c1, .object C)) (h2 : tys[j]? = some (c2, .object C)) : c2 = c1 := by
  obtain ⟨k1, m1, a1, a2, a3, a4⟩ := (hK.2 i _ h1).2
  obtain ⟨k2, m2, b1, b2, b3, b4⟩ := (hK.2 j _ h2).2
  exact Option.some.inj (b4.symm.trans a4)
def qcN (A : Nat → Prop) (B : State → Prop) : Array Value → State → Outcome → State → Prop := va_Qv (fun (_ : Unit) => True) (fun _ U => B U) A
def cN (l : Launch) (y : MethodName) (ws : List Cond) (rm : Room) (dC : Nat → ClassId) (dI : Nat → Nat → Nat) (ts aK aV : Nat → Nat) (sz : Nat) (ci a : Nat) (fs : List Value) (B : (Nat → Prop) → State → Prop) : Prop := Met l y ws rm (va_Pc [.ref a] (fun U => U.heap.size = sz ∧ enC ts aK aV (fun q => q = a ∨ sz ≤ q) U U.heap ∧ aoC U ∧ va_P (dC, dI) vwCl [(a, .inr (ci, fs))] U.heap ∧ va_K (dC, dI) vwCl [] U)) (qcN (fun q => q = a ∨ sz ≤ q) (B (fun q => q = a ∨ sz ≤ q))) rm.cells rm.slots (fun q => q = a ∨ sz ≤ q)
theorem va_D1 {A : Nat → Prop} {a : Nat} {e : va_E} (hA : A a) : va_D A [(a, e)] := ⟨fun i j x y hx hy _ => by
    have h1 := (List.getElem?_eq_some_iff.mp hx).1
    have h2 := (List.getElem?_eq_some_iff.mp hy).1
    simp at h1 h2
    omega, fun k x hx => by
    have h1 := (List.getElem?_eq_some_iff.mp hx).1
    simp at h1
    subst h1
    cases hx
    exact hA⟩
section KN
variable {p : Program} {l : Launch} {e : Env} {R : Room} {s : State} {m : MethodId} {args : Array Value} {below : List Frame} {meth : Method} {c : Code} {H : Heap} {locs : List Loc} {cells slots : Nat} {Q : State → Prop} {pc : Nat} {ls : Array Slot} {rest : List Value} {dC : Nat → ClassId} {dI : Nat → Nat → Nat} {ts aK aV : Nat → Nat} {A : Nat → Prop} {cc : ByteArray} {Ts : List Cond} {own : String} {nL : Nat} {B : (Nat → Prop) → State → Prop} {ws : va_W} {tys : List (ClassId × FieldType)}
theorem rtN {B : State → Prop} (hx : p.tables.exec = Jvm.exec) (hb : c.code = cc) (hr : meth.sig.returnType = none) (hlocks : meth.locks = false) (hB : ∀ U : State, U.heap = H → s.WarmedH U.vm → B U) (hS : va_S A s.heap H locs) (hdg : decode cc pc = .ok (.return_, 1)) : W p l e R s m args below meth c H locs cells slots (MQ below (qcN A B) args s cells slots A) (F0 m pc ls []) :=
  W.vret hx hb hr (fun U ht hW => ⟨⟨(), rfl, trivial, hB U ht hW⟩, hS.F ht⟩) hS.2.2 hdg
/-- a constructor's call: the new object's cell goes in, its whole comes back, the rest stays -/
theorem klN {y : MethodName} {wy : List Cond} {rm : Room} {bytes : ByteArray} {maxL index ci a q0 : Nat} {st : List Value} {fs : List Value} (F : CallFix p m c cc nL s args Ts own) (hM : cN l y wy rm dC dI ts aK aV H.size ci a fs B) (cw : CallB R s args own index y bytes maxL none wy rm rm.cells rm.slots 0 ∧ y.name = "<init>" ∧ (Cond.instanceMethod y).before args s = true) (hsize : ls.size = nL) (hst : st = .ref a :: rest) (hW : (rest.map fun v => v.category).sum ≤ 8) (hdg : decode cc pc = .ok (.invokespecial index, 3)) (hf : cells + rm.cells ≤ R.cells ∧ slots + rm.slots ≤ R.slots) (hE : enC ts aK aV A s s.heap) (hO : aoC s) (hK : va_K (dC, dI) vwCl tys s) (hP : va_P (dC, dI) vwCl ws H) (hD : va_D A ws) (hq : ws[q0]? = some (a, .inr (ci, fs))) (hS : va_S A s.heap H locs) (hA : ∀ q : Nat, s.heap.size ≤ q → A q)
    (kk : ∀ (U : State) (H1 : Heap) (locs1 : List Loc), U.heap = H1 → s.vm.Alike U.vm → B (fun q => q = a ∨ H.size ≤ q) U → (∀ q : Nat, q < H.size → ¬ (q = a ∨ H.size ≤ q) → H1[q]? = H[q]?) → (∀ q : Nat, (q = a ∨ H.size ≤ q) → A q) → va_S A s.heap H1 locs1 → W p l e R s m args below meth c H1 locs1 (cells + rm.cells) (slots + rm.slots) Q (F0 m (pc + 3) ls rest)) : W p l e R s m args below meth c H locs cells slots Q (F0 m pc ls st) := by
  have hAa : A a := hD.2 q0 _ hq
  have hFc : ∀ q : Nat, (q = a ∨ H.size ≤ q) → A q := fun q hq => hq.elim (fun e => e ▸ hAa) (fun h => hA q (Nat.le_trans hS.1 h))
  have hP1 : va_P (dC, dI) vwCl [(a, .inr (ci, fs))] H := hP.by (fun _ => q0) (fun i x hx => by match i, hx with | 0, hx => cases hx; exact hq)
  refine va_callv (va_runI (As := []) (rest := rest) F hM cw ⟨fun x U g mk q => ⟨q.1, q.2.1, q.2.2.1.blind, q.2.2.2.1.moved (Vm.Alike.refl U.vm), q.2.2.2.2.1, va_K.moved (u := U) (U := U.calling g mk x) (Vm.Alike.refl U.vm) q.2.2.2.2.2⟩, fun U hU hW => ⟨rfl, congrArg Array.size hU, hE.go hS hU hW hFc, hO.moved hW.alike, by rw [hU]; exact hP1, va_K.moved hW.alike (hK.sub [] rfl)⟩⟩ rfl rfl hsize hst (lv_room hW) hdg hf) hS (fun q _ h => hFc q h) hFc (fun u U H1 locs ht hvm hw hB hz1 hk1 hS => ?_)
  exact kk U H1 locs ht hvm hB hk1 hFc hS
theorem klNN {y : MethodName} {wy : List Cond} {rm : Room} {bytes : ByteArray} {maxL index ci a q0 : Nat} {host : String} {st : List Value} {fs : List Value} (F : CallFix p m c cc nL s args Ts own) (hM : cN l y wy rm dC dI ts aK aV H.size ci a fs B) (cw : va_CN R s args own index y host bytes maxL none wy rm rm.cells rm.slots 0 ∧ y.name = "<init>" ∧ (Cond.instanceMethod y).before args s = true) (hsize : ls.size = nL) (hst : st = .ref a :: rest) (hW : (rest.map fun v => v.category).sum ≤ 8) (hdg : decode cc pc = .ok (.invokespecial index, 3)) (hf : cells + rm.cells ≤ R.cells ∧ slots + rm.slots ≤ R.slots) (hE : enC ts aK aV A s s.heap) (hO : aoC s) (hK : va_K (dC, dI) vwCl tys s) (hP : va_P (dC, dI) vwCl ws H) (hD : va_D A ws) (hq : ws[q0]? = some (a, .inr (ci, fs))) (hS : va_S A s.heap H locs) (hA : ∀ q : Nat, s.heap.size ≤ q → A q)
    (kk : ∀ (U : State) (H1 : Heap) (locs1 : List Loc), U.heap = H1 → s.vm.Alike U.vm → B (fun q => q = a ∨ H.size ≤ q) U → (∀ q : Nat, q < H.size → ¬ (q = a ∨ H.size ≤ q) → H1[q]? = H[q]?) → (∀ q : Nat, (q = a ∨ H.size ≤ q) → A q) → va_S A s.heap H1 locs1 → W p l e R s m args below meth c H1 locs1 (cells + rm.cells) (slots + rm.slots) Q (F0 m (pc + 3) ls rest)) : W p l e R s m args below meth c H locs cells slots Q (F0 m pc ls st) := by
  have hAa : A a := hD.2 q0 _ hq
  have hFc : ∀ q : Nat, (q = a ∨ H.size ≤ q) → A q := fun q hq => hq.elim (fun e => e ▸ hAa) (fun h => hA q (Nat.le_trans hS.1 h))
  have hP1 : va_P (dC, dI) vwCl [(a, .inr (ci, fs))] H := hP.by (fun _ => q0) (fun i x hx => by match i, hx with | 0, hx => cases hx; exact hq)
  refine va_callv (va_runIN (As := []) (rest := rest) F hM cw ⟨fun x U g mk q => ⟨q.1, q.2.1, q.2.2.1.blind, q.2.2.2.1.moved (Vm.Alike.refl U.vm), q.2.2.2.2.1, va_K.moved (u := U) (U := U.calling g mk x) (Vm.Alike.refl U.vm) q.2.2.2.2.2⟩, fun U hU hW => ⟨rfl, congrArg Array.size hU, hE.go hS hU hW hFc, hO.moved hW.alike, by rw [hU]; exact hP1, va_K.moved hW.alike (hK.sub [] rfl)⟩⟩ rfl rfl hsize hst (lv_room hW) hdg hf) hS (fun q _ h => hFc q h) hFc (fun u U H1 locs ht hvm hw hB hz1 hk1 hS => ?_)
  exact kk U H1 locs ht hvm hB hk1 hFc hS
/-- as va_join, for the cells of a constructor's call -/
theorem jnN {D : va_G} {cl : List vw_C} {w wr w1 : va_W} {H1 : Heap} {a q0 : Nat} {e0 : va_E} (hP : va_P D cl w H) (hD : va_D A w) (hq : w[q0]? = some (a, e0)) (isR : List Nat) (hR : isR.map (fun i => w[i]?) = wr.map some) (hn : va_nd isR = true) (hdis : ∀ i ∈ isR, i ∉ [q0]) (hk : ∀ q : Nat, q < H.size → ¬ (q = a ∨ H.size ≤ q) → H1[q]? = H[q]?) (hF : ∀ q : Nat, (q = a ∨ H.size ≤ q) → A q) (hP1 : va_P D cl w1 H1) (hD1 : va_D (fun q => q = a ∨ H.size ≤ q) w1) : va_P D cl (wr ++ w1) H1 ∧ va_D A (wr ++ w1) := by
  have hEq : ∀ q : Nat, va_A [(a, e0)] H.size q ↔ (q = a ∨ H.size ≤ q) := by
    intro q
    constructor
    · intro h
      rcases h with ⟨k, e, h⟩ | h
      · have h1 := (List.getElem?_eq_some_iff.mp h).1
        simp at h1
        subst h1
        cases h
        exact Or.inl rfl
      · exact Or.inr h
    · intro h
      rcases h with h | h
      · subst h
        exact Or.inl ⟨0, e0, rfl⟩
      · exact Or.inr h
  exact va_join (wc := [(a, e0)]) hP hD [q0] isR (by simp [hq]) hR hn hdis (fun q h1 h2 => hk q h1 (fun h => h2 ((hEq q).mpr h))) (fun q h => hF q ((hEq q).mp h)) hP1 (hD1.weaken (fun _ _ _ h => (hEq _).mpr h))
end KN

