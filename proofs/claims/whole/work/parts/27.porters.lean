
theorem va_D_fst {A : Nat → Prop} {ws ws' : va_W} (h : ws'.map (fun x => x.1) = ws.map (fun x => x.1)) (hD : va_D A ws) : va_D A ws' := by
  have hg : ∀ (k : Nat) (x : Nat × va_E), ws'[k]? = some x → ∃ y, ws[k]? = some y ∧ y.1 = x.1 := by
    intro k x hx
    have h1 : (ws'.map (fun x => x.1))[k]? = some x.1 := by rw [List.getElem?_map, hx]; rfl
    rw [h, List.getElem?_map] at h1
    cases hy : ws[k]? with
    | none => rw [hy] at h1; cases h1
    | some y => rw [hy] at h1; exact ⟨y, rfl, Option.some.inj h1⟩
  refine ⟨fun i j p q hp hq e => ?_, fun k q hk => ?_⟩
  · obtain ⟨p', hp', ep⟩ := hg i p hp
    obtain ⟨q', hq', eq⟩ := hg j q hq
    exact hD.1 i j p' q' hp' hq' (by rw [ep, eq, e])
  · obtain ⟨q', hq', eq⟩ := hg k q hk
    rw [← eq]
    exact hD.2 k q' hq'
theorem va_lastAt {X : va_W} {x : Nat × va_E} : (X ++ [x])[X.length]? = some x := by simp
theorem va_frontAt {X : va_W} {x y : Nat × va_E} {k : Nat} (h : X[k]? = some y) : (X ++ [x])[k]? = some y := by
  rw [List.getElem?_append_left (List.getElem?_eq_some_iff.mp h).1]
  exact h
/-- a new porter, made whole, comes into the pool -/
theorem npA {D : va_G} {cl : List vw_C} {A : Nat → Prop} {X : va_W} {LP : List Nat} {pf : Nat → va_E} {q : Nat} {e0 e : va_E} {H H1 : Heap} (hP : va_P D cl ((X ++ va_pl LP pf) ++ [(q, e0)]) H) (hD : va_D A ((X ++ va_pl LP pf) ++ [(q, e0)])) (hP1 : va_P D cl [(q, e)] H1) (ho : ∀ x : Nat, x < H.size → x ≠ q → H1[x]? = H[x]?) : va_P D cl (X ++ va_pl (LP ++ [q]) (va_up pf q e)) H1 ∧ va_D A (X ++ va_pl (LP ++ [q]) (va_up pf q e)) ∧ q ∉ LP := by
  have hq : q ∉ LP := va_pl_fresh2 hD
  have e1 : X ++ va_pl (LP ++ [q]) (va_up pf q e) = (X ++ va_pl LP pf) ++ [(q, e)] := by rw [← va_pl_push hq, List.append_assoc]
  rw [e1]
  refine ⟨?_, va_D_fst (by simp) hD, hq⟩
  refine va_P.app (fun k x hx => ?_) hP1
  have hk := va_frontAt (x := (q, e0)) hx
  refine (hP k x hk).kept (ho x.1 ((hP k x hk).lt) (fun h9 => ?_))
  have h8 := hD.1 k (X ++ va_pl LP pf).length x (q, e0) hk va_lastAt h9
  have h7 := (List.getElem?_eq_some_iff.mp hx).1
  omega
theorem npG {g : Nat → Nat → Option Nat} {LP : List Nat} {pf : Nat → va_E} {S : CS} {q : Nat} {e : va_E} (hG : rlC g LP pf S) (hq : q ∉ LP) : rlC g (LP ++ [q]) (va_up pf q e) S := by
  intro c hc j hj
  obtain ⟨a, h1, h2, h3⟩ := hG c hc j hj
  have hne : a ≠ q := fun h => hq (h ▸ h2)
  exact ⟨a, h1, List.mem_append_left _ h2, by rw [va_up_ne _ _ hne]; exact h3⟩
def hwCp (dC : Nat → ClassId) (dI : Nat → Nat → Nat) (t : Nat → ClassId) (A : Nat → Prop) (h : Nat → Nat) (tx : Nat) (S : CS) (a : Nat) (d : PD) (H : Heap) : Prop := ∃ (g : Nat → Nat → Option Nat) (LP : List Nat) (pf : Nat → va_E), va_P (dC, dI) vwCl (wC t h tx g S ++ va_pl LP pf) H ∧ va_D A (wC t h tx g S ++ va_pl LP pf) ∧ rlC g LP pf S ∧ a ∈ LP ∧ pf a = pdE d
def preCp (dC : Nat → ClassId) (dI : Nat → Nat → Nat) (t : Nat → ClassId) (ts aK aV : Nat → Nat) (A : Nat → Prop) (h : Nat → Nat) (tx sz : Nat) (S : CS) (a : Nat) (d : PD) (U : State) : Prop := U.heap.size = sz ∧ enC ts aK aV A U U.heap ∧ hwCp dC dI t A h tx S a d U.heap ∧ va_K (dC, dI) vwCl (tyC t) U
def cCpv (l : Launch) (y : MethodName) (ws : List Cond) (rm : Room) (dC : Nat → ClassId) (dI : Nat → Nat → Nat) (t : Nat → ClassId) (ts aK aV : Nat → Nat) (A : Nat → Prop) (h : Nat → Nat) (tx tx' sz : Nat) (av : List Value) (S : CS) (a : Nat) (d : PD) (S' : CS) : Prop := Met l y ws rm (va_Pc av (preCp dC dI t ts aK aV A h tx sz S a d)) (qcCv dC dI t A h tx' S') rm.cells rm.slots A
def qcCn (dC : Nat → ClassId) (dI : Nat → Nat → Nat) (t : Nat → ClassId) (A : Nat → Prop) (h : Nat → Nat) (tx : Nat) (S : CS) (d : PD) : Array Value → State → Outcome → State → Prop := va_Qr (fun (_ : Unit) => True) (fun _ a U => hwCp dC dI t A h tx S a d U.heap) A
def cCn (l : Launch) (y : MethodName) (ws : List Cond) (rm : Room) (dC : Nat → ClassId) (dI : Nat → Nat → Nat) (t : Nat → ClassId) (ts aK aV : Nat → Nat) (A : Nat → Prop) (h : Nat → Nat) (tx sz : Nat) (av : List Value) (S : CS) (d : PD) : Prop := Met l y ws rm (va_Pc av (preC dC dI t ts aK aV A h tx sz S)) (qcCn dC dI t A h tx S d) rm.cells rm.slots A
def qcIv (dC : Nat → ClassId) (dI : Nat → Nat → Nat) (ci a : Nat) (d : PD) (A : Nat → Prop) : Array Value → State → Outcome → State → Prop := va_Qv (fun (_ : Unit) => True) (fun _ U => va_P (dC, dI) vwCl [(a, .inr (ci, pdV d))] U.heap) A
def cIv (l : Launch) (y : MethodName) (ws : List Cond) (rm : Room) (dC : Nat → ClassId) (dI : Nat → Nat → Nat) (sz : Nat) (av : List Value) (ci a : Nat) (fs : List Value) (d : PD) : Prop := Met l y ws rm (va_Pc av (fun U => U.heap.size = sz ∧ va_P (dC, dI) vwCl [(a, .inr (ci, fs))] U.heap ∧ va_K (dC, dI) vwCl [] U)) (qcIv dC dI ci a d (fun q => q = a ∨ sz ≤ q)) 0 0 (fun q => q = a ∨ sz ≤ q)
section KI2
variable {p : Program} {l : Launch} {e : Env} {R : Room} {s : State} {m : MethodId} {args : Array Value} {below : List Frame} {meth : Method} {c : Code} {H : Heap} {locs : List Loc} {cells slots : Nat} {Q : State → Prop} {pc : Nat} {ls : Array Slot} {rest : List Value} {dC : Nat → ClassId} {dI : Nat → Nat → Nat} {t : Nat → ClassId} {ts aK aV : Nat → Nat} {A : Nat → Prop} {h : Nat → Nat} {tx tx' : Nat} {S S' : CS} {cc : ByteArray} {Ts : List Cond} {own : String} {nL : Nat}
theorem rtIv {ci a : Nat} {d : PD} {fs : List Value} (hx : p.tables.exec = Jvm.exec) (hb : c.code = cc) (hr : meth.sig.returnType = none) (hlocks : meth.locks = false) (hP : va_P (dC, dI) vwCl [(a, .inr (ci, fs))] H) (hfs : fs = pdV d) (hS : va_S A s.heap H locs) (hdg : decode cc pc = .ok (.return_, 1)) : W p l e R s m args below meth c H locs cells slots (MQ below (qcIv dC dI ci a d A) args s cells slots A) (F0 m pc ls []) := by
  subst hfs
  exact W.vret hx hb hr (fun U ht hW => ⟨⟨(), rfl, trivial, by show va_P (dC, dI) vwCl [(a, .inr (ci, pdV d))] U.heap; rw [ht]; exact hP⟩, hS.F ht⟩) hS.2.2 hdg
theorem klI {y : MethodName} {ws : List Cond} {rm : Room} {bytes : ByteArray} {maxL index n ci a : Nat} {As st : List Value} {fs : List Value} {d : PD} (F : CallFix p m c cc nL s args Ts own) (hM : cIv l y ws rm dC dI H.size (.ref a :: As) ci a fs d) (cw : CallB R s args own index y bytes maxL none ws rm 0 0 n ∧ y.name = "<init>" ∧ (Cond.instanceMethod y).before args s = true) (hn : As.length = n) (hsize : ls.size = nL) (hst : st = As.reverse ++ .ref a :: rest) (hW : (rest.map fun v => v.category).sum ≤ 8) (hdg : decode cc pc = .ok (.invokespecial index, 3)) (hf : cells + 0 ≤ R.cells ∧ slots + 0 ≤ R.slots) (hK : va_K (dC, dI) vwCl [] s) (hP : va_P (dC, dI) vwCl [(a, .inr (ci, fs))] H) (hS : va_S A s.heap H locs) (hAa : A a) (hA : ∀ q : Nat, s.heap.size ≤ q → A q)
    (kk : ∀ (H1 : Heap) (locs1 : List Loc), va_P (dC, dI) vwCl [(a, .inr (ci, pdV d))] H1 → (∀ q : Nat, q < H.size → q ≠ a → H1[q]? = H[q]?) → va_S A s.heap H1 locs1 → W p l e R s m args below meth c H1 locs1 cells slots Q (F0 m (pc + 3) ls rest)) : W p l e R s m args below meth c H locs cells slots Q (F0 m pc ls st) := by
  have hFc : ∀ q : Nat, (q = a ∨ H.size ≤ q) → A q := fun q hq => hq.elim (fun e => e ▸ hAa) (fun h => hA q (Nat.le_trans hS.1 h))
  refine va_callv (va_runI (As := As) (rest := rest) F hM cw ⟨fun x U g mk q => ⟨q.1, q.2.1, q.2.2.1, va_K.moved (u := U) (U := U.calling g mk x) (Vm.Alike.refl U.vm) q.2.2.2⟩, fun U hU hW => ⟨rfl, congrArg Array.size hU, by rw [hU]; exact hP, va_K.moved hW.alike hK⟩⟩ rfl hn hsize hst (lv_room hW) hdg hf) hS (fun q _ h => hFc q h) hFc (fun u U H1 locs ht hvm hw hB hz1 hk1 hS => ?_)
  have hB : va_P (dC, dI) vwCl [(a, .inr (ci, pdV d))] U.heap := hB
  rw [ht] at hB
  exact kk H1 locs hB (fun q h1 h2 => hk1 q h1 (fun h => h.elim h2 (Nat.not_le.mpr h1))) hS
theorem preCp_blind {sz a : Nat} {d : PD} {av : List Value} : FrameBlind (va_Pc av (preCp dC dI t ts aK aV A h tx sz S a d)) := by
  intro x U g mk q
  obtain ⟨q0, q1, qE, qC, qK⟩ := q
  exact ⟨q0, q1, qE.blind, qC, va_K.moved (u := U) (U := U.calling g mk x) (Vm.Alike.refl U.vm) qK⟩
theorem klCpv {y : MethodName} {ws : List Cond} {rm : Room} {bytes : ByteArray} {maxL index n b a : Nat} {d : PD} {C : String} {ret : Option FieldType} {As st : List Value} (F : CallFix p m c cc nL s args Ts own) (hM : cCpv l y ws rm dC dI t ts aK aV A h tx tx' H.size (.ref b :: As) S a d S') (cw : CallW R s args own C index y bytes maxL ret ws rm rm.cells rm.slots n) (hrv : ∃ cell : Cell, H[b]? = some cell ∧ cell.vm.isStatics = false ∧ s.vm.findClass C = some cell.cls) (hn : As.length = n) (hsize : ls.size = nL) (hst : st = As.reverse ++ .ref b :: rest) (hW : (rest.map fun v => v.category).sum ≤ 8) (hdg : decode cc pc = .ok (.invokevirtual index, 3)) (hf : cells + rm.cells ≤ R.cells ∧ slots + rm.slots ≤ R.slots) (hE : enC ts aK aV A s s.heap) (hK : va_K (dC, dI) vwCl (tyC t) s) (hC : hwCp dC dI t A h tx S a d H) (hS : va_S A s.heap H locs)
    (kk : ∀ (H1 : Heap) (locs1 : List Loc), hwC dC dI t A h tx' S' H1 → va_S A s.heap H1 locs1 → W p l e R s m args below meth c H1 locs1 (cells + rm.cells) (slots + rm.slots) Q (F0 m (pc + 3) ls rest)) : W p l e R s m args below meth c H locs cells slots Q (F0 m pc ls st) := by
  refine va_callv (va_runV (As := As) (rest := rest) F hM cw ⟨preCp_blind, hrv, fun U hU hW => ⟨rfl, congrArg Array.size hU, hE.go hS hU hW (fun _ h => h), by rw [hU]; exact hC, va_K.moved hW.alike hK⟩⟩ rfl hn hsize hst (lv_room hW) hdg hf) hS (fun q _ h => h) (fun q h => h) (fun u U H1 locs ht hvm hw hB hz1 hk1 hS => ?_)
  have hB : hwC dC dI t A h tx' S' U.heap := hB
  rw [ht] at hB
  exact kk H1 locs hB hS
theorem klCn {y : MethodName} {ws : List Cond} {rm : Room} {bytes : ByteArray} {maxL index n : Nat} {d : PD} {ret : Option FieldType} {As st : List Value} (F : CallFix p m c cc nL s args Ts own) (hM : cCn l y ws rm dC dI t ts aK aV A h tx H.size As S d) (cw : CallB R s args own index y bytes maxL ret ws rm rm.cells rm.slots n ∧ (Cond.static y).before args s = true) (hn : As.length = n) (hsize : ls.size = nL) (hst : st = As.reverse ++ rest) (hW : (rest.map fun v => v.category).sum ≤ 8) (hdg : decode cc pc = .ok (.invokestatic index, 3)) (hf : cells + rm.cells ≤ R.cells ∧ slots + rm.slots ≤ R.slots) (hE : enC ts aK aV A s s.heap) (hK : va_K (dC, dI) vwCl (tyC t) s) (hC : hwC dC dI t A h tx S H) (hS : va_S A s.heap H locs)
    (kk : ∀ (a : Nat) (H1 : Heap) (locs1 : List Loc), hwCp dC dI t A h tx S a d H1 → va_S A s.heap H1 locs1 → W p l e R s m args below meth c H1 locs1 (cells + rm.cells) (slots + rm.slots) Q (F0 m (pc + 3) ls (.ref a :: rest))) : W p l e R s m args below meth c H locs cells slots Q (F0 m pc ls st) := by
  refine va_callr (va_runS (As := As) (rest := rest) F hM cw ⟨preC_blind, fun U hU hW => ⟨rfl, congrArg Array.size hU, hE.go hS hU hW (fun _ h => h), by rw [hU]; exact hC, va_K.moved hW.alike hK⟩⟩ rfl hn hsize hst (lv_room hW) hdg hf) hS (fun q _ h => h) (fun q h => h) (fun u ra U H1 locs ht hvm hw hB hz1 hk1 hS => ?_)
  have hB : hwCp dC dI t A h tx S ra d U.heap := hB
  rw [ht] at hB
  exact kk ra H1 locs hB hS
theorem klCnN {y : MethodName} {ws : List Cond} {rm : Room} {bytes : ByteArray} {maxL index n : Nat} {host : String} {d : PD} {ret : Option FieldType} {As st : List Value} (F : CallFix p m c cc nL s args Ts own) (hM : cCn l y ws rm dC dI t ts aK aV A h tx H.size As S d) (cw : va_CN R s args own index y host bytes maxL ret ws rm rm.cells rm.slots n ∧ (Cond.static y).before args s = true ∧ True) (hn : As.length = n) (hsize : ls.size = nL) (hst : st = As.reverse ++ rest) (hW : (rest.map fun v => v.category).sum ≤ 8) (hdg : decode cc pc = .ok (.invokestatic index, 3)) (hf : cells + rm.cells ≤ R.cells ∧ slots + rm.slots ≤ R.slots) (hE : enC ts aK aV A s s.heap) (hK : va_K (dC, dI) vwCl (tyC t) s) (hC : hwC dC dI t A h tx S H) (hS : va_S A s.heap H locs)
    (kk : ∀ (a : Nat) (H1 : Heap) (locs1 : List Loc), hwCp dC dI t A h tx S a d H1 → va_S A s.heap H1 locs1 → W p l e R s m args below meth c H1 locs1 (cells + rm.cells) (slots + rm.slots) Q (F0 m (pc + 3) ls (.ref a :: rest))) : W p l e R s m args below meth c H locs cells slots Q (F0 m pc ls st) := by
  refine va_callr (va_runSN (As := As) (rest := rest) F hM cw ⟨preC_blind, fun U hU hW => ⟨rfl, congrArg Array.size hU, hE.go hS hU hW (fun _ h => h), by rw [hU]; exact hC, va_K.moved hW.alike hK⟩⟩ rfl hn hsize hst (lv_room hW) hdg hf) hS (fun q _ h => h) (fun q h => h) (fun u ra U H1 locs ht hvm hw hB hz1 hk1 hS => ?_)
  have hB : hwCp dC dI t A h tx S ra d U.heap := hB
  rw [ht] at hB
  exact kk ra H1 locs hB hS
theorem rtCn {a : Nat} {d : PD} {rt : FieldType} (hx : p.tables.exec = Jvm.exec) (hb : c.code = cc) (hr : meth.sig.returnType = some rt) (hrt : (∃ n, rt = .object n) ∨ ∃ t, rt = .array t) (hlocks : meth.locks = false) (hC : hwCp dC dI t A h tx S a d H) (hS : va_S A s.heap H locs) (hdg : decode cc pc = .ok (.areturn, 1)) : W p l e R s m args below meth c H locs cells slots (MQ below (qcCn dC dI t A h tx S d) args s cells slots A) (F0 m pc ls [.ref a]) :=
  W.aret (v := .ref a) hx hb hr hrt (Or.inr ⟨a, rfl⟩) (fun U ht hW => ⟨⟨(), a, rfl, trivial, by show hwCp dC dI t A h tx S a d U.heap; rw [ht]; exact hC⟩, hS.F ht⟩) hS.2.2 hdg
end KI2

def rmX6_init : Room := { frames := 1, cells := 0, slots := 0, locals := 12 }
set_option maxHeartbeats 4000000 in
set_option maxRecDepth 100000 in
theorem c_X6_init_0 (l : Launch) (dC : Nat → ClassId) (dI : Nat → Nat → Nat) (sz a : Nat) (p0 p1 p2 p3 : Int32) : cIv l yX6_init wsX6_init rmX6_init dC dI sz [.ref a, .int p0, .int p1, .int p2, .int p3] 0 a [.int 0, .int 0, .int 0, .int 0] (p0, p1, p2, p3) := by
  refine Met.ofW (cc := cX6_init) (maxL := 5) (ret := none) (by decide) rfl ?_
  intro p e s m args below meth c s₁ B hml hv
  obtain ⟨hargs, hsz, hv⟩ := hv
  have hx := B.exec
  have hb := B.bytes
  have hr := B.returns
  have hts := atoms_spec (ws := wsX6_init) B.pre
  have hown : s.vm.findClass RX6 = some m.cls := findClass_of_methodNamed B.named
  have hlocks := B.notSynchronized
  have hsz : s.heap.size = sz := hsz
  subst hsz
  obtain ⟨hP, hK⟩ := hv
  obtain ⟨A, hAe⟩ : ∃ A : Nat → Prop, A = fun q => q = a ∨ s.heap.size ≤ q := ⟨_, rfl⟩
  rw [← hAe]
  have hA : ∀ q : Nat, s.heap.size ≤ q → A q := fun q h => by rw [hAe]; exact Or.inr h
  have hAa : A a := by rw [hAe]; exact Or.inl rfl
  have hS : va_S A s.heap s.heap [] := va_S.rf
  have hl := lv_entry ([.ref a, .int p0, .int p1, .int p2, .int p3]) (n := 5) (Nat.le_of_ble_eq_true rfl)
  rw [show entryFrame m args 5 = entryFrame m ([.ref a, .int p0, .int p1, .int p2, .int p3] : List Value).toArray 5 from by rw [hargs], lg_entry_eq]
  generalize (lg_sl ([.ref a, .int p0, .int p1, .int p2, .int p3]) ++ List.replicate (5 - (lg_sl ([.ref a, .int p0, .int p1, .int p2, .int p3])).length) Slot.unset).toArray = ls at hl ⊢
  have hl : lv_has ls 5 [(0, .ref a), (1, .int p0), (2, .int p1), (3, .int p2), (4, .int p3)] := hl
  have hin : meth.name = "<init>" := (name_of_methodNamed B.named B.method).1
  have hinc : ∀ w ∈ wsX00, w ∈ wsX6_init := by decide +kernel
  have hD : va_D A [(a, .inr (0, [.int 0, .int 0, .int 0, .int 0]))] := ⟨fun i j x y hx hy _ => by
    have h1 := (List.getElem?_eq_some_iff.mp hx).1
    have h2 := (List.getElem?_eq_some_iff.mp hy).1
    simp at h1 h2
    omega, fun k x hx => by
    have h1 := (List.getElem?_eq_some_iff.mp hx).1
    simp at h1
    subst h1
    cases hx
    exact hAa⟩
  refine lv_aload_n hx hb dX6_init_0 rfl (lv_at hl 0 rfl) ?_
  refine W.objInit hx hb hown (hts (.methodLink RX6 1 objectInit) (by decide +kernel)) (hts (.instanceMethod objectInit) (by decide +kernel)) (hts _ (List.mem_of_getElem? (i := 3) rfl)) rfl (by rw [hml]; exact hl.1) rfl dX6_init_1 (Nat.le_of_ble_eq_true rfl) (Nat.le_of_ble_eq_true rfl) ?_
  refine W.eq (g2 := F0 m 4 ls []) rfl ?_
  refine lv_aload_n hx hb dX6_init_4 rfl (lv_at hl 0 rfl) ?_
  refine lv_iload_n hx hb dX6_init_5 rfl (lv_at hl 1 rfl) ?_
  refine va_putF (D := (dC, dI)) (ci := 0) (v := .int p0) (ty := .int) (C := RX0) (T := TX0) (N := 4) hx hb hts hinc tyX0 tyX0_ok nmX0 hown hK hP hD hS 0 rfl rfl 0 (by decide) (hts (.fieldLink RX6 7 "OnlyTwo$Plain" "weight" "I") (by decide +kernel)) (fun _ h9 => h9) rfl hin rfl (by decide +kernel) rfl rfl (Nat.le_of_ble_eq_true rfl) dX6_init_6 (fun H locs hP hD hS => ?_)
  have hP : va_P (dC, dI) vwCl [(a, .inr (0, [.int p0, .int 0, .int 0, .int 0]))] H := hP
  have hD : va_D A [(a, .inr (0, [.int p0, .int 0, .int 0, .int 0]))] := hD
  refine lv_aload_n hx hb dX6_init_9 rfl (lv_at hl 0 rfl) ?_
  refine lv_iload_n hx hb dX6_init_10 rfl (lv_at hl 2 rfl) ?_
  refine va_putF (D := (dC, dI)) (ci := 0) (v := .int p1) (ty := .int) (C := RX0) (T := TX0) (N := 4) hx hb hts hinc tyX0 tyX0_ok nmX0 hown hK hP hD hS 0 rfl rfl 1 (by decide) (hts (.fieldLink RX6 13 "OnlyTwo$Plain" "time" "I") (by decide +kernel)) (fun _ h9 => h9) rfl hin rfl (by decide +kernel) rfl rfl (Nat.le_of_ble_eq_true rfl) dX6_init_11 (fun H locs hP hD hS => ?_)
  have hP : va_P (dC, dI) vwCl [(a, .inr (0, [.int p0, .int p1, .int 0, .int 0]))] H := hP
  have hD : va_D A [(a, .inr (0, [.int p0, .int p1, .int 0, .int 0]))] := hD
  refine lv_aload_n hx hb dX6_init_14 rfl (lv_at hl 0 rfl) ?_
  refine lv_iload_n hx hb dX6_init_15 rfl (lv_at hl 3 rfl) ?_
  refine va_putF (D := (dC, dI)) (ci := 0) (v := .int p2) (ty := .int) (C := RX0) (T := TX0) (N := 4) hx hb hts hinc tyX0 tyX0_ok nmX0 hown hK hP hD hS 0 rfl rfl 2 (by decide) (hts (.fieldLink RX6 16 "OnlyTwo$Plain" "hire" "I") (by decide +kernel)) (fun _ h9 => h9) rfl hin rfl (by decide +kernel) rfl rfl (Nat.le_of_ble_eq_true rfl) dX6_init_16 (fun H locs hP hD hS => ?_)
  have hP : va_P (dC, dI) vwCl [(a, .inr (0, [.int p0, .int p1, .int p2, .int 0]))] H := hP
  have hD : va_D A [(a, .inr (0, [.int p0, .int p1, .int p2, .int 0]))] := hD
  refine lv_aload_n hx hb dX6_init_19 rfl (lv_at hl 0 rfl) ?_
  refine lv_iload hx hb dX6_init_20 (lv_at hl 4 rfl) ?_
  refine va_putF (D := (dC, dI)) (ci := 0) (v := .int p3) (ty := .int) (C := RX0) (T := TX0) (N := 4) hx hb hts hinc tyX0 tyX0_ok nmX0 hown hK hP hD hS 0 rfl rfl 3 (by decide) (hts (.fieldLink RX6 19 "OnlyTwo$Plain" "kind" "I") (by decide +kernel)) (fun _ h9 => h9) rfl hin rfl (by decide +kernel) rfl rfl (Nat.le_of_ble_eq_true rfl) dX6_init_22 (fun H locs hP hD hS => ?_)
  have hP : va_P (dC, dI) vwCl [(a, .inr (0, [.int p0, .int p1, .int p2, .int p3]))] H := hP
  have hD : va_D A [(a, .inr (0, [.int p0, .int p1, .int p2, .int p3]))] := hD
  exact rtIv hx hb hr hlocks hP rfl hS dX6_init_25

set_option maxHeartbeats 4000000 in
set_option maxRecDepth 100000 in
theorem c_X6_init_2 (l : Launch) (dC : Nat → ClassId) (dI : Nat → Nat → Nat) (sz a : Nat) (p0 p1 p2 p3 : Int32) : cIv l yX6_init wsX6_init rmX6_init dC dI sz [.ref a, .int p0, .int p1, .int p2, .int p3] 2 a [.int 0, .int 0, .int 0, .int 0] (p0, p1, p2, p3) := by
  refine Met.ofW (cc := cX6_init) (maxL := 5) (ret := none) (by decide) rfl ?_
  intro p e s m args below meth c s₁ B hml hv
  obtain ⟨hargs, hsz, hv⟩ := hv
  have hx := B.exec
  have hb := B.bytes
  have hr := B.returns
  have hts := atoms_spec (ws := wsX6_init) B.pre
  have hown : s.vm.findClass RX6 = some m.cls := findClass_of_methodNamed B.named
  have hlocks := B.notSynchronized
  have hsz : s.heap.size = sz := hsz
  subst hsz
  obtain ⟨hP, hK⟩ := hv
  obtain ⟨A, hAe⟩ : ∃ A : Nat → Prop, A = fun q => q = a ∨ s.heap.size ≤ q := ⟨_, rfl⟩
  rw [← hAe]
  have hA : ∀ q : Nat, s.heap.size ≤ q → A q := fun q h => by rw [hAe]; exact Or.inr h
  have hAa : A a := by rw [hAe]; exact Or.inl rfl
  have hS : va_S A s.heap s.heap [] := va_S.rf
  have hl := lv_entry ([.ref a, .int p0, .int p1, .int p2, .int p3]) (n := 5) (Nat.le_of_ble_eq_true rfl)
  rw [show entryFrame m args 5 = entryFrame m ([.ref a, .int p0, .int p1, .int p2, .int p3] : List Value).toArray 5 from by rw [hargs], lg_entry_eq]
  generalize (lg_sl ([.ref a, .int p0, .int p1, .int p2, .int p3]) ++ List.replicate (5 - (lg_sl ([.ref a, .int p0, .int p1, .int p2, .int p3])).length) Slot.unset).toArray = ls at hl ⊢
  have hl : lv_has ls 5 [(0, .ref a), (1, .int p0), (2, .int p1), (3, .int p2), (4, .int p3)] := hl
  have hin : meth.name = "<init>" := (name_of_methodNamed B.named B.method).1
  have hinc : ∀ w ∈ wsX20, w ∈ wsX6_init := by decide +kernel
  have hD : va_D A [(a, .inr (2, [.int 0, .int 0, .int 0, .int 0]))] := ⟨fun i j x y hx hy _ => by
    have h1 := (List.getElem?_eq_some_iff.mp hx).1
    have h2 := (List.getElem?_eq_some_iff.mp hy).1
    simp at h1 h2
    omega, fun k x hx => by
    have h1 := (List.getElem?_eq_some_iff.mp hx).1
    simp at h1
    subst h1
    cases hx
    exact hAa⟩
  refine lv_aload_n hx hb dX6_init_0 rfl (lv_at hl 0 rfl) ?_
  refine W.objInit hx hb hown (hts (.methodLink RX6 1 objectInit) (by decide +kernel)) (hts (.instanceMethod objectInit) (by decide +kernel)) (hts _ (List.mem_of_getElem? (i := 3) rfl)) rfl (by rw [hml]; exact hl.1) rfl dX6_init_1 (Nat.le_of_ble_eq_true rfl) (Nat.le_of_ble_eq_true rfl) ?_
  refine W.eq (g2 := F0 m 4 ls []) rfl ?_
  refine lv_aload_n hx hb dX6_init_4 rfl (lv_at hl 0 rfl) ?_
  refine lv_iload_n hx hb dX6_init_5 rfl (lv_at hl 1 rfl) ?_
  refine va_putF (D := (dC, dI)) (ci := 2) (v := .int p0) (ty := .int) (C := RX2) (T := TX2) (N := 4) hx hb hts hinc tyX2 tyX2_ok nmX2 hown hK hP hD hS 0 rfl rfl 0 (by decide) (hts (.fieldLink RX6 7 "OnlyTwo$Plain" "weight" "I") (by decide +kernel)) (fun _ h9 => h9) rfl hin rfl (by decide +kernel) rfl rfl (Nat.le_of_ble_eq_true rfl) dX6_init_6 (fun H locs hP hD hS => ?_)
  have hP : va_P (dC, dI) vwCl [(a, .inr (2, [.int p0, .int 0, .int 0, .int 0]))] H := hP
  have hD : va_D A [(a, .inr (2, [.int p0, .int 0, .int 0, .int 0]))] := hD
  refine lv_aload_n hx hb dX6_init_9 rfl (lv_at hl 0 rfl) ?_
  refine lv_iload_n hx hb dX6_init_10 rfl (lv_at hl 2 rfl) ?_
  refine va_putF (D := (dC, dI)) (ci := 2) (v := .int p1) (ty := .int) (C := RX2) (T := TX2) (N := 4) hx hb hts hinc tyX2 tyX2_ok nmX2 hown hK hP hD hS 0 rfl rfl 1 (by decide) (hts (.fieldLink RX6 13 "OnlyTwo$Plain" "time" "I") (by decide +kernel)) (fun _ h9 => h9) rfl hin rfl (by decide +kernel) rfl rfl (Nat.le_of_ble_eq_true rfl) dX6_init_11 (fun H locs hP hD hS => ?_)
  have hP : va_P (dC, dI) vwCl [(a, .inr (2, [.int p0, .int p1, .int 0, .int 0]))] H := hP
  have hD : va_D A [(a, .inr (2, [.int p0, .int p1, .int 0, .int 0]))] := hD
  refine lv_aload_n hx hb dX6_init_14 rfl (lv_at hl 0 rfl) ?_
  refine lv_iload_n hx hb dX6_init_15 rfl (lv_at hl 3 rfl) ?_
  refine va_putF (D := (dC, dI)) (ci := 2) (v := .int p2) (ty := .int) (C := RX2) (T := TX2) (N := 4) hx hb hts hinc tyX2 tyX2_ok nmX2 hown hK hP hD hS 0 rfl rfl 2 (by decide) (hts (.fieldLink RX6 16 "OnlyTwo$Plain" "hire" "I") (by decide +kernel)) (fun _ h9 => h9) rfl hin rfl (by decide +kernel) rfl rfl (Nat.le_of_ble_eq_true rfl) dX6_init_16 (fun H locs hP hD hS => ?_)
  have hP : va_P (dC, dI) vwCl [(a, .inr (2, [.int p0, .int p1, .int p2, .int 0]))] H := hP
  have hD : va_D A [(a, .inr (2, [.int p0, .int p1, .int p2, .int 0]))] := hD
  refine lv_aload_n hx hb dX6_init_19 rfl (lv_at hl 0 rfl) ?_
  refine lv_iload hx hb dX6_init_20 (lv_at hl 4 rfl) ?_
  refine va_putF (D := (dC, dI)) (ci := 2) (v := .int p3) (ty := .int) (C := RX2) (T := TX2) (N := 4) hx hb hts hinc tyX2 tyX2_ok nmX2 hown hK hP hD hS 0 rfl rfl 3 (by decide) (hts (.fieldLink RX6 19 "OnlyTwo$Plain" "kind" "I") (by decide +kernel)) (fun _ h9 => h9) rfl hin rfl (by decide +kernel) rfl rfl (Nat.le_of_ble_eq_true rfl) dX6_init_22 (fun H locs hP hD hS => ?_)
  have hP : va_P (dC, dI) vwCl [(a, .inr (2, [.int p0, .int p1, .int p2, .int p3]))] H := hP
  have hD : va_D A [(a, .inr (2, [.int p0, .int p1, .int p2, .int p3]))] := hD
  exact rtIv hx hb hr hlocks hP rfl hS dX6_init_25

set_option maxHeartbeats 4000000 in
set_option maxRecDepth 100000 in
theorem c_X6_init_3 (l : Launch) (dC : Nat → ClassId) (dI : Nat → Nat → Nat) (sz a : Nat) (p0 p1 p2 p3 : Int32) : cIv l yX6_init wsX6_init rmX6_init dC dI sz [.ref a, .int p0, .int p1, .int p2, .int p3] 3 a [.int 0, .int 0, .int 0, .int 0] (p0, p1, p2, p3) := by
  refine Met.ofW (cc := cX6_init) (maxL := 5) (ret := none) (by decide) rfl ?_
  intro p e s m args below meth c s₁ B hml hv
  obtain ⟨hargs, hsz, hv⟩ := hv
  have hx := B.exec
  have hb := B.bytes
  have hr := B.returns
  have hts := atoms_spec (ws := wsX6_init) B.pre
  have hown : s.vm.findClass RX6 = some m.cls := findClass_of_methodNamed B.named
  have hlocks := B.notSynchronized
  have hsz : s.heap.size = sz := hsz
  subst hsz
  obtain ⟨hP, hK⟩ := hv
  obtain ⟨A, hAe⟩ : ∃ A : Nat → Prop, A = fun q => q = a ∨ s.heap.size ≤ q := ⟨_, rfl⟩
  rw [← hAe]
  have hA : ∀ q : Nat, s.heap.size ≤ q → A q := fun q h => by rw [hAe]; exact Or.inr h
  have hAa : A a := by rw [hAe]; exact Or.inl rfl
  have hS : va_S A s.heap s.heap [] := va_S.rf
  have hl := lv_entry ([.ref a, .int p0, .int p1, .int p2, .int p3]) (n := 5) (Nat.le_of_ble_eq_true rfl)
  rw [show entryFrame m args 5 = entryFrame m ([.ref a, .int p0, .int p1, .int p2, .int p3] : List Value).toArray 5 from by rw [hargs], lg_entry_eq]
  generalize (lg_sl ([.ref a, .int p0, .int p1, .int p2, .int p3]) ++ List.replicate (5 - (lg_sl ([.ref a, .int p0, .int p1, .int p2, .int p3])).length) Slot.unset).toArray = ls at hl ⊢
  have hl : lv_has ls 5 [(0, .ref a), (1, .int p0), (2, .int p1), (3, .int p2), (4, .int p3)] := hl
  have hin : meth.name = "<init>" := (name_of_methodNamed B.named B.method).1
  have hinc : ∀ w ∈ wsX30, w ∈ wsX6_init := by decide +kernel
  have hD : va_D A [(a, .inr (3, [.int 0, .int 0, .int 0, .int 0]))] := ⟨fun i j x y hx hy _ => by
    have h1 := (List.getElem?_eq_some_iff.mp hx).1
    have h2 := (List.getElem?_eq_some_iff.mp hy).1
    simp at h1 h2
    omega, fun k x hx => by
    have h1 := (List.getElem?_eq_some_iff.mp hx).1
    simp at h1
    subst h1
    cases hx
    exact hAa⟩
  refine lv_aload_n hx hb dX6_init_0 rfl (lv_at hl 0 rfl) ?_
  refine W.objInit hx hb hown (hts (.methodLink RX6 1 objectInit) (by decide +kernel)) (hts (.instanceMethod objectInit) (by decide +kernel)) (hts _ (List.mem_of_getElem? (i := 3) rfl)) rfl (by rw [hml]; exact hl.1) rfl dX6_init_1 (Nat.le_of_ble_eq_true rfl) (Nat.le_of_ble_eq_true rfl) ?_
  refine W.eq (g2 := F0 m 4 ls []) rfl ?_
  refine lv_aload_n hx hb dX6_init_4 rfl (lv_at hl 0 rfl) ?_
  refine lv_iload_n hx hb dX6_init_5 rfl (lv_at hl 1 rfl) ?_
  refine va_putF (D := (dC, dI)) (ci := 3) (v := .int p0) (ty := .int) (C := RX3) (T := TX3) (N := 4) hx hb hts hinc tyX3 tyX3_ok nmX3 hown hK hP hD hS 0 rfl rfl 0 (by decide) (hts (.fieldLink RX6 7 "OnlyTwo$Plain" "weight" "I") (by decide +kernel)) (fun _ h9 => h9) rfl hin rfl (by decide +kernel) rfl rfl (Nat.le_of_ble_eq_true rfl) dX6_init_6 (fun H locs hP hD hS => ?_)
  have hP : va_P (dC, dI) vwCl [(a, .inr (3, [.int p0, .int 0, .int 0, .int 0]))] H := hP
  have hD : va_D A [(a, .inr (3, [.int p0, .int 0, .int 0, .int 0]))] := hD
  refine lv_aload_n hx hb dX6_init_9 rfl (lv_at hl 0 rfl) ?_
  refine lv_iload_n hx hb dX6_init_10 rfl (lv_at hl 2 rfl) ?_
  refine va_putF (D := (dC, dI)) (ci := 3) (v := .int p1) (ty := .int) (C := RX3) (T := TX3) (N := 4) hx hb hts hinc tyX3 tyX3_ok nmX3 hown hK hP hD hS 0 rfl rfl 1 (by decide) (hts (.fieldLink RX6 13 "OnlyTwo$Plain" "time" "I") (by decide +kernel)) (fun _ h9 => h9) rfl hin rfl (by decide +kernel) rfl rfl (Nat.le_of_ble_eq_true rfl) dX6_init_11 (fun H locs hP hD hS => ?_)
  have hP : va_P (dC, dI) vwCl [(a, .inr (3, [.int p0, .int p1, .int 0, .int 0]))] H := hP
  have hD : va_D A [(a, .inr (3, [.int p0, .int p1, .int 0, .int 0]))] := hD
  refine lv_aload_n hx hb dX6_init_14 rfl (lv_at hl 0 rfl) ?_
  refine lv_iload_n hx hb dX6_init_15 rfl (lv_at hl 3 rfl) ?_
  refine va_putF (D := (dC, dI)) (ci := 3) (v := .int p2) (ty := .int) (C := RX3) (T := TX3) (N := 4) hx hb hts hinc tyX3 tyX3_ok nmX3 hown hK hP hD hS 0 rfl rfl 2 (by decide) (hts (.fieldLink RX6 16 "OnlyTwo$Plain" "hire" "I") (by decide +kernel)) (fun _ h9 => h9) rfl hin rfl (by decide +kernel) rfl rfl (Nat.le_of_ble_eq_true rfl) dX6_init_16 (fun H locs hP hD hS => ?_)
  have hP : va_P (dC, dI) vwCl [(a, .inr (3, [.int p0, .int p1, .int p2, .int 0]))] H := hP
  have hD : va_D A [(a, .inr (3, [.int p0, .int p1, .int p2, .int 0]))] := hD
  refine lv_aload_n hx hb dX6_init_19 rfl (lv_at hl 0 rfl) ?_
  refine lv_iload hx hb dX6_init_20 (lv_at hl 4 rfl) ?_
  refine va_putF (D := (dC, dI)) (ci := 3) (v := .int p3) (ty := .int) (C := RX3) (T := TX3) (N := 4) hx hb hts hinc tyX3 tyX3_ok nmX3 hown hK hP hD hS 0 rfl rfl 3 (by decide) (hts (.fieldLink RX6 19 "OnlyTwo$Plain" "kind" "I") (by decide +kernel)) (fun _ h9 => h9) rfl hin rfl (by decide +kernel) rfl rfl (Nat.le_of_ble_eq_true rfl) dX6_init_22 (fun H locs hP hD hS => ?_)
  have hP : va_P (dC, dI) vwCl [(a, .inr (3, [.int p0, .int p1, .int p2, .int p3]))] H := hP
  have hD : va_D A [(a, .inr (3, [.int p0, .int p1, .int p2, .int p3]))] := hD
  exact rtIv hx hb hr hlocks hP rfl hS dX6_init_25

set_option maxHeartbeats 4000000 in
set_option maxRecDepth 100000 in
theorem c_X6_init_4 (l : Launch) (dC : Nat → ClassId) (dI : Nat → Nat → Nat) (sz a : Nat) (p0 p1 p2 p3 : Int32) : cIv l yX6_init wsX6_init rmX6_init dC dI sz [.ref a, .int p0, .int p1, .int p2, .int p3] 4 a [.int 0, .int 0, .int 0, .int 0] (p0, p1, p2, p3) := by
  refine Met.ofW (cc := cX6_init) (maxL := 5) (ret := none) (by decide) rfl ?_
  intro p e s m args below meth c s₁ B hml hv
  obtain ⟨hargs, hsz, hv⟩ := hv
  have hx := B.exec
  have hb := B.bytes
  have hr := B.returns
  have hts := atoms_spec (ws := wsX6_init) B.pre
  have hown : s.vm.findClass RX6 = some m.cls := findClass_of_methodNamed B.named
  have hlocks := B.notSynchronized
  have hsz : s.heap.size = sz := hsz
  subst hsz
  obtain ⟨hP, hK⟩ := hv
  obtain ⟨A, hAe⟩ : ∃ A : Nat → Prop, A = fun q => q = a ∨ s.heap.size ≤ q := ⟨_, rfl⟩
  rw [← hAe]
  have hA : ∀ q : Nat, s.heap.size ≤ q → A q := fun q h => by rw [hAe]; exact Or.inr h
  have hAa : A a := by rw [hAe]; exact Or.inl rfl
  have hS : va_S A s.heap s.heap [] := va_S.rf
  have hl := lv_entry ([.ref a, .int p0, .int p1, .int p2, .int p3]) (n := 5) (Nat.le_of_ble_eq_true rfl)
  rw [show entryFrame m args 5 = entryFrame m ([.ref a, .int p0, .int p1, .int p2, .int p3] : List Value).toArray 5 from by rw [hargs], lg_entry_eq]
  generalize (lg_sl ([.ref a, .int p0, .int p1, .int p2, .int p3]) ++ List.replicate (5 - (lg_sl ([.ref a, .int p0, .int p1, .int p2, .int p3])).length) Slot.unset).toArray = ls at hl ⊢
  have hl : lv_has ls 5 [(0, .ref a), (1, .int p0), (2, .int p1), (3, .int p2), (4, .int p3)] := hl
  have hin : meth.name = "<init>" := (name_of_methodNamed B.named B.method).1
  have hinc : ∀ w ∈ wsX40, w ∈ wsX6_init := by decide +kernel
  have hD : va_D A [(a, .inr (4, [.int 0, .int 0, .int 0, .int 0]))] := ⟨fun i j x y hx hy _ => by
    have h1 := (List.getElem?_eq_some_iff.mp hx).1
    have h2 := (List.getElem?_eq_some_iff.mp hy).1
    simp at h1 h2
    omega, fun k x hx => by
    have h1 := (List.getElem?_eq_some_iff.mp hx).1
    simp at h1
    subst h1
    cases hx
    exact hAa⟩
  refine lv_aload_n hx hb dX6_init_0 rfl (lv_at hl 0 rfl) ?_
  refine W.objInit hx hb hown (hts (.methodLink RX6 1 objectInit) (by decide +kernel)) (hts (.instanceMethod objectInit) (by decide +kernel)) (hts _ (List.mem_of_getElem? (i := 3) rfl)) rfl (by rw [hml]; exact hl.1) rfl dX6_init_1 (Nat.le_of_ble_eq_true rfl) (Nat.le_of_ble_eq_true rfl) ?_
  refine W.eq (g2 := F0 m 4 ls []) rfl ?_
  refine lv_aload_n hx hb dX6_init_4 rfl (lv_at hl 0 rfl) ?_
  refine lv_iload_n hx hb dX6_init_5 rfl (lv_at hl 1 rfl) ?_
  refine va_putF (D := (dC, dI)) (ci := 4) (v := .int p0) (ty := .int) (C := RX4) (T := TX4) (N := 4) hx hb hts hinc tyX4 tyX4_ok nmX4 hown hK hP hD hS 0 rfl rfl 0 (by decide) (hts (.fieldLink RX6 7 "OnlyTwo$Plain" "weight" "I") (by decide +kernel)) (fun _ h9 => h9) rfl hin rfl (by decide +kernel) rfl rfl (Nat.le_of_ble_eq_true rfl) dX6_init_6 (fun H locs hP hD hS => ?_)
  have hP : va_P (dC, dI) vwCl [(a, .inr (4, [.int p0, .int 0, .int 0, .int 0]))] H := hP
  have hD : va_D A [(a, .inr (4, [.int p0, .int 0, .int 0, .int 0]))] := hD
  refine lv_aload_n hx hb dX6_init_9 rfl (lv_at hl 0 rfl) ?_
  refine lv_iload_n hx hb dX6_init_10 rfl (lv_at hl 2 rfl) ?_
  refine va_putF (D := (dC, dI)) (ci := 4) (v := .int p1) (ty := .int) (C := RX4) (T := TX4) (N := 4) hx hb hts hinc tyX4 tyX4_ok nmX4 hown hK hP hD hS 0 rfl rfl 1 (by decide) (hts (.fieldLink RX6 13 "OnlyTwo$Plain" "time" "I") (by decide +kernel)) (fun _ h9 => h9) rfl hin rfl (by decide +kernel) rfl rfl (Nat.le_of_ble_eq_true rfl) dX6_init_11 (fun H locs hP hD hS => ?_)
  have hP : va_P (dC, dI) vwCl [(a, .inr (4, [.int p0, .int p1, .int 0, .int 0]))] H := hP
  have hD : va_D A [(a, .inr (4, [.int p0, .int p1, .int 0, .int 0]))] := hD
  refine lv_aload_n hx hb dX6_init_14 rfl (lv_at hl 0 rfl) ?_
  refine lv_iload_n hx hb dX6_init_15 rfl (lv_at hl 3 rfl) ?_
  refine va_putF (D := (dC, dI)) (ci := 4) (v := .int p2) (ty := .int) (C := RX4) (T := TX4) (N := 4) hx hb hts hinc tyX4 tyX4_ok nmX4 hown hK hP hD hS 0 rfl rfl 2 (by decide) (hts (.fieldLink RX6 16 "OnlyTwo$Plain" "hire" "I") (by decide +kernel)) (fun _ h9 => h9) rfl hin rfl (by decide +kernel) rfl rfl (Nat.le_of_ble_eq_true rfl) dX6_init_16 (fun H locs hP hD hS => ?_)
  have hP : va_P (dC, dI) vwCl [(a, .inr (4, [.int p0, .int p1, .int p2, .int 0]))] H := hP
  have hD : va_D A [(a, .inr (4, [.int p0, .int p1, .int p2, .int 0]))] := hD
  refine lv_aload_n hx hb dX6_init_19 rfl (lv_at hl 0 rfl) ?_
  refine lv_iload hx hb dX6_init_20 (lv_at hl 4 rfl) ?_
  refine va_putF (D := (dC, dI)) (ci := 4) (v := .int p3) (ty := .int) (C := RX4) (T := TX4) (N := 4) hx hb hts hinc tyX4 tyX4_ok nmX4 hown hK hP hD hS 0 rfl rfl 3 (by decide) (hts (.fieldLink RX6 19 "OnlyTwo$Plain" "kind" "I") (by decide +kernel)) (fun _ h9 => h9) rfl hin rfl (by decide +kernel) rfl rfl (Nat.le_of_ble_eq_true rfl) dX6_init_22 (fun H locs hP hD hS => ?_)
  have hP : va_P (dC, dI) vwCl [(a, .inr (4, [.int p0, .int p1, .int p2, .int p3]))] H := hP
  have hD : va_D A [(a, .inr (4, [.int p0, .int p1, .int p2, .int p3]))] := hD
  exact rtIv hx hb hr hlocks hP rfl hS dX6_init_25

set_option maxHeartbeats 4000000 in
set_option maxRecDepth 100000 in
theorem c_X6_init_6 (l : Launch) (dC : Nat → ClassId) (dI : Nat → Nat → Nat) (sz a : Nat) (p0 p1 p2 p3 : Int32) : cIv l yX6_init wsX6_init rmX6_init dC dI sz [.ref a, .int p0, .int p1, .int p2, .int p3] 6 a [.int 0, .int 0, .int 0, .int 0] (p0, p1, p2, p3) := by
  refine Met.ofW (cc := cX6_init) (maxL := 5) (ret := none) (by decide) rfl ?_
  intro p e s m args below meth c s₁ B hml hv
  obtain ⟨hargs, hsz, hv⟩ := hv
  have hx := B.exec
  have hb := B.bytes
  have hr := B.returns
  have hts := atoms_spec (ws := wsX6_init) B.pre
  have hown : s.vm.findClass RX6 = some m.cls := findClass_of_methodNamed B.named
  have hlocks := B.notSynchronized
  have hsz : s.heap.size = sz := hsz
  subst hsz
  obtain ⟨hP, hK⟩ := hv
  obtain ⟨A, hAe⟩ : ∃ A : Nat → Prop, A = fun q => q = a ∨ s.heap.size ≤ q := ⟨_, rfl⟩
  rw [← hAe]
  have hA : ∀ q : Nat, s.heap.size ≤ q → A q := fun q h => by rw [hAe]; exact Or.inr h
  have hAa : A a := by rw [hAe]; exact Or.inl rfl
  have hS : va_S A s.heap s.heap [] := va_S.rf
  have hl := lv_entry ([.ref a, .int p0, .int p1, .int p2, .int p3]) (n := 5) (Nat.le_of_ble_eq_true rfl)
  rw [show entryFrame m args 5 = entryFrame m ([.ref a, .int p0, .int p1, .int p2, .int p3] : List Value).toArray 5 from by rw [hargs], lg_entry_eq]
  generalize (lg_sl ([.ref a, .int p0, .int p1, .int p2, .int p3]) ++ List.replicate (5 - (lg_sl ([.ref a, .int p0, .int p1, .int p2, .int p3])).length) Slot.unset).toArray = ls at hl ⊢
  have hl : lv_has ls 5 [(0, .ref a), (1, .int p0), (2, .int p1), (3, .int p2), (4, .int p3)] := hl
  have hin : meth.name = "<init>" := (name_of_methodNamed B.named B.method).1
  have hinc : ∀ w ∈ wsX60, w ∈ wsX6_init := by decide +kernel
  have hD : va_D A [(a, .inr (6, [.int 0, .int 0, .int 0, .int 0]))] := ⟨fun i j x y hx hy _ => by
    have h1 := (List.getElem?_eq_some_iff.mp hx).1
    have h2 := (List.getElem?_eq_some_iff.mp hy).1
    simp at h1 h2
    omega, fun k x hx => by
    have h1 := (List.getElem?_eq_some_iff.mp hx).1
    simp at h1
    subst h1
    cases hx
    exact hAa⟩
  refine lv_aload_n hx hb dX6_init_0 rfl (lv_at hl 0 rfl) ?_
  refine W.objInit hx hb hown (hts (.methodLink RX6 1 objectInit) (by decide +kernel)) (hts (.instanceMethod objectInit) (by decide +kernel)) (hts _ (List.mem_of_getElem? (i := 3) rfl)) rfl (by rw [hml]; exact hl.1) rfl dX6_init_1 (Nat.le_of_ble_eq_true rfl) (Nat.le_of_ble_eq_true rfl) ?_
  refine W.eq (g2 := F0 m 4 ls []) rfl ?_
  refine lv_aload_n hx hb dX6_init_4 rfl (lv_at hl 0 rfl) ?_
  refine lv_iload_n hx hb dX6_init_5 rfl (lv_at hl 1 rfl) ?_
  refine va_putF (D := (dC, dI)) (ci := 6) (v := .int p0) (ty := .int) (C := RX6) (T := TX6) (N := 4) hx hb hts hinc tyX6 tyX6_ok nmX6 hown hK hP hD hS 0 rfl rfl 0 (by decide) (hts (.fieldLink RX6 7 "OnlyTwo$Plain" "weight" "I") (by decide +kernel)) (fun _ h9 => h9) rfl hin rfl (by decide +kernel) rfl rfl (Nat.le_of_ble_eq_true rfl) dX6_init_6 (fun H locs hP hD hS => ?_)
  have hP : va_P (dC, dI) vwCl [(a, .inr (6, [.int p0, .int 0, .int 0, .int 0]))] H := hP
  have hD : va_D A [(a, .inr (6, [.int p0, .int 0, .int 0, .int 0]))] := hD
  refine lv_aload_n hx hb dX6_init_9 rfl (lv_at hl 0 rfl) ?_
  refine lv_iload_n hx hb dX6_init_10 rfl (lv_at hl 2 rfl) ?_
  refine va_putF (D := (dC, dI)) (ci := 6) (v := .int p1) (ty := .int) (C := RX6) (T := TX6) (N := 4) hx hb hts hinc tyX6 tyX6_ok nmX6 hown hK hP hD hS 0 rfl rfl 1 (by decide) (hts (.fieldLink RX6 13 "OnlyTwo$Plain" "time" "I") (by decide +kernel)) (fun _ h9 => h9) rfl hin rfl (by decide +kernel) rfl rfl (Nat.le_of_ble_eq_true rfl) dX6_init_11 (fun H locs hP hD hS => ?_)
  have hP : va_P (dC, dI) vwCl [(a, .inr (6, [.int p0, .int p1, .int 0, .int 0]))] H := hP
  have hD : va_D A [(a, .inr (6, [.int p0, .int p1, .int 0, .int 0]))] := hD
  refine lv_aload_n hx hb dX6_init_14 rfl (lv_at hl 0 rfl) ?_
  refine lv_iload_n hx hb dX6_init_15 rfl (lv_at hl 3 rfl) ?_
  refine va_putF (D := (dC, dI)) (ci := 6) (v := .int p2) (ty := .int) (C := RX6) (T := TX6) (N := 4) hx hb hts hinc tyX6 tyX6_ok nmX6 hown hK hP hD hS 0 rfl rfl 2 (by decide) (hts (.fieldLink RX6 16 "OnlyTwo$Plain" "hire" "I") (by decide +kernel)) (fun _ h9 => h9) rfl hin rfl (by decide +kernel) rfl rfl (Nat.le_of_ble_eq_true rfl) dX6_init_16 (fun H locs hP hD hS => ?_)
  have hP : va_P (dC, dI) vwCl [(a, .inr (6, [.int p0, .int p1, .int p2, .int 0]))] H := hP
  have hD : va_D A [(a, .inr (6, [.int p0, .int p1, .int p2, .int 0]))] := hD
  refine lv_aload_n hx hb dX6_init_19 rfl (lv_at hl 0 rfl) ?_
  refine lv_iload hx hb dX6_init_20 (lv_at hl 4 rfl) ?_
  refine va_putF (D := (dC, dI)) (ci := 6) (v := .int p3) (ty := .int) (C := RX6) (T := TX6) (N := 4) hx hb hts hinc tyX6 tyX6_ok nmX6 hown hK hP hD hS 0 rfl rfl 3 (by decide) (hts (.fieldLink RX6 19 "OnlyTwo$Plain" "kind" "I") (by decide +kernel)) (fun _ h9 => h9) rfl hin rfl (by decide +kernel) rfl rfl (Nat.le_of_ble_eq_true rfl) dX6_init_22 (fun H locs hP hD hS => ?_)
  have hP : va_P (dC, dI) vwCl [(a, .inr (6, [.int p0, .int p1, .int p2, .int p3]))] H := hP
  have hD : va_D A [(a, .inr (6, [.int p0, .int p1, .int p2, .int p3]))] := hD
  exact rtIv hx hb hr hlocks hP rfl hS dX6_init_25

set_option maxHeartbeats 4000000 in
set_option maxRecDepth 100000 in
theorem c_X6_init_9 (l : Launch) (dC : Nat → ClassId) (dI : Nat → Nat → Nat) (sz a : Nat) (p0 p1 p2 p3 : Int32) : cIv l yX6_init wsX6_init rmX6_init dC dI sz [.ref a, .int p0, .int p1, .int p2, .int p3] 9 a [.int 0, .int 0, .int 0, .int 0] (p0, p1, p2, p3) := by
  refine Met.ofW (cc := cX6_init) (maxL := 5) (ret := none) (by decide) rfl ?_
  intro p e s m args below meth c s₁ B hml hv
  obtain ⟨hargs, hsz, hv⟩ := hv
  have hx := B.exec
  have hb := B.bytes
  have hr := B.returns
  have hts := atoms_spec (ws := wsX6_init) B.pre
  have hown : s.vm.findClass RX6 = some m.cls := findClass_of_methodNamed B.named
  have hlocks := B.notSynchronized
  have hsz : s.heap.size = sz := hsz
  subst hsz
  obtain ⟨hP, hK⟩ := hv
  obtain ⟨A, hAe⟩ : ∃ A : Nat → Prop, A = fun q => q = a ∨ s.heap.size ≤ q := ⟨_, rfl⟩
  rw [← hAe]
  have hA : ∀ q : Nat, s.heap.size ≤ q → A q := fun q h => by rw [hAe]; exact Or.inr h
  have hAa : A a := by rw [hAe]; exact Or.inl rfl
  have hS : va_S A s.heap s.heap [] := va_S.rf
  have hl := lv_entry ([.ref a, .int p0, .int p1, .int p2, .int p3]) (n := 5) (Nat.le_of_ble_eq_true rfl)
  rw [show entryFrame m args 5 = entryFrame m ([.ref a, .int p0, .int p1, .int p2, .int p3] : List Value).toArray 5 from by rw [hargs], lg_entry_eq]
  generalize (lg_sl ([.ref a, .int p0, .int p1, .int p2, .int p3]) ++ List.replicate (5 - (lg_sl ([.ref a, .int p0, .int p1, .int p2, .int p3])).length) Slot.unset).toArray = ls at hl ⊢
  have hl : lv_has ls 5 [(0, .ref a), (1, .int p0), (2, .int p1), (3, .int p2), (4, .int p3)] := hl
  have hin : meth.name = "<init>" := (name_of_methodNamed B.named B.method).1
  have hinc : ∀ w ∈ wsX90, w ∈ wsX6_init := by decide +kernel
  have hD : va_D A [(a, .inr (9, [.int 0, .int 0, .int 0, .int 0]))] := ⟨fun i j x y hx hy _ => by
    have h1 := (List.getElem?_eq_some_iff.mp hx).1
    have h2 := (List.getElem?_eq_some_iff.mp hy).1
    simp at h1 h2
    omega, fun k x hx => by
    have h1 := (List.getElem?_eq_some_iff.mp hx).1
    simp at h1
    subst h1
    cases hx
    exact hAa⟩
  refine lv_aload_n hx hb dX6_init_0 rfl (lv_at hl 0 rfl) ?_
  refine W.objInit hx hb hown (hts (.methodLink RX6 1 objectInit) (by decide +kernel)) (hts (.instanceMethod objectInit) (by decide +kernel)) (hts _ (List.mem_of_getElem? (i := 3) rfl)) rfl (by rw [hml]; exact hl.1) rfl dX6_init_1 (Nat.le_of_ble_eq_true rfl) (Nat.le_of_ble_eq_true rfl) ?_
  refine W.eq (g2 := F0 m 4 ls []) rfl ?_
  refine lv_aload_n hx hb dX6_init_4 rfl (lv_at hl 0 rfl) ?_
  refine lv_iload_n hx hb dX6_init_5 rfl (lv_at hl 1 rfl) ?_
  refine va_putF (D := (dC, dI)) (ci := 9) (v := .int p0) (ty := .int) (C := RX9) (T := TX9) (N := 4) hx hb hts hinc tyX9 tyX9_ok nmX9 hown hK hP hD hS 0 rfl rfl 0 (by decide) (hts (.fieldLink RX6 7 "OnlyTwo$Plain" "weight" "I") (by decide +kernel)) (fun _ h9 => h9) rfl hin rfl (by decide +kernel) rfl rfl (Nat.le_of_ble_eq_true rfl) dX6_init_6 (fun H locs hP hD hS => ?_)
  have hP : va_P (dC, dI) vwCl [(a, .inr (9, [.int p0, .int 0, .int 0, .int 0]))] H := hP
  have hD : va_D A [(a, .inr (9, [.int p0, .int 0, .int 0, .int 0]))] := hD
  refine lv_aload_n hx hb dX6_init_9 rfl (lv_at hl 0 rfl) ?_
  refine lv_iload_n hx hb dX6_init_10 rfl (lv_at hl 2 rfl) ?_
  refine va_putF (D := (dC, dI)) (ci := 9) (v := .int p1) (ty := .int) (C := RX9) (T := TX9) (N := 4) hx hb hts hinc tyX9 tyX9_ok nmX9 hown hK hP hD hS 0 rfl rfl 1 (by decide) (hts (.fieldLink RX6 13 "OnlyTwo$Plain" "time" "I") (by decide +kernel)) (fun _ h9 => h9) rfl hin rfl (by decide +kernel) rfl rfl (Nat.le_of_ble_eq_true rfl) dX6_init_11 (fun H locs hP hD hS => ?_)
  have hP : va_P (dC, dI) vwCl [(a, .inr (9, [.int p0, .int p1, .int 0, .int 0]))] H := hP
  have hD : va_D A [(a, .inr (9, [.int p0, .int p1, .int 0, .int 0]))] := hD
  refine lv_aload_n hx hb dX6_init_14 rfl (lv_at hl 0 rfl) ?_
  refine lv_iload_n hx hb dX6_init_15 rfl (lv_at hl 3 rfl) ?_
  refine va_putF (D := (dC, dI)) (ci := 9) (v := .int p2) (ty := .int) (C := RX9) (T := TX9) (N := 4) hx hb hts hinc tyX9 tyX9_ok nmX9 hown hK hP hD hS 0 rfl rfl 2 (by decide) (hts (.fieldLink RX6 16 "OnlyTwo$Plain" "hire" "I") (by decide +kernel)) (fun _ h9 => h9) rfl hin rfl (by decide +kernel) rfl rfl (Nat.le_of_ble_eq_true rfl) dX6_init_16 (fun H locs hP hD hS => ?_)
  have hP : va_P (dC, dI) vwCl [(a, .inr (9, [.int p0, .int p1, .int p2, .int 0]))] H := hP
  have hD : va_D A [(a, .inr (9, [.int p0, .int p1, .int p2, .int 0]))] := hD
  refine lv_aload_n hx hb dX6_init_19 rfl (lv_at hl 0 rfl) ?_
  refine lv_iload hx hb dX6_init_20 (lv_at hl 4 rfl) ?_
  refine va_putF (D := (dC, dI)) (ci := 9) (v := .int p3) (ty := .int) (C := RX9) (T := TX9) (N := 4) hx hb hts hinc tyX9 tyX9_ok nmX9 hown hK hP hD hS 0 rfl rfl 3 (by decide) (hts (.fieldLink RX6 19 "OnlyTwo$Plain" "kind" "I") (by decide +kernel)) (fun _ h9 => h9) rfl hin rfl (by decide +kernel) rfl rfl (Nat.le_of_ble_eq_true rfl) dX6_init_22 (fun H locs hP hD hS => ?_)
  have hP : va_P (dC, dI) vwCl [(a, .inr (9, [.int p0, .int p1, .int p2, .int p3]))] H := hP
  have hD : va_D A [(a, .inr (9, [.int p0, .int p1, .int p2, .int p3]))] := hD
  exact rtIv hx hb hr hlocks hP rfl hS dX6_init_25

def rmX4_init : Room := { frames := 2, cells := 0, slots := 0, locals := 36 }
set_option maxHeartbeats 4000000 in
set_option maxRecDepth 100000 in
theorem c_X4_init_4 (l : Launch) (dC : Nat → ClassId) (dI : Nat → Nat → Nat) (sz a : Nat) (p0 p1 p2 p3 : Int32) : cIv l yX4_init wsX4_init rmX4_init dC dI sz [.ref a, .int p0, .int p1, .int p2, .int p3] 4 a [.int 0, .int 0, .int 0, .int 0] (p0, p1, p2, p3) := by
  refine Met.ofW (cc := cX4_init) (maxL := 5) (ret := none) (by decide) rfl ?_
  intro p e s m args below meth c s₁ B hml hv
  obtain ⟨hargs, hsz, hv⟩ := hv
  have hx := B.exec
  have hb := B.bytes
  have hr := B.returns
  have hts := atoms_spec (ws := wsX4_init) B.pre
  have hown : s.vm.findClass RX4 = some m.cls := findClass_of_methodNamed B.named
  have hlocks := B.notSynchronized
  have hsz : s.heap.size = sz := hsz
  subst hsz
  obtain ⟨hP, hK⟩ := hv
  obtain ⟨A, hAe⟩ : ∃ A : Nat → Prop, A = fun q => q = a ∨ s.heap.size ≤ q := ⟨_, rfl⟩
  rw [← hAe]
  have hA : ∀ q : Nat, s.heap.size ≤ q → A q := fun q h => by rw [hAe]; exact Or.inr h
  have hAa : A a := by rw [hAe]; exact Or.inl rfl
  have hS : va_S A s.heap s.heap [] := va_S.rf
  have hl := lv_entry ([.ref a, .int p0, .int p1, .int p2, .int p3]) (n := 5) (Nat.le_of_ble_eq_true rfl)
  rw [show entryFrame m args 5 = entryFrame m ([.ref a, .int p0, .int p1, .int p2, .int p3] : List Value).toArray 5 from by rw [hargs], lg_entry_eq]
  generalize (lg_sl ([.ref a, .int p0, .int p1, .int p2, .int p3]) ++ List.replicate (5 - (lg_sl ([.ref a, .int p0, .int p1, .int p2, .int p3])).length) Slot.unset).toArray = ls at hl ⊢
  have hl : lv_has ls 5 [(0, .ref a), (1, .int p0), (2, .int p1), (3, .int p2), (4, .int p3)] := hl
  refine lv_aload_n hx hb dX4_init_0 rfl (lv_at hl 0 rfl) ?_
  refine lv_iload_n hx hb dX4_init_1 rfl (lv_at hl 1 rfl) ?_
  refine lv_iload_n hx hb dX4_init_2 rfl (lv_at hl 2 rfl) ?_
  refine lv_iload_n hx hb dX4_init_3 rfl (lv_at hl 3 rfl) ?_
  refine lv_iload hx hb dX4_init_4 (lv_at hl 4 rfl) ?_
  refine klI (rest := []) (As := [.int p0, .int p1, .int p2, .int p3]) ⟨hx, hb, hml, hown, hts⟩ (c_X6_init_4 l dC dI s.heap.size a p0 p1 p2 p3) (cwI 4 hts gX4_init_X6_init rfl rfl rfl (hts (.initialized RX6) (by decide +kernel)) (hts (.methodLink RX4 1 yX6_init) (by decide +kernel)) (hts (.instanceMethod yX6_init) (by decide +kernel)) rfl (by decide +kernel) ⟨Nat.le_of_ble_eq_true rfl, Nat.le_of_ble_eq_true rfl⟩) rfl hl.1 rfl (Nat.le_of_ble_eq_true rfl) dX4_init_6 ⟨Nat.zero_le _, Nat.zero_le _⟩ hK hP hS hAa hA (fun H locs hP _ hS => ?_)
  exact rtIv hx hb hr hlocks hP rfl hS dX4_init_9

set_option maxHeartbeats 4000000 in
set_option maxRecDepth 100000 in
theorem c_X4_init_9 (l : Launch) (dC : Nat → ClassId) (dI : Nat → Nat → Nat) (sz a : Nat) (p0 p1 p2 p3 : Int32) : cIv l yX4_init wsX4_init rmX4_init dC dI sz [.ref a, .int p0, .int p1, .int p2, .int p3] 9 a [.int 0, .int 0, .int 0, .int 0] (p0, p1, p2, p3) := by
  refine Met.ofW (cc := cX4_init) (maxL := 5) (ret := none) (by decide) rfl ?_
  intro p e s m args below meth c s₁ B hml hv
  obtain ⟨hargs, hsz, hv⟩ := hv
  have hx := B.exec
  have hb := B.bytes
  have hr := B.returns
  have hts := atoms_spec (ws := wsX4_init) B.pre
  have hown : s.vm.findClass RX4 = some m.cls := findClass_of_methodNamed B.named
  have hlocks := B.notSynchronized
  have hsz : s.heap.size = sz := hsz
  subst hsz
  obtain ⟨hP, hK⟩ := hv
  obtain ⟨A, hAe⟩ : ∃ A : Nat → Prop, A = fun q => q = a ∨ s.heap.size ≤ q := ⟨_, rfl⟩
  rw [← hAe]
  have hA : ∀ q : Nat, s.heap.size ≤ q → A q := fun q h => by rw [hAe]; exact Or.inr h
  have hAa : A a := by rw [hAe]; exact Or.inl rfl
  have hS : va_S A s.heap s.heap [] := va_S.rf
  have hl := lv_entry ([.ref a, .int p0, .int p1, .int p2, .int p3]) (n := 5) (Nat.le_of_ble_eq_true rfl)
  rw [show entryFrame m args 5 = entryFrame m ([.ref a, .int p0, .int p1, .int p2, .int p3] : List Value).toArray 5 from by rw [hargs], lg_entry_eq]
  generalize (lg_sl ([.ref a, .int p0, .int p1, .int p2, .int p3]) ++ List.replicate (5 - (lg_sl ([.ref a, .int p0, .int p1, .int p2, .int p3])).length) Slot.unset).toArray = ls at hl ⊢
  have hl : lv_has ls 5 [(0, .ref a), (1, .int p0), (2, .int p1), (3, .int p2), (4, .int p3)] := hl
  refine lv_aload_n hx hb dX4_init_0 rfl (lv_at hl 0 rfl) ?_
  refine lv_iload_n hx hb dX4_init_1 rfl (lv_at hl 1 rfl) ?_
  refine lv_iload_n hx hb dX4_init_2 rfl (lv_at hl 2 rfl) ?_
  refine lv_iload_n hx hb dX4_init_3 rfl (lv_at hl 3 rfl) ?_
  refine lv_iload hx hb dX4_init_4 (lv_at hl 4 rfl) ?_
  refine klI (rest := []) (As := [.int p0, .int p1, .int p2, .int p3]) ⟨hx, hb, hml, hown, hts⟩ (c_X6_init_9 l dC dI s.heap.size a p0 p1 p2 p3) (cwI 4 hts gX4_init_X6_init rfl rfl rfl (hts (.initialized RX6) (by decide +kernel)) (hts (.methodLink RX4 1 yX6_init) (by decide +kernel)) (hts (.instanceMethod yX6_init) (by decide +kernel)) rfl (by decide +kernel) ⟨Nat.le_of_ble_eq_true rfl, Nat.le_of_ble_eq_true rfl⟩) rfl hl.1 rfl (Nat.le_of_ble_eq_true rfl) dX4_init_6 ⟨Nat.zero_le _, Nat.zero_le _⟩ hK hP hS hAa hA (fun H locs hP _ hS => ?_)
  exact rtIv hx hb hr hlocks hP rfl hS dX4_init_9

def rmX3_init : Room := { frames := 2, cells := 0, slots := 0, locals := 36 }
set_option maxHeartbeats 4000000 in
set_option maxRecDepth 100000 in
theorem c_X3_init_3 (l : Launch) (dC : Nat → ClassId) (dI : Nat → Nat → Nat) (sz a : Nat) (p0 p1 p2 p3 : Int32) : cIv l yX3_init wsX3_init rmX3_init dC dI sz [.ref a, .int p0, .int p1, .int p2, .int p3] 3 a [.int 0, .int 0, .int 0, .int 0] (p0, p1, p2, p3) := by
  refine Met.ofW (cc := cX3_init) (maxL := 5) (ret := none) (by decide) rfl ?_
  intro p e s m args below meth c s₁ B hml hv
  obtain ⟨hargs, hsz, hv⟩ := hv
  have hx := B.exec
  have hb := B.bytes
  have hr := B.returns
  have hts := atoms_spec (ws := wsX3_init) B.pre
  have hown : s.vm.findClass RX3 = some m.cls := findClass_of_methodNamed B.named
  have hlocks := B.notSynchronized
  have hsz : s.heap.size = sz := hsz
  subst hsz
  obtain ⟨hP, hK⟩ := hv
  obtain ⟨A, hAe⟩ : ∃ A : Nat → Prop, A = fun q => q = a ∨ s.heap.size ≤ q := ⟨_, rfl⟩
  rw [← hAe]
  have hA : ∀ q : Nat, s.heap.size ≤ q → A q := fun q h => by rw [hAe]; exact Or.inr h
  have hAa : A a := by rw [hAe]; exact Or.inl rfl
  have hS : va_S A s.heap s.heap [] := va_S.rf
  have hl := lv_entry ([.ref a, .int p0, .int p1, .int p2, .int p3]) (n := 5) (Nat.le_of_ble_eq_true rfl)
  rw [show entryFrame m args 5 = entryFrame m ([.ref a, .int p0, .int p1, .int p2, .int p3] : List Value).toArray 5 from by rw [hargs], lg_entry_eq]
  generalize (lg_sl ([.ref a, .int p0, .int p1, .int p2, .int p3]) ++ List.replicate (5 - (lg_sl ([.ref a, .int p0, .int p1, .int p2, .int p3])).length) Slot.unset).toArray = ls at hl ⊢
  have hl : lv_has ls 5 [(0, .ref a), (1, .int p0), (2, .int p1), (3, .int p2), (4, .int p3)] := hl
  refine lv_aload_n hx hb dX3_init_0 rfl (lv_at hl 0 rfl) ?_
  refine lv_iload_n hx hb dX3_init_1 rfl (lv_at hl 1 rfl) ?_
  refine lv_iload_n hx hb dX3_init_2 rfl (lv_at hl 2 rfl) ?_
  refine lv_iload_n hx hb dX3_init_3 rfl (lv_at hl 3 rfl) ?_
  refine lv_iload hx hb dX3_init_4 (lv_at hl 4 rfl) ?_
  refine klI (rest := []) (As := [.int p0, .int p1, .int p2, .int p3]) ⟨hx, hb, hml, hown, hts⟩ (c_X6_init_3 l dC dI s.heap.size a p0 p1 p2 p3) (cwI 4 hts gX3_init_X6_init rfl rfl rfl (hts (.initialized RX6) (by decide +kernel)) (hts (.methodLink RX3 1 yX6_init) (by decide +kernel)) (hts (.instanceMethod yX6_init) (by decide +kernel)) rfl (by decide +kernel) ⟨Nat.le_of_ble_eq_true rfl, Nat.le_of_ble_eq_true rfl⟩) rfl hl.1 rfl (Nat.le_of_ble_eq_true rfl) dX3_init_6 ⟨Nat.zero_le _, Nat.zero_le _⟩ hK hP hS hAa hA (fun H locs hP _ hS => ?_)
  exact rtIv hx hb hr hlocks hP rfl hS dX3_init_9

set_option maxHeartbeats 4000000 in
set_option maxRecDepth 100000 in
theorem c_X3_init_0 (l : Launch) (dC : Nat → ClassId) (dI : Nat → Nat → Nat) (sz a : Nat) (p0 p1 p2 p3 : Int32) : cIv l yX3_init wsX3_init rmX3_init dC dI sz [.ref a, .int p0, .int p1, .int p2, .int p3] 0 a [.int 0, .int 0, .int 0, .int 0] (p0, p1, p2, p3) := by
  refine Met.ofW (cc := cX3_init) (maxL := 5) (ret := none) (by decide) rfl ?_
  intro p e s m args below meth c s₁ B hml hv
  obtain ⟨hargs, hsz, hv⟩ := hv
  have hx := B.exec
  have hb := B.bytes
  have hr := B.returns
  have hts := atoms_spec (ws := wsX3_init) B.pre
  have hown : s.vm.findClass RX3 = some m.cls := findClass_of_methodNamed B.named
  have hlocks := B.notSynchronized
  have hsz : s.heap.size = sz := hsz
  subst hsz
  obtain ⟨hP, hK⟩ := hv
  obtain ⟨A, hAe⟩ : ∃ A : Nat → Prop, A = fun q => q = a ∨ s.heap.size ≤ q := ⟨_, rfl⟩
  rw [← hAe]
  have hA : ∀ q : Nat, s.heap.size ≤ q → A q := fun q h => by rw [hAe]; exact Or.inr h
  have hAa : A a := by rw [hAe]; exact Or.inl rfl
  have hS : va_S A s.heap s.heap [] := va_S.rf
  have hl := lv_entry ([.ref a, .int p0, .int p1, .int p2, .int p3]) (n := 5) (Nat.le_of_ble_eq_true rfl)
  rw [show entryFrame m args 5 = entryFrame m ([.ref a, .int p0, .int p1, .int p2, .int p3] : List Value).toArray 5 from by rw [hargs], lg_entry_eq]
  generalize (lg_sl ([.ref a, .int p0, .int p1, .int p2, .int p3]) ++ List.replicate (5 - (lg_sl ([.ref a, .int p0, .int p1, .int p2, .int p3])).length) Slot.unset).toArray = ls at hl ⊢
  have hl : lv_has ls 5 [(0, .ref a), (1, .int p0), (2, .int p1), (3, .int p2), (4, .int p3)] := hl
  refine lv_aload_n hx hb dX3_init_0 rfl (lv_at hl 0 rfl) ?_
  refine lv_iload_n hx hb dX3_init_1 rfl (lv_at hl 1 rfl) ?_
  refine lv_iload_n hx hb dX3_init_2 rfl (lv_at hl 2 rfl) ?_
  refine lv_iload_n hx hb dX3_init_3 rfl (lv_at hl 3 rfl) ?_
  refine lv_iload hx hb dX3_init_4 (lv_at hl 4 rfl) ?_
  refine klI (rest := []) (As := [.int p0, .int p1, .int p2, .int p3]) ⟨hx, hb, hml, hown, hts⟩ (c_X6_init_0 l dC dI s.heap.size a p0 p1 p2 p3) (cwI 4 hts gX3_init_X6_init rfl rfl rfl (hts (.initialized RX6) (by decide +kernel)) (hts (.methodLink RX3 1 yX6_init) (by decide +kernel)) (hts (.instanceMethod yX6_init) (by decide +kernel)) rfl (by decide +kernel) ⟨Nat.le_of_ble_eq_true rfl, Nat.le_of_ble_eq_true rfl⟩) rfl hl.1 rfl (Nat.le_of_ble_eq_true rfl) dX3_init_6 ⟨Nat.zero_le _, Nat.zero_le _⟩ hK hP hS hAa hA (fun H locs hP _ hS => ?_)
  exact rtIv hx hb hr hlocks hP rfl hS dX3_init_9

def rmX2_init : Room := { frames := 2, cells := 0, slots := 0, locals := 36 }
set_option maxHeartbeats 4000000 in
set_option maxRecDepth 100000 in
theorem c_X2_init_2 (l : Launch) (dC : Nat → ClassId) (dI : Nat → Nat → Nat) (sz a : Nat) (p0 p1 p2 p3 : Int32) : cIv l yX2_init wsX2_init rmX2_init dC dI sz [.ref a, .int p0, .int p1, .int p2, .int p3] 2 a [.int 0, .int 0, .int 0, .int 0] (p0, p1, p2, p3) := by
  refine Met.ofW (cc := cX2_init) (maxL := 5) (ret := none) (by decide) rfl ?_
  intro p e s m args below meth c s₁ B hml hv
  obtain ⟨hargs, hsz, hv⟩ := hv
  have hx := B.exec
  have hb := B.bytes
  have hr := B.returns
  have hts := atoms_spec (ws := wsX2_init) B.pre
  have hown : s.vm.findClass RX2 = some m.cls := findClass_of_methodNamed B.named
  have hlocks := B.notSynchronized
  have hsz : s.heap.size = sz := hsz
  subst hsz
  obtain ⟨hP, hK⟩ := hv
  obtain ⟨A, hAe⟩ : ∃ A : Nat → Prop, A = fun q => q = a ∨ s.heap.size ≤ q := ⟨_, rfl⟩
  rw [← hAe]
  have hA : ∀ q : Nat, s.heap.size ≤ q → A q := fun q h => by rw [hAe]; exact Or.inr h
  have hAa : A a := by rw [hAe]; exact Or.inl rfl
  have hS : va_S A s.heap s.heap [] := va_S.rf
  have hl := lv_entry ([.ref a, .int p0, .int p1, .int p2, .int p3]) (n := 5) (Nat.le_of_ble_eq_true rfl)
  rw [show entryFrame m args 5 = entryFrame m ([.ref a, .int p0, .int p1, .int p2, .int p3] : List Value).toArray 5 from by rw [hargs], lg_entry_eq]
  generalize (lg_sl ([.ref a, .int p0, .int p1, .int p2, .int p3]) ++ List.replicate (5 - (lg_sl ([.ref a, .int p0, .int p1, .int p2, .int p3])).length) Slot.unset).toArray = ls at hl ⊢
  have hl : lv_has ls 5 [(0, .ref a), (1, .int p0), (2, .int p1), (3, .int p2), (4, .int p3)] := hl
  refine lv_aload_n hx hb dX2_init_0 rfl (lv_at hl 0 rfl) ?_
  refine lv_iload_n hx hb dX2_init_1 rfl (lv_at hl 1 rfl) ?_
  refine lv_iload_n hx hb dX2_init_2 rfl (lv_at hl 2 rfl) ?_
  refine lv_iload_n hx hb dX2_init_3 rfl (lv_at hl 3 rfl) ?_
  refine lv_iload hx hb dX2_init_4 (lv_at hl 4 rfl) ?_
  refine klI (rest := []) (As := [.int p0, .int p1, .int p2, .int p3]) ⟨hx, hb, hml, hown, hts⟩ (c_X6_init_2 l dC dI s.heap.size a p0 p1 p2 p3) (cwI 4 hts gX2_init_X6_init rfl rfl rfl (hts (.initialized RX6) (by decide +kernel)) (hts (.methodLink RX2 1 yX6_init) (by decide +kernel)) (hts (.instanceMethod yX6_init) (by decide +kernel)) rfl (by decide +kernel) ⟨Nat.le_of_ble_eq_true rfl, Nat.le_of_ble_eq_true rfl⟩) rfl hl.1 rfl (Nat.le_of_ble_eq_true rfl) dX2_init_6 ⟨Nat.zero_le _, Nat.zero_le _⟩ hK hP hS hAa hA (fun H locs hP _ hS => ?_)
  exact rtIv hx hb hr hlocks hP rfl hS dX2_init_9

def rmX9_init : Room := { frames := 3, cells := 0, slots := 0, locals := 60 }
set_option maxHeartbeats 4000000 in
set_option maxRecDepth 100000 in
theorem c_X9_init_9 (l : Launch) (dC : Nat → ClassId) (dI : Nat → Nat → Nat) (sz a : Nat) (p0 p1 p2 p3 : Int32) : cIv l yX9_init wsX9_init rmX9_init dC dI sz [.ref a, .int p0, .int p1, .int p2, .int p3] 9 a [.int 0, .int 0, .int 0, .int 0] (p0, p1, p2, p3) := by
  refine Met.ofW (cc := cX9_init) (maxL := 5) (ret := none) (by decide) rfl ?_
  intro p e s m args below meth c s₁ B hml hv
  obtain ⟨hargs, hsz, hv⟩ := hv
  have hx := B.exec
  have hb := B.bytes
  have hr := B.returns
  have hts := atoms_spec (ws := wsX9_init) B.pre
  have hown : s.vm.findClass RX9 = some m.cls := findClass_of_methodNamed B.named
  have hlocks := B.notSynchronized
  have hsz : s.heap.size = sz := hsz
  subst hsz
  obtain ⟨hP, hK⟩ := hv
  obtain ⟨A, hAe⟩ : ∃ A : Nat → Prop, A = fun q => q = a ∨ s.heap.size ≤ q := ⟨_, rfl⟩
  rw [← hAe]
  have hA : ∀ q : Nat, s.heap.size ≤ q → A q := fun q h => by rw [hAe]; exact Or.inr h
  have hAa : A a := by rw [hAe]; exact Or.inl rfl
  have hS : va_S A s.heap s.heap [] := va_S.rf
  have hl := lv_entry ([.ref a, .int p0, .int p1, .int p2, .int p3]) (n := 5) (Nat.le_of_ble_eq_true rfl)
  rw [show entryFrame m args 5 = entryFrame m ([.ref a, .int p0, .int p1, .int p2, .int p3] : List Value).toArray 5 from by rw [hargs], lg_entry_eq]
  generalize (lg_sl ([.ref a, .int p0, .int p1, .int p2, .int p3]) ++ List.replicate (5 - (lg_sl ([.ref a, .int p0, .int p1, .int p2, .int p3])).length) Slot.unset).toArray = ls at hl ⊢
  have hl : lv_has ls 5 [(0, .ref a), (1, .int p0), (2, .int p1), (3, .int p2), (4, .int p3)] := hl
  refine lv_aload_n hx hb dX9_init_0 rfl (lv_at hl 0 rfl) ?_
  refine lv_iload_n hx hb dX9_init_1 rfl (lv_at hl 1 rfl) ?_
  refine lv_iload_n hx hb dX9_init_2 rfl (lv_at hl 2 rfl) ?_
  refine lv_iload_n hx hb dX9_init_3 rfl (lv_at hl 3 rfl) ?_
  refine lv_iload hx hb dX9_init_4 (lv_at hl 4 rfl) ?_
  refine klI (rest := []) (As := [.int p0, .int p1, .int p2, .int p3]) ⟨hx, hb, hml, hown, hts⟩ (c_X4_init_9 l dC dI s.heap.size a p0 p1 p2 p3) (cwI 4 hts gX9_init_X4_init rfl rfl rfl (hts (.initialized RX4) (by decide +kernel)) (hts (.methodLink RX9 1 yX4_init) (by decide +kernel)) (hts (.instanceMethod yX4_init) (by decide +kernel)) rfl (by decide +kernel) ⟨Nat.le_of_ble_eq_true rfl, Nat.le_of_ble_eq_true rfl⟩) rfl hl.1 rfl (Nat.le_of_ble_eq_true rfl) dX9_init_6 ⟨Nat.zero_le _, Nat.zero_le _⟩ hK hP hS hAa hA (fun H locs hP _ hS => ?_)
  exact rtIv hx hb hr hlocks hP rfl hS dX9_init_9

def rmX0_init : Room := { frames := 3, cells := 0, slots := 0, locals := 60 }
set_option maxHeartbeats 4000000 in
set_option maxRecDepth 100000 in
theorem c_X0_init_0 (l : Launch) (dC : Nat → ClassId) (dI : Nat → Nat → Nat) (sz a : Nat) (p0 p1 p2 p3 : Int32) : cIv l yX0_init wsX0_init rmX0_init dC dI sz [.ref a, .int p0, .int p1, .int p2, .int p3] 0 a [.int 0, .int 0, .int 0, .int 0] (p0, p1, p2, p3) := by
  refine Met.ofW (cc := cX0_init) (maxL := 5) (ret := none) (by decide) rfl ?_
  intro p e s m args below meth c s₁ B hml hv
  obtain ⟨hargs, hsz, hv⟩ := hv
  have hx := B.exec
  have hb := B.bytes
  have hr := B.returns
  have hts := atoms_spec (ws := wsX0_init) B.pre
  have hown : s.vm.findClass RX0 = some m.cls := findClass_of_methodNamed B.named
  have hlocks := B.notSynchronized
  have hsz : s.heap.size = sz := hsz
  subst hsz
  obtain ⟨hP, hK⟩ := hv
  obtain ⟨A, hAe⟩ : ∃ A : Nat → Prop, A = fun q => q = a ∨ s.heap.size ≤ q := ⟨_, rfl⟩
  rw [← hAe]
  have hA : ∀ q : Nat, s.heap.size ≤ q → A q := fun q h => by rw [hAe]; exact Or.inr h
  have hAa : A a := by rw [hAe]; exact Or.inl rfl
  have hS : va_S A s.heap s.heap [] := va_S.rf
  have hl := lv_entry ([.ref a, .int p0, .int p1, .int p2, .int p3]) (n := 5) (Nat.le_of_ble_eq_true rfl)
  rw [show entryFrame m args 5 = entryFrame m ([.ref a, .int p0, .int p1, .int p2, .int p3] : List Value).toArray 5 from by rw [hargs], lg_entry_eq]
  generalize (lg_sl ([.ref a, .int p0, .int p1, .int p2, .int p3]) ++ List.replicate (5 - (lg_sl ([.ref a, .int p0, .int p1, .int p2, .int p3])).length) Slot.unset).toArray = ls at hl ⊢
  have hl : lv_has ls 5 [(0, .ref a), (1, .int p0), (2, .int p1), (3, .int p2), (4, .int p3)] := hl
  refine lv_aload_n hx hb dX0_init_0 rfl (lv_at hl 0 rfl) ?_
  refine lv_iload_n hx hb dX0_init_1 rfl (lv_at hl 1 rfl) ?_
  refine lv_iload_n hx hb dX0_init_2 rfl (lv_at hl 2 rfl) ?_
  refine lv_iload_n hx hb dX0_init_3 rfl (lv_at hl 3 rfl) ?_
  refine lv_iload hx hb dX0_init_4 (lv_at hl 4 rfl) ?_
  refine klI (rest := []) (As := [.int p0, .int p1, .int p2, .int p3]) ⟨hx, hb, hml, hown, hts⟩ (c_X3_init_0 l dC dI s.heap.size a p0 p1 p2 p3) (cwI 4 hts gX0_init_X3_init rfl rfl rfl (hts (.initialized RX3) (by decide +kernel)) (hts (.methodLink RX0 1 yX3_init) (by decide +kernel)) (hts (.instanceMethod yX3_init) (by decide +kernel)) rfl (by decide +kernel) ⟨Nat.le_of_ble_eq_true rfl, Nat.le_of_ble_eq_true rfl⟩) rfl hl.1 rfl (Nat.le_of_ble_eq_true rfl) dX0_init_6 ⟨Nat.zero_le _, Nat.zero_le _⟩ hK hP hS hAa hA (fun H locs hP _ hS => ?_)
  exact rtIv hx hb hr hlocks hP rfl hS dX0_init_9

def rmX10_newPorter : Room := { frames := 4, cells := 1, slots := 4, locals := 84 }
set_option maxHeartbeats 4000000 in
set_option maxRecDepth 100000 in
theorem c_X10_newPorter (l : Launch) (dC : Nat → ClassId) (dI : Nat → Nat → Nat) (t : Nat → ClassId) (ts aK aV : Nat → Nat) (A : Nat → Prop) (h : Nat → Nat) (tx sz : Nat) (hA : ∀ q : Nat, sz ≤ q → A q) (S : CS) (p0 p1 p2 p3 : Int32) : cCn l yX10_newPorter wsX10_newPorter rmX10_newPorter dC dI t ts aK aV A h tx sz [.int p0, .int p1, .int p2, .int p3] S (p0, p1, p2, p3) := by
  refine Met.ofW (cc := cX10_newPorter) (maxL := 4) (ret := (some (.object "OnlyTwo$Plain"))) (by decide) rfl ?_
  intro p e s m args below meth c s₁ B hml hv
  obtain ⟨hargs, hsz, hv⟩ := hv
  have hx := B.exec
  have hb := B.bytes
  have hr := B.returns
  have hts := atoms_spec (ws := wsX10_newPorter) B.pre
  have hown : s.vm.findClass RX10 = some m.cls := findClass_of_methodNamed B.named
  have hlocks := B.notSynchronized
  have hsz : s.heap.size = sz := hsz
  subst hsz
  obtain ⟨hE, hC, hK⟩ := hv
  obtain ⟨g, LP, pf, hP, hD, hG⟩ := hC
  have hS : va_S A s.heap s.heap [] := va_S.rf
  have hl := lv_entry ([.int p0, .int p1, .int p2, .int p3]) (n := 4) (Nat.le_of_ble_eq_true rfl)
  rw [show entryFrame m args 4 = entryFrame m ([.int p0, .int p1, .int p2, .int p3] : List Value).toArray 4 from by rw [hargs], lg_entry_eq]
  generalize (lg_sl ([.int p0, .int p1, .int p2, .int p3]) ++ List.replicate (4 - (lg_sl ([.int p0, .int p1, .int p2, .int p3])).length) Slot.unset).toArray = ls at hl ⊢
  have hl : lv_has ls 4 [(0, .int p0), (1, .int p1), (2, .int p2), (3, .int p3)] := hl
  refine lv_iload_n hx hb dX10_newPorter_0 rfl (lv_at hl 3 rfl) ?_
  by_cases c1 : p3 = 1
  · refine lv_tableIn (tgt := 36) hx hb dX10_newPorter_1 (by rw [c1]; decide) (by rw [c1]; decide) (by rw [c1]; rfl) (by decide) ?_
    refine va_new (ci := 4) (fs := [.int 0, .int 0, .int 0, .int 0]) (C := RX4) (T := TX4) (N := 4) hx hb hts (by decide +kernel) tyX4 tyX4_ok hown (hts (.classLink RX10 205 RX4) (by decide +kernel)) (hts (.instantiable RX4 4) (by decide +kernel)) (hts (.initialized RX4) (by decide +kernel)) hK hP hD hS hA rfl (fun j hj => by rcases (show j = 0 ∨ j = 1 ∨ j = 2 ∨ j = 3 by omega) with rfl | rfl | rfl | rfl <;> rfl) (Nat.le_of_ble_eq_true rfl) (Nat.le_of_ble_eq_true rfl) dX10_newPorter_36 (fun q H hP hD hS => ?_)
    refine W.widen (k := 1) (n := 4) (Nat.le_of_ble_eq_true rfl) (Nat.le_of_ble_eq_true rfl) ?_
    refine lv_dup hx hb dX10_newPorter_39 rfl ?_
    refine lv_iload_n hx hb dX10_newPorter_40 rfl (lv_at hl 0 rfl) ?_
    refine lv_iload_n hx hb dX10_newPorter_41 rfl (lv_at hl 1 rfl) ?_
    refine lv_iload_n hx hb dX10_newPorter_42 rfl (lv_at hl 2 rfl) ?_
    refine lv_iload_n hx hb dX10_newPorter_43 rfl (lv_at hl 3 rfl) ?_
    have hPa : va_P (dC, dI) vwCl [(q, .inr (4, [.int 0, .int 0, .int 0, .int 0]))] H := hP.by (fun _ => (wC t h tx g S ++ va_pl LP pf).length) (fun i x hx => by match i, hx with | 0, hx => cases hx; exact va_lastAt)
    refine klI (rest := [.ref q]) (As := [.int p0, .int p1, .int p2, .int p3]) ⟨hx, hb, hml, hown, hts⟩ (c_X4_init_4 l dC dI H.size q p0 p1 p2 p3) (cwI 4 hts gX10_newPorter_X4_init rfl rfl rfl (hts (.initialized RX4) (by decide +kernel)) (hts (.methodLink RX10 207 yX4_init) (by decide +kernel)) (hts (.instanceMethod yX4_init) (by decide +kernel)) rfl (by decide +kernel) ⟨Nat.le_of_ble_eq_true rfl, Nat.le_of_ble_eq_true rfl⟩) rfl hl.1 rfl (Nat.le_of_ble_eq_true rfl) dX10_newPorter_44 ⟨Nat.le_of_ble_eq_true rfl, Nat.le_of_ble_eq_true rfl⟩ (hK.sub [] rfl) hPa hS (hD.2 _ _ va_lastAt) hA (fun H1 locs hP1 ho hS => ?_)
    obtain ⟨hP, hD, hq⟩ := npA (e := pdE (p0, p1, p2, p3)) hP hD (by rw [show pdE (p0, p1, p2, p3) = .inr (4, pdV (p0, p1, p2, p3)) from by unfold pdE; rw [show clsOf p3 = 4 from by rw [c1]; rfl]]; exact hP1) ho
    exact rtCn hx hb hr (Or.inl ⟨_, rfl⟩) hlocks ⟨g, LP ++ [q], va_up pf q (pdE (p0, p1, p2, p3)), hP, hD, npG hG hq, List.mem_append_right _ (List.mem_singleton.mpr rfl), va_up_self _ _ _⟩ hS dX10_newPorter_47
  · have n1 : p3.toInt ≠ 1 := fun q => c1 (Int32.toInt_inj.mp (q.trans rfl))
    by_cases c2 : p3 = 2
    · refine lv_tableIn (tgt := 48) hx hb dX10_newPorter_1 (by rw [c2]; decide) (by rw [c2]; decide) (by rw [c2]; rfl) (by decide) ?_
      refine va_new (ci := 3) (fs := [.int 0, .int 0, .int 0, .int 0]) (C := RX3) (T := TX3) (N := 4) hx hb hts (by decide +kernel) tyX3 tyX3_ok hown (hts (.classLink RX10 210 RX3) (by decide +kernel)) (hts (.instantiable RX3 4) (by decide +kernel)) (hts (.initialized RX3) (by decide +kernel)) hK hP hD hS hA rfl (fun j hj => by rcases (show j = 0 ∨ j = 1 ∨ j = 2 ∨ j = 3 by omega) with rfl | rfl | rfl | rfl <;> rfl) (Nat.le_of_ble_eq_true rfl) (Nat.le_of_ble_eq_true rfl) dX10_newPorter_48 (fun q H hP hD hS => ?_)
      refine W.widen (k := 1) (n := 4) (Nat.le_of_ble_eq_true rfl) (Nat.le_of_ble_eq_true rfl) ?_
      refine lv_dup hx hb dX10_newPorter_51 rfl ?_
      refine lv_iload_n hx hb dX10_newPorter_52 rfl (lv_at hl 0 rfl) ?_
      refine lv_iload_n hx hb dX10_newPorter_53 rfl (lv_at hl 1 rfl) ?_
      refine lv_iload_n hx hb dX10_newPorter_54 rfl (lv_at hl 2 rfl) ?_
      refine lv_iload_n hx hb dX10_newPorter_55 rfl (lv_at hl 3 rfl) ?_
      have hPa : va_P (dC, dI) vwCl [(q, .inr (3, [.int 0, .int 0, .int 0, .int 0]))] H := hP.by (fun _ => (wC t h tx g S ++ va_pl LP pf).length) (fun i x hx => by match i, hx with | 0, hx => cases hx; exact va_lastAt)
      refine klI (rest := [.ref q]) (As := [.int p0, .int p1, .int p2, .int p3]) ⟨hx, hb, hml, hown, hts⟩ (c_X3_init_3 l dC dI H.size q p0 p1 p2 p3) (cwI 4 hts gX10_newPorter_X3_init rfl rfl rfl (hts (.initialized RX3) (by decide +kernel)) (hts (.methodLink RX10 212 yX3_init) (by decide +kernel)) (hts (.instanceMethod yX3_init) (by decide +kernel)) rfl (by decide +kernel) ⟨Nat.le_of_ble_eq_true rfl, Nat.le_of_ble_eq_true rfl⟩) rfl hl.1 rfl (Nat.le_of_ble_eq_true rfl) dX10_newPorter_56 ⟨Nat.le_of_ble_eq_true rfl, Nat.le_of_ble_eq_true rfl⟩ (hK.sub [] rfl) hPa hS (hD.2 _ _ va_lastAt) hA (fun H1 locs hP1 ho hS => ?_)
      obtain ⟨hP, hD, hq⟩ := npA (e := pdE (p0, p1, p2, p3)) hP hD (by rw [show pdE (p0, p1, p2, p3) = .inr (3, pdV (p0, p1, p2, p3)) from by unfold pdE; rw [show clsOf p3 = 3 from by rw [c2]; rfl]]; exact hP1) ho
      exact rtCn hx hb hr (Or.inl ⟨_, rfl⟩) hlocks ⟨g, LP ++ [q], va_up pf q (pdE (p0, p1, p2, p3)), hP, hD, npG hG hq, List.mem_append_right _ (List.mem_singleton.mpr rfl), va_up_self _ _ _⟩ hS dX10_newPorter_59
    · have n2 : p3.toInt ≠ 2 := fun q => c2 (Int32.toInt_inj.mp (q.trans rfl))
      by_cases c3 : p3 = 3
      · refine lv_tableIn (tgt := 60) hx hb dX10_newPorter_1 (by rw [c3]; decide) (by rw [c3]; decide) (by rw [c3]; rfl) (by decide) ?_
        refine va_new (ci := 9) (fs := [.int 0, .int 0, .int 0, .int 0]) (C := RX9) (T := TX9) (N := 4) hx hb hts (by decide +kernel) tyX9 tyX9_ok hown (hts (.classLink RX10 213 RX9) (by decide +kernel)) (hts (.instantiable RX9 4) (by decide +kernel)) (hts (.initialized RX9) (by decide +kernel)) hK hP hD hS hA rfl (fun j hj => by rcases (show j = 0 ∨ j = 1 ∨ j = 2 ∨ j = 3 by omega) with rfl | rfl | rfl | rfl <;> rfl) (Nat.le_of_ble_eq_true rfl) (Nat.le_of_ble_eq_true rfl) dX10_newPorter_60 (fun q H hP hD hS => ?_)
        refine W.widen (k := 1) (n := 4) (Nat.le_of_ble_eq_true rfl) (Nat.le_of_ble_eq_true rfl) ?_
        refine lv_dup hx hb dX10_newPorter_63 rfl ?_
        refine lv_iload_n hx hb dX10_newPorter_64 rfl (lv_at hl 0 rfl) ?_
        refine lv_iload_n hx hb dX10_newPorter_65 rfl (lv_at hl 1 rfl) ?_
        refine lv_iload_n hx hb dX10_newPorter_66 rfl (lv_at hl 2 rfl) ?_
        refine lv_iload_n hx hb dX10_newPorter_67 rfl (lv_at hl 3 rfl) ?_
        have hPa : va_P (dC, dI) vwCl [(q, .inr (9, [.int 0, .int 0, .int 0, .int 0]))] H := hP.by (fun _ => (wC t h tx g S ++ va_pl LP pf).length) (fun i x hx => by match i, hx with | 0, hx => cases hx; exact va_lastAt)
        refine klI (rest := [.ref q]) (As := [.int p0, .int p1, .int p2, .int p3]) ⟨hx, hb, hml, hown, hts⟩ (c_X9_init_9 l dC dI H.size q p0 p1 p2 p3) (cwI 4 hts gX10_newPorter_X9_init rfl rfl rfl (hts (.initialized RX9) (by decide +kernel)) (hts (.methodLink RX10 215 yX9_init) (by decide +kernel)) (hts (.instanceMethod yX9_init) (by decide +kernel)) rfl (by decide +kernel) ⟨Nat.le_of_ble_eq_true rfl, Nat.le_of_ble_eq_true rfl⟩) rfl hl.1 rfl (Nat.le_of_ble_eq_true rfl) dX10_newPorter_68 ⟨Nat.le_of_ble_eq_true rfl, Nat.le_of_ble_eq_true rfl⟩ (hK.sub [] rfl) hPa hS (hD.2 _ _ va_lastAt) hA (fun H1 locs hP1 ho hS => ?_)
        obtain ⟨hP, hD, hq⟩ := npA (e := pdE (p0, p1, p2, p3)) hP hD (by rw [show pdE (p0, p1, p2, p3) = .inr (9, pdV (p0, p1, p2, p3)) from by unfold pdE; rw [show clsOf p3 = 9 from by rw [c3]; rfl]]; exact hP1) ho
        exact rtCn hx hb hr (Or.inl ⟨_, rfl⟩) hlocks ⟨g, LP ++ [q], va_up pf q (pdE (p0, p1, p2, p3)), hP, hD, npG hG hq, List.mem_append_right _ (List.mem_singleton.mpr rfl), va_up_self _ _ _⟩ hS dX10_newPorter_71
      · have n3 : p3.toInt ≠ 3 := fun q => c3 (Int32.toInt_inj.mp (q.trans rfl))
        by_cases c4 : p3 = 4
        · refine lv_tableIn (tgt := 72) hx hb dX10_newPorter_1 (by rw [c4]; decide) (by rw [c4]; decide) (by rw [c4]; rfl) (by decide) ?_
          refine va_new (ci := 0) (fs := [.int 0, .int 0, .int 0, .int 0]) (C := RX0) (T := TX0) (N := 4) hx hb hts (by decide +kernel) tyX0 tyX0_ok hown (hts (.classLink RX10 216 RX0) (by decide +kernel)) (hts (.instantiable RX0 4) (by decide +kernel)) (hts (.initialized RX0) (by decide +kernel)) hK hP hD hS hA rfl (fun j hj => by rcases (show j = 0 ∨ j = 1 ∨ j = 2 ∨ j = 3 by omega) with rfl | rfl | rfl | rfl <;> rfl) (Nat.le_of_ble_eq_true rfl) (Nat.le_of_ble_eq_true rfl) dX10_newPorter_72 (fun q H hP hD hS => ?_)
          refine W.widen (k := 1) (n := 4) (Nat.le_of_ble_eq_true rfl) (Nat.le_of_ble_eq_true rfl) ?_
          refine lv_dup hx hb dX10_newPorter_75 rfl ?_
          refine lv_iload_n hx hb dX10_newPorter_76 rfl (lv_at hl 0 rfl) ?_
          refine lv_iload_n hx hb dX10_newPorter_77 rfl (lv_at hl 1 rfl) ?_
          refine lv_iload_n hx hb dX10_newPorter_78 rfl (lv_at hl 2 rfl) ?_
          refine lv_iload_n hx hb dX10_newPorter_79 rfl (lv_at hl 3 rfl) ?_
          have hPa : va_P (dC, dI) vwCl [(q, .inr (0, [.int 0, .int 0, .int 0, .int 0]))] H := hP.by (fun _ => (wC t h tx g S ++ va_pl LP pf).length) (fun i x hx => by match i, hx with | 0, hx => cases hx; exact va_lastAt)
          refine klI (rest := [.ref q]) (As := [.int p0, .int p1, .int p2, .int p3]) ⟨hx, hb, hml, hown, hts⟩ (c_X0_init_0 l dC dI H.size q p0 p1 p2 p3) (cwI 4 hts gX10_newPorter_X0_init rfl rfl rfl (hts (.initialized RX0) (by decide +kernel)) (hts (.methodLink RX10 218 yX0_init) (by decide +kernel)) (hts (.instanceMethod yX0_init) (by decide +kernel)) rfl (by decide +kernel) ⟨Nat.le_of_ble_eq_true rfl, Nat.le_of_ble_eq_true rfl⟩) rfl hl.1 rfl (Nat.le_of_ble_eq_true rfl) dX10_newPorter_80 ⟨Nat.le_of_ble_eq_true rfl, Nat.le_of_ble_eq_true rfl⟩ (hK.sub [] rfl) hPa hS (hD.2 _ _ va_lastAt) hA (fun H1 locs hP1 ho hS => ?_)
          obtain ⟨hP, hD, hq⟩ := npA (e := pdE (p0, p1, p2, p3)) hP hD (by rw [show pdE (p0, p1, p2, p3) = .inr (0, pdV (p0, p1, p2, p3)) from by unfold pdE; rw [show clsOf p3 = 0 from by rw [c4]; rfl]]; exact hP1) ho
          exact rtCn hx hb hr (Or.inl ⟨_, rfl⟩) hlocks ⟨g, LP ++ [q], va_up pf q (pdE (p0, p1, p2, p3)), hP, hD, npG hG hq, List.mem_append_right _ (List.mem_singleton.mpr rfl), va_up_self _ _ _⟩ hS dX10_newPorter_83
        · have n4 : p3.toInt ≠ 4 := fun q => c4 (Int32.toInt_inj.mp (q.trans rfl))
          by_cases c5 : p3 = 5
          · refine lv_tableIn (tgt := 84) hx hb dX10_newPorter_1 (by rw [c5]; decide) (by rw [c5]; decide) (by rw [c5]; rfl) (by decide) ?_
            refine va_new (ci := 2) (fs := [.int 0, .int 0, .int 0, .int 0]) (C := RX2) (T := TX2) (N := 4) hx hb hts (by decide +kernel) tyX2 tyX2_ok hown (hts (.classLink RX10 219 RX2) (by decide +kernel)) (hts (.instantiable RX2 4) (by decide +kernel)) (hts (.initialized RX2) (by decide +kernel)) hK hP hD hS hA rfl (fun j hj => by rcases (show j = 0 ∨ j = 1 ∨ j = 2 ∨ j = 3 by omega) with rfl | rfl | rfl | rfl <;> rfl) (Nat.le_of_ble_eq_true rfl) (Nat.le_of_ble_eq_true rfl) dX10_newPorter_84 (fun q H hP hD hS => ?_)
            refine W.widen (k := 1) (n := 4) (Nat.le_of_ble_eq_true rfl) (Nat.le_of_ble_eq_true rfl) ?_
            refine lv_dup hx hb dX10_newPorter_87 rfl ?_
            refine lv_iload_n hx hb dX10_newPorter_88 rfl (lv_at hl 0 rfl) ?_
            refine lv_iload_n hx hb dX10_newPorter_89 rfl (lv_at hl 1 rfl) ?_
            refine lv_iload_n hx hb dX10_newPorter_90 rfl (lv_at hl 2 rfl) ?_
            refine lv_iload_n hx hb dX10_newPorter_91 rfl (lv_at hl 3 rfl) ?_
            have hPa : va_P (dC, dI) vwCl [(q, .inr (2, [.int 0, .int 0, .int 0, .int 0]))] H := hP.by (fun _ => (wC t h tx g S ++ va_pl LP pf).length) (fun i x hx => by match i, hx with | 0, hx => cases hx; exact va_lastAt)
            refine klI (rest := [.ref q]) (As := [.int p0, .int p1, .int p2, .int p3]) ⟨hx, hb, hml, hown, hts⟩ (c_X2_init_2 l dC dI H.size q p0 p1 p2 p3) (cwI 4 hts gX10_newPorter_X2_init rfl rfl rfl (hts (.initialized RX2) (by decide +kernel)) (hts (.methodLink RX10 221 yX2_init) (by decide +kernel)) (hts (.instanceMethod yX2_init) (by decide +kernel)) rfl (by decide +kernel) ⟨Nat.le_of_ble_eq_true rfl, Nat.le_of_ble_eq_true rfl⟩) rfl hl.1 rfl (Nat.le_of_ble_eq_true rfl) dX10_newPorter_92 ⟨Nat.le_of_ble_eq_true rfl, Nat.le_of_ble_eq_true rfl⟩ (hK.sub [] rfl) hPa hS (hD.2 _ _ va_lastAt) hA (fun H1 locs hP1 ho hS => ?_)
            obtain ⟨hP, hD, hq⟩ := npA (e := pdE (p0, p1, p2, p3)) hP hD (by rw [show pdE (p0, p1, p2, p3) = .inr (2, pdV (p0, p1, p2, p3)) from by unfold pdE; rw [show clsOf p3 = 2 from by rw [c5]; rfl]]; exact hP1) ho
            exact rtCn hx hb hr (Or.inl ⟨_, rfl⟩) hlocks ⟨g, LP ++ [q], va_up pf q (pdE (p0, p1, p2, p3)), hP, hD, npG hG hq, List.mem_append_right _ (List.mem_singleton.mpr rfl), va_up_self _ _ _⟩ hS dX10_newPorter_95
          · have n5 : p3.toInt ≠ 5 := fun q => c5 (Int32.toInt_inj.mp (q.trans rfl))
            refine lv_tableOut (tgt := 96) hx hb dX10_newPorter_1 (by omega) (by decide) ?_
            refine va_new (ci := 6) (fs := [.int 0, .int 0, .int 0, .int 0]) (C := RX6) (T := TX6) (N := 4) hx hb hts (by decide +kernel) tyX6 tyX6_ok hown (hts (.classLink RX10 95 RX6) (by decide +kernel)) (hts (.instantiable RX6 4) (by decide +kernel)) (hts (.initialized RX6) (by decide +kernel)) hK hP hD hS hA rfl (fun j hj => by rcases (show j = 0 ∨ j = 1 ∨ j = 2 ∨ j = 3 by omega) with rfl | rfl | rfl | rfl <;> rfl) (Nat.le_of_ble_eq_true rfl) (Nat.le_of_ble_eq_true rfl) dX10_newPorter_96 (fun q H hP hD hS => ?_)
            refine W.widen (k := 1) (n := 4) (Nat.le_of_ble_eq_true rfl) (Nat.le_of_ble_eq_true rfl) ?_
            refine lv_dup hx hb dX10_newPorter_99 rfl ?_
            refine lv_iload_n hx hb dX10_newPorter_100 rfl (lv_at hl 0 rfl) ?_
            refine lv_iload_n hx hb dX10_newPorter_101 rfl (lv_at hl 1 rfl) ?_
            refine lv_iload_n hx hb dX10_newPorter_102 rfl (lv_at hl 2 rfl) ?_
            refine lv_iload_n hx hb dX10_newPorter_103 rfl (lv_at hl 3 rfl) ?_
            have hPa : va_P (dC, dI) vwCl [(q, .inr (6, [.int 0, .int 0, .int 0, .int 0]))] H := hP.by (fun _ => (wC t h tx g S ++ va_pl LP pf).length) (fun i x hx => by match i, hx with | 0, hx => cases hx; exact va_lastAt)
            refine klI (rest := [.ref q]) (As := [.int p0, .int p1, .int p2, .int p3]) ⟨hx, hb, hml, hown, hts⟩ (c_X6_init_6 l dC dI H.size q p0 p1 p2 p3) (cwI 4 hts gX10_newPorter_X6_init rfl rfl rfl (hts (.initialized RX6) (by decide +kernel)) (hts (.methodLink RX10 222 yX6_init) (by decide +kernel)) (hts (.instanceMethod yX6_init) (by decide +kernel)) rfl (by decide +kernel) ⟨Nat.le_of_ble_eq_true rfl, Nat.le_of_ble_eq_true rfl⟩) rfl hl.1 rfl (Nat.le_of_ble_eq_true rfl) dX10_newPorter_104 ⟨Nat.le_of_ble_eq_true rfl, Nat.le_of_ble_eq_true rfl⟩ (hK.sub [] rfl) hPa hS (hD.2 _ _ va_lastAt) hA (fun H1 locs hP1 ho hS => ?_)
            obtain ⟨hP, hD, hq⟩ := npA (e := pdE (p0, p1, p2, p3)) hP hD (by rw [show pdE (p0, p1, p2, p3) = .inr (6, pdV (p0, p1, p2, p3)) from by unfold pdE; rw [show clsOf p3 = 6 from by unfold clsOf; rw [if_neg c1, if_neg c2, if_neg c3, if_neg c4, if_neg c5]]]; exact hP1) ho
            exact rtCn hx hb hr (Or.inl ⟨_, rfl⟩) hlocks ⟨g, LP ++ [q], va_up pf q (pdE (p0, p1, p2, p3)), hP, hD, npG hG hq, List.mem_append_right _ (List.mem_singleton.mpr rfl), va_up_self _ _ _⟩ hS dX10_newPorter_107

def wrdOf (i : Int32) : Nat := if i = 0 then 0 else if i = 1 then 1 else if i = 2 then 2 else if i = 3 then 3 else if i = 4 then 4 else 5
theorem wrdOf_lt (i : Int32) : wrdOf i < 6 := by
  unfold wrdOf
  repeat' split
  all_goals decide
def qcEr (A : Nat → Prop) (b : Nat) : Array Value → State → Outcome → State → Prop := va_Qr (fun (_ : Unit) => True) (fun _ a _ => a = b) A
def cXr (l : Launch) (y : MethodName) (ws : List Cond) (rm : Room) (sz : Nat) (av : List Value) (X : State → Prop) (b : Nat) : Prop := Met l y ws rm (va_Pc av (fun U => U.heap.size = sz ∧ X U)) (qcEr (fun q => sz ≤ q) b) 0 0 (fun q => sz ≤ q)
theorem klXr {p : Program} {l : Launch} {e : Env} {R : Room} {s : State} {m : MethodId} {args : Array Value} {below : List Frame} {meth : Method} {c : Code} {H : Heap} {locs : List Loc} {cells slots : Nat} {Q : State → Prop} {pc : Nat} {ls : Array Slot} {rest : List Value} {A : Nat → Prop} {cc : ByteArray} {Ts : List Cond} {own : String} {nL : Nat} {y : MethodName} {ws : List Cond} {rm : Room} {bytes : ByteArray} {maxL index n b : Nat} {ret : Option FieldType} {As st : List Value} {X : State → Prop} (F : CallFix p m c cc nL s args Ts own) (hM : cXr l y ws rm H.size As X b) (hXb : ∀ (a : Array Value) (U : State) (g : JFrame) (mk : MethodId), X U → X (U.calling g mk a)) (hX : ∀ U : State, U.heap = H → s.WarmedH U.vm → X U) (cw : CallB R s args own index y bytes maxL ret ws rm 0 0 n ∧ (Cond.static y).before args s = true) (hn : As.length = n) (hsize : ls.size = nL) (hst : st = As.reverse ++ rest) (hW : (rest.map fun v => v.category).sum ≤ 8) (hdg : decode cc pc = .ok (.invokestatic index, 3)) (hf : cells + 0 ≤ R.cells ∧ slots + 0 ≤ R.slots) (hS : va_S A s.heap H locs) (hA : ∀ q : Nat, s.heap.size ≤ q → A q)
    (kk : ∀ (H1 : Heap) (locs1 : List Loc), (∀ q : Nat, q < H.size → H1[q]? = H[q]?) → va_S A s.heap H1 locs1 → W p l e R s m args below meth c H1 locs1 cells slots Q (F0 m (pc + 3) ls (.ref b :: rest))) : W p l e R s m args below meth c H locs cells slots Q (F0 m pc ls st) := by
  have hFc : ∀ q : Nat, H.size ≤ q → A q := fun q hq => hA q (Nat.le_trans hS.1 hq)
  refine va_callr (va_runS (As := As) (rest := rest) F hM cw ⟨fun a U g mk q => ⟨q.1, q.2.1, hXb a U g mk q.2.2⟩, fun U hU hW => ⟨rfl, congrArg Array.size hU, hX U hU hW⟩⟩ rfl hn hsize hst (lv_room hW) hdg hf) hS (fun q _ h => hFc q h) hFc (fun u ra t H1 locs ht hvm hw hB hz1 hk1 hS => ?_)
  have hB : ra = b := hB
  subst hB
  exact kk H1 locs (fun q hq => hk1 q hq (Nat.not_le.mpr hq)) hS
def rmX8_wordOf : Room := { frames := 0, cells := 0, slots := 0, locals := 0 }
set_option maxHeartbeats 4000000 in
set_option maxRecDepth 100000 in
theorem c_X8_wordOf (l : Launch) (ts aK aV : Nat → Nat) (sz : Nat) (p0 : Int32) : cXr l yX8_wordOf wsX8_wordOf rmX8_wordOf sz [.int p0] (fun U => enC ts aK aV (fun q => sz ≤ q) U U.heap) (aK (wrdOf p0)) := by
  refine Met.ofW (cc := cX8_wordOf) (maxL := 1) (ret := (some (.object "java/lang/String"))) (by decide) rfl ?_
  intro p e s m args below meth c s₁ B hml hv
  obtain ⟨hargs, hsz, hv⟩ := hv
  have hx := B.exec
  have hb := B.bytes
  have hr := B.returns
  have hts := atoms_spec (ws := wsX8_wordOf) B.pre
  have hown : s.vm.findClass RX8 = some m.cls := findClass_of_methodNamed B.named
  have hlocks := B.notSynchronized
  have hsz : s.heap.size = sz := hsz
  subst hsz
  obtain ⟨A, hAe⟩ : ∃ A : Nat → Prop, A = fun q => s.heap.size ≤ q := ⟨_, rfl⟩
  rw [← hAe]
  have hE : enC ts aK aV A s s.heap := by rw [hAe]; exact hv
  have hS : va_S A s.heap s.heap [] := va_S.rf
  have hR := hE.2.2.2.2.2.2.2.2.2.1
  have hl := lv_entry ([.int p0]) (n := 1) (Nat.le_of_ble_eq_true rfl)
  rw [show entryFrame m args 1 = entryFrame m ([.int p0] : List Value).toArray 1 from by rw [hargs], lg_entry_eq]
  generalize (lg_sl ([.int p0]) ++ List.replicate (1 - (lg_sl ([.int p0])).length) Slot.unset).toArray = ls at hl ⊢
  have hl : lv_has ls 1 [(0, .int p0)] := hl
  refine lv_iload_n hx hb dX8_wordOf_0 rfl (lv_at hl 0 rfl) ?_
  by_cases c0 : p0 = 0
  · refine lv_tableIn (tgt := 36) hx hb dX8_wordOf_1 (by rw [c0]; decide) (by rw [c0]; decide) (by rw [c0]; rfl) (by decide) ?_
    rw [show wrdOf p0 = 0 from by rw [c0]; rfl]
    refine va_ldcS hx hb hown (hR 0 (by decide)) dX8_wordOf_36 ?_
    exact W.aret (v := .ref (aK 0)) hx hb hr (Or.inl ⟨_, rfl⟩) (Or.inr ⟨_, rfl⟩) (fun U ht hW => ⟨⟨(), _, rfl, trivial, rfl⟩, hS.F ht⟩) hS.2.2 dX8_wordOf_38
  · have n0 : p0.toInt ≠ 0 := fun q => c0 (Int32.toInt_inj.mp (q.trans rfl))
    by_cases c1 : p0 = 1
    · refine lv_tableIn (tgt := 39) hx hb dX8_wordOf_1 (by rw [c1]; decide) (by rw [c1]; decide) (by rw [c1]; rfl) (by decide) ?_
      rw [show wrdOf p0 = 1 from by rw [c1]; rfl]
      refine va_ldcS hx hb hown (hR 1 (by decide)) dX8_wordOf_39 ?_
      exact W.aret (v := .ref (aK 1)) hx hb hr (Or.inl ⟨_, rfl⟩) (Or.inr ⟨_, rfl⟩) (fun U ht hW => ⟨⟨(), _, rfl, trivial, rfl⟩, hS.F ht⟩) hS.2.2 dX8_wordOf_41
    · have n1 : p0.toInt ≠ 1 := fun q => c1 (Int32.toInt_inj.mp (q.trans rfl))
      by_cases c2 : p0 = 2
      · refine lv_tableIn (tgt := 42) hx hb dX8_wordOf_1 (by rw [c2]; decide) (by rw [c2]; decide) (by rw [c2]; rfl) (by decide) ?_
        rw [show wrdOf p0 = 2 from by rw [c2]; rfl]
        refine va_ldcS hx hb hown (hR 2 (by decide)) dX8_wordOf_42 ?_
        exact W.aret (v := .ref (aK 2)) hx hb hr (Or.inl ⟨_, rfl⟩) (Or.inr ⟨_, rfl⟩) (fun U ht hW => ⟨⟨(), _, rfl, trivial, rfl⟩, hS.F ht⟩) hS.2.2 dX8_wordOf_44
      · have n2 : p0.toInt ≠ 2 := fun q => c2 (Int32.toInt_inj.mp (q.trans rfl))
        by_cases c3 : p0 = 3
        · refine lv_tableIn (tgt := 45) hx hb dX8_wordOf_1 (by rw [c3]; decide) (by rw [c3]; decide) (by rw [c3]; rfl) (by decide) ?_
          rw [show wrdOf p0 = 3 from by rw [c3]; rfl]
          refine va_ldcS hx hb hown (hR 3 (by decide)) dX8_wordOf_45 ?_
          exact W.aret (v := .ref (aK 3)) hx hb hr (Or.inl ⟨_, rfl⟩) (Or.inr ⟨_, rfl⟩) (fun U ht hW => ⟨⟨(), _, rfl, trivial, rfl⟩, hS.F ht⟩) hS.2.2 dX8_wordOf_47
        · have n3 : p0.toInt ≠ 3 := fun q => c3 (Int32.toInt_inj.mp (q.trans rfl))
          by_cases c4 : p0 = 4
          · refine lv_tableIn (tgt := 48) hx hb dX8_wordOf_1 (by rw [c4]; decide) (by rw [c4]; decide) (by rw [c4]; rfl) (by decide) ?_
            rw [show wrdOf p0 = 4 from by rw [c4]; rfl]
            refine va_ldcS hx hb hown (hR 4 (by decide)) dX8_wordOf_48 ?_
            exact W.aret (v := .ref (aK 4)) hx hb hr (Or.inl ⟨_, rfl⟩) (Or.inr ⟨_, rfl⟩) (fun U ht hW => ⟨⟨(), _, rfl, trivial, rfl⟩, hS.F ht⟩) hS.2.2 dX8_wordOf_50
          · have n4 : p0.toInt ≠ 4 := fun q => c4 (Int32.toInt_inj.mp (q.trans rfl))
            refine lv_tableOut (tgt := 51) hx hb dX8_wordOf_1 (by omega) (by decide) ?_
            rw [show wrdOf p0 = 5 from by unfold wrdOf; rw [if_neg c0, if_neg c1, if_neg c2, if_neg c3, if_neg c4]]
            refine va_ldcS hx hb hown (hR 5 (by decide)) dX8_wordOf_51 ?_
            exact W.aret (v := .ref (aK 5)) hx hb hr (Or.inl ⟨_, rfl⟩) (Or.inr ⟨_, rfl⟩) (fun U ht hW => ⟨⟨(), _, rfl, trivial, rfl⟩, hS.F ht⟩) hS.2.2 dX8_wordOf_53

def FA : Nat := 201
