/-! loops and steps of pure functions in Option -/
theorem bd {α β : Type} {o : Option α} {k : α → Option β} {r : β} (h : o.bind k = some r) : ∃ a, o = some a ∧ k a = some r := by
  cases o with
  | none => cases h
  | some a => exact ⟨a, rfl, h⟩
theorem bs {α β : Type} {e x : α} {k : α → Option β} {r : β} (h : x = e) (hf : (some e).bind k = some r) : k x = some r := by
  subst h
  exact hf
theorem bn {α β : Type} {e : α} {k : α → Option β} {r : β} (hf : (some e).bind k = some r) : ∃ x, x = e ∧ k x = some r := ⟨e, rfl, hf⟩
theorem lp_x {α β : Type} {k : α → Option β} {a z : α} {r : β} (h : some a = some z) (hz : k z = some r) : k a = some r := by
  cases h
  exact hz
def bi2 {α β γ : Type} (o : Option (α × β)) (k : α → β → Option γ) : Option γ := o.bind (fun q => k q.1 q.2)
theorem b2 {α β γ : Type} {o : Option (α × β)} {k : α → β → Option γ} {r : γ} (h : bi2 o k = some r) : ∃ a b, o = some (a, b) ∧ k a b = some r := by
  cases o with
  | none => cases h
  | some q => exact ⟨q.1, q.2, rfl, h⟩
def FU : Nat := 1000000
def lp {σ ρ : Type} (b : σ → Option (σ ⊕ ρ)) : Nat → σ → Option ρ
  | 0, _ => none
  | n + 1, s => (b s).bind (Sum.elim (lp b n) some)
theorem lp_z {σ ρ : Type} {b : σ → Option (σ ⊕ ρ)} {s : σ} {r : ρ} {P : Prop} (h : lp b 0 s = some r) : P := by
  rw [lp] at h
  cases h
theorem lp_i {σ ρ : Type} {b : σ → Option (σ ⊕ ρ)} {n : Nat} {s : σ} {r : ρ} (h : lp b (n + 1) s = some r) : ∃ q, b s = some q ∧ Sum.elim (lp b n) some q = some r := by
  rw [lp] at h
  exact bd h
theorem lp_l {σ ρ : Type} {f : σ → Option ρ} {s : σ} {q : σ ⊕ ρ} {r : ρ} (h : some (Sum.inl s) = some q) (hq : Sum.elim f some q = some r) : f s = some r := by
  cases h
  exact hq
theorem lp_r {σ ρ : Type} {f : σ → Option ρ} {v : ρ} {q : σ ⊕ ρ} {r : ρ} (h : (some (Sum.inr v) : Option (σ ⊕ ρ)) = some q) (hq : Sum.elim f some q = some r) : some v = some r := by
  cases h
  exact hq
theorem lp_m {σ ρ : Type} {f : σ → Option ρ} {o : Option ρ} {q : σ ⊕ ρ} {r : ρ} (h : Option.map (Sum.inr : ρ → σ ⊕ ρ) o = some q) (hq : Sum.elim f some q = some r) : o = some r := by
  cases o with
  | none => cases h
  | some v => exact lp_r h hq
def rdI (n : Nat) (f : Nat → Int32) (i : Int32) : Option Int32 := if i < 0 ∨ n ≤ i.toNatClampNeg then none else some (f i.toNatClampNeg)
theorem rd_b {β : Type} {n : Nat} {f : Nat → Int32} {i : Int32} {k : Int32 → Option β} {r : β} (h : (rdI n f i).bind k = some r) : ∃ x, vp_in i n ∧ x = f i.toNatClampNeg ∧ k x = some r := by
  unfold rdI at h
  by_cases hc : i < 0 ∨ n ≤ i.toNatClampNeg
  · rw [if_pos hc] at h
    cases h
  · rw [if_neg hc] at h
    exact ⟨_, hc, rfl, h⟩
abbrev MS : Type := Nat → Nat → Int32
def wrM (M : MS) (k n : Nat) (i x : Int32) : Option MS := if i < 0 ∨ n ≤ i.toNatClampNeg then none else some (va_up M k (upd (M k) i.toNatClampNeg x))
theorem wr_b {β : Type} {M : MS} {k n : Nat} {i x : Int32} {g : MS → Option β} {r : β} (h : (wrM M k n i x).bind g = some r) : ∃ M1, vp_in i n ∧ M1 = va_up M k (upd (M k) i.toNatClampNeg x) ∧ g M1 = some r := by
  unfold wrM at h
  by_cases hc : i < 0 ∨ n ≤ i.toNatClampNeg
  · rw [if_pos hc] at h
    cases h
  · rw [if_neg hc] at h
    exact ⟨_, hc, rfl, h⟩
def zr (v : Int32) : Option Int32 := if v = 0 ∨ v = 1 then some v else none
theorem zr_b {β : Type} {v : Int32} {k : Int32 → Option β} {r : β} (h : (zr v).bind k = some r) : narrow .boolean (.int v) = .int v ∧ k v = some r := by
  unfold zr at h
  by_cases hc : v = 0 ∨ v = 1
  · rw [if_pos hc] at h
    refine ⟨?_, h⟩
    rcases hc with rfl | rfl <;> rfl
  · rw [if_neg hc] at h
    cases h
def dvI (x y : Int32) : Option Int32 := if y = 0 then none else some (x / y)
theorem dv_b {β : Type} {x y : Int32} {k : Int32 → Option β} {r : β} (h : (dvI x y).bind k = some r) : ¬ y = 0 ∧ k (x / y) = some r := by
  unfold dvI at h
  by_cases hc : y = 0
  · rw [if_pos hc] at h
    cases h
  · rw [if_neg hc] at h
    exact ⟨hc, h⟩
def rmI (x y : Int32) : Option Int32 := if y = 0 then none else some (x - x / y * y)
theorem rm_b {β : Type} {x y : Int32} {k : Int32 → Option β} {r : β} (h : (rmI x y).bind k = some r) : ¬ y = 0 ∧ k (x - x / y * y) = some r := by
  unfold rmI at h
  by_cases hc : y = 0
  · rw [if_pos hc] at h
    cases h
  · rw [if_neg hc] at h
    exact ⟨hc, h⟩
section KI
variable {p : Program} {l : Launch} {e : Env} {R : Room} {s : State} {m : MethodId} {args : Array Value} {below : List Frame} {meth : Method} {c : Code} {H : Heap} {locs : List Loc} {cells slots : Nat} {Q : State → Prop} {pc : Nat} {ls : Array Slot} {rest : List Value}
theorem kI {x y : Int32} (h : y = x) (k : W p l e R s m args below meth c H locs cells slots Q (F0 m pc ls (.int y :: rest))) : W p l e R s m args below meth c H locs cells slots Q (F0 m pc ls (.int x :: rest)) := by
  subst h
  exact k
end KI
/-! the world of the reference: its object and its fourteen arrays -/
def fM (h : Nat → Nat) (M : MS) : List Value := [.ref (h 1), .ref (h 2), .ref (h 3), .ref (h 4), .ref (h 5), .int (M 5 0), .int (M 6 0), .int (M 7 0), .int (M 8 0), .ref (h 10), .int (M 10 0), .int (M 11 0), .int (M 12 0), .int (M 13 0), .ref (h 15), .int (M 15 0), .int (M 16 0), .int (M 17 0), .ref (h 19), .ref (h 20), .ref (h 21), .ref (h 22), .ref (h 23), .ref (h 24), .ref (h 25)]
def wM (tI tZ : ClassId) (h : Nat → Nat) (M : MS) : va_W := [(h 0, .inr (11, fM h M)), (h 1, .inl (tI, 277, .inl (M 0))), (h 2, .inl (tI, 554, .inl (M 1))), (h 3, .inl (tZ, 2, .inl (M 2))), (h 4, .inl (tI, 3, .inl (M 3))), (h 5, .inl (tI, 6, .inl (M 4))), (h 10, .inl (tI, 68, .inl (M 9))), (h 15, .inl (tI, 15424, .inl (M 14))), (h 19, .inl (tI, 240, .inl (M 18))), (h 20, .inl (tI, 240, .inl (M 19))), (h 21, .inl (tZ, 15424, .inl (M 20))), (h 22, .inl (tI, 64, .inl (M 21))), (h 23, .inl (tI, 64, .inl (M 22))), (h 24, .inl (tI, 5, .inl (M 23))), (h 25, .inl (tI, 5, .inl (M 24)))]
def tyM (tI tZ : ClassId) : List (ClassId × FieldType) := [(tI, .int), (tZ, .boolean)]
def atM (dC : Nat → ClassId) (dI : Nat → Nat → Nat) (tI tZ : ClassId) (A : Nat → Prop) (h : Nat → Nat) (M : MS) (t : State) : Prop := va_P (dC, dI) vwCl (wM tI tZ h M) t.heap ∧ va_K (dC, dI) vwCl (tyM tI tZ) t ∧ va_D A (wM tI tZ h M)
def preM (dC : Nat → ClassId) (dI : Nat → Nat → Nat) (tI tZ : ClassId) (h : Nat → Nat) (sz : Nat) (M : MS) (U : State) : Prop := U.heap.size = sz ∧ va_P (dC, dI) vwCl (wM tI tZ h M) U.heap ∧ va_K (dC, dI) vwCl (tyM tI tZ) U ∧ va_D (fun _ => True) (wM tI tZ h M)
def qcMi (dC : Nat → ClassId) (dI : Nat → Nat → Nat) (tI tZ : ClassId) (A : Nat → Prop) (h : Nat → Nat) (r : Int32) (M : MS) : Array Value → State → Outcome → State → Prop := va_Qi (fun r2 (_ : Unit) => r2 = r) (fun _ t => atM dC dI tI tZ A h M t) A
def qcMl (dC : Nat → ClassId) (dI : Nat → Nat → Nat) (tI tZ : ClassId) (A : Nat → Prop) (h : Nat → Nat) (r : Int64) (M : MS) : Array Value → State → Outcome → State → Prop := va_Ql (fun r2 (_ : Unit) => r2 = r) (fun _ t => atM dC dI tI tZ A h M t) A
def qcMv (dC : Nat → ClassId) (dI : Nat → Nat → Nat) (tI tZ : ClassId) (A : Nat → Prop) (h : Nat → Nat) (M : MS) : Array Value → State → Outcome → State → Prop := va_Qv (fun (_ : Unit) => True) (fun _ t => atM dC dI tI tZ A h M t) A
def cMi (l : Launch) (y : MethodName) (ws : List Cond) (rm : Room) (dC : Nat → ClassId) (dI : Nat → Nat → Nat) (tI tZ : ClassId) (h : Nat → Nat) (sz : Nat) (av : List Value) (M : MS) (r : Int32) (M' : MS) : Prop := Met l y ws rm (va_Pc av (preM dC dI tI tZ h sz M)) (qcMi dC dI tI tZ (va_A (wM tI tZ h M) sz) h r M') 0 0 (va_A (wM tI tZ h M) sz)
def cMl (l : Launch) (y : MethodName) (ws : List Cond) (rm : Room) (dC : Nat → ClassId) (dI : Nat → Nat → Nat) (tI tZ : ClassId) (h : Nat → Nat) (sz : Nat) (av : List Value) (M : MS) (r : Int64) (M' : MS) : Prop := Met l y ws rm (va_Pc av (preM dC dI tI tZ h sz M)) (qcMl dC dI tI tZ (va_A (wM tI tZ h M) sz) h r M') 0 0 (va_A (wM tI tZ h M) sz)
def cMv (l : Launch) (y : MethodName) (ws : List Cond) (rm : Room) (dC : Nat → ClassId) (dI : Nat → Nat → Nat) (tI tZ : ClassId) (h : Nat → Nat) (sz : Nat) (av : List Value) (M : MS) (M' : MS) : Prop := Met l y ws rm (va_Pc av (preM dC dI tI tZ h sz M)) (qcMv dC dI tI tZ (va_A (wM tI tZ h M) sz) h M') 0 0 (va_A (wM tI tZ h M) sz)
/-! a static method with no heap -/
def qcEi (A : Nat → Prop) (r : Int32) : Array Value → State → Outcome → State → Prop := va_Qi (fun r2 (_ : Unit) => r2 = r) (fun _ _ => True) A
def qcEl (A : Nat → Prop) (r : Int64) : Array Value → State → Outcome → State → Prop := va_Ql (fun r2 (_ : Unit) => r2 = r) (fun _ _ => True) A
def cEi (l : Launch) (y : MethodName) (ws : List Cond) (rm : Room) (sz : Nat) (av : List Value) (r : Int32) : Prop := Met l y ws rm (va_Pc av (fun U => U.heap.size = sz)) (qcEi (fun q => sz ≤ q) r) 0 0 (fun q => sz ≤ q)
section KM
variable {p : Program} {l : Launch} {e : Env} {R : Room} {s : State} {m : MethodId} {args : Array Value} {below : List Frame} {meth : Method} {c : Code} {H : Heap} {locs : List Loc} {cells slots : Nat} {Q : State → Prop} {pc : Nat} {ls : Array Slot} {rest : List Value} {dC : Nat → ClassId} {dI : Nat → Nat → Nat} {tI tZ : ClassId} {A : Nat → Prop} {h : Nat → Nat} {M M' M1 : MS} {cc : ByteArray} {Ts : List Cond} {own : String} {nL : Nat}
theorem rtMi {v r : Int32} (hx : p.tables.exec = Jvm.exec) (hb : c.code = cc) (hr : meth.sig.returnType = some .int) (hlocks : meth.locks = false) (hK : va_K (dC, dI) vwCl (tyM tI tZ) s) (hP : va_P (dC, dI) vwCl (wM tI tZ h M1) H) (hD : va_D A (wM tI tZ h M1)) (hS : va_S A s.heap H locs) (hv : (some (v, M1) : Option (Int32 × MS)) = some (r, M')) (hdg : decode cc pc = .ok (.ireturn, 1)) : W p l e R s m args below meth c H locs cells slots (MQ below (qcMi dC dI tI tZ A h r M') args s cells slots A) (F0 m pc ls [.int v]) := by
  cases hv
  exact W.iret (v := v) hx hb hr (fun t ht hW => ⟨⟨v, (), rfl, rfl, by rw [ht]; exact hP, va_K.moved hW.alike hK, hD⟩, hS.F ht⟩) hS.2.2 hdg
theorem rtMz {v r : Int32} (hx : p.tables.exec = Jvm.exec) (hb : c.code = cc) (hr : meth.sig.returnType = some .boolean) (hlocks : meth.locks = false) (hK : va_K (dC, dI) vwCl (tyM tI tZ) s) (hP : va_P (dC, dI) vwCl (wM tI tZ h M1) H) (hD : va_D A (wM tI tZ h M1)) (hS : va_S A s.heap H locs) (hn : narrow .boolean (.int v) = .int v) (hv : (some (v, M1) : Option (Int32 × MS)) = some (r, M')) (hdg : decode cc pc = .ok (.ireturn, 1)) : W p l e R s m args below meth c H locs cells slots (MQ below (qcMi dC dI tI tZ A h r M') args s cells slots A) (F0 m pc ls [.int v]) := by
  cases hv
  exact W.zret (v := v) hx hb hr hn (fun t ht hW => ⟨⟨v, (), rfl, rfl, by rw [ht]; exact hP, va_K.moved hW.alike hK, hD⟩, hS.F ht⟩) hS.2.2 hdg
theorem rtMl {v r : Int64} (hx : p.tables.exec = Jvm.exec) (hb : c.code = cc) (hr : meth.sig.returnType = some .long) (hlocks : meth.locks = false) (hK : va_K (dC, dI) vwCl (tyM tI tZ) s) (hP : va_P (dC, dI) vwCl (wM tI tZ h M1) H) (hD : va_D A (wM tI tZ h M1)) (hS : va_S A s.heap H locs) (hv : (some (v, M1) : Option (Int64 × MS)) = some (r, M')) (hdg : decode cc pc = .ok (.lreturn, 1)) : W p l e R s m args below meth c H locs cells slots (MQ below (qcMl dC dI tI tZ A h r M') args s cells slots A) (F0 m pc ls [.long v]) := by
  cases hv
  exact W.lret (v := v) hx hb hr (fun t ht hW => ⟨⟨v, (), rfl, rfl, by rw [ht]; exact hP, va_K.moved hW.alike hK, hD⟩, hS.F ht⟩) hS.2.2 hdg
theorem rtMv (hx : p.tables.exec = Jvm.exec) (hb : c.code = cc) (hr : meth.sig.returnType = none) (hlocks : meth.locks = false) (hK : va_K (dC, dI) vwCl (tyM tI tZ) s) (hP : va_P (dC, dI) vwCl (wM tI tZ h M1) H) (hD : va_D A (wM tI tZ h M1)) (hS : va_S A s.heap H locs) (hv : (some M1 : Option MS) = some M') (hdg : decode cc pc = .ok (.return_, 1)) : W p l e R s m args below meth c H locs cells slots (MQ below (qcMv dC dI tI tZ A h M') args s cells slots A) (F0 m pc ls []) := by
  cases hv
  exact W.vret hx hb hr (fun t ht hW => ⟨⟨(), rfl, trivial, by rw [ht]; exact hP, va_K.moved hW.alike hK, hD⟩, hS.F ht⟩) hS.2.2 hdg
theorem rtEi {v r : Int32} (hx : p.tables.exec = Jvm.exec) (hb : c.code = cc) (hr : meth.sig.returnType = some .int) (hlocks : meth.locks = false) (hS : va_S A s.heap H locs) (hv : (some v : Option Int32) = some r) (hdg : decode cc pc = .ok (.ireturn, 1)) : W p l e R s m args below meth c H locs cells slots (MQ below (qcEi A r) args s cells slots A) (F0 m pc ls [.int v]) := by
  cases hv
  exact W.iret (v := v) hx hb hr (fun t ht hW => ⟨⟨v, (), rfl, rfl, trivial⟩, hS.F ht⟩) hS.2.2 hdg
theorem rtEz {v r : Int32} (hx : p.tables.exec = Jvm.exec) (hb : c.code = cc) (hr : meth.sig.returnType = some .boolean) (hlocks : meth.locks = false) (hS : va_S A s.heap H locs) (hn : narrow .boolean (.int v) = .int v) (hv : (some v : Option Int32) = some r) (hdg : decode cc pc = .ok (.ireturn, 1)) : W p l e R s m args below meth c H locs cells slots (MQ below (qcEi A r) args s cells slots A) (F0 m pc ls [.int v]) := by
  cases hv
  exact W.zret (v := v) hx hb hr hn (fun t ht hW => ⟨⟨v, (), rfl, rfl, trivial⟩, hS.F ht⟩) hS.2.2 hdg
theorem geM (hx : p.tables.exec = Jvm.exec) (hb : c.code = cc) (hts : ∀ w ∈ Ts, w.before args s = true) (hin : ∀ w ∈ wsX110, w ∈ Ts) (hown : s.vm.findClass own = some m.cls) (hK : va_K (dC, dI) vwCl (tyM tI tZ) s) (hP : va_P (dC, dI) vwCl (wM tI tZ h M) H) (k : Nat) (hk : k < 25) {index : Nat} (hlink : (Cond.fieldLink own index (TX11 k).1 (TX11 k).2.1 (TX11 k).2.2.1) ∈ Ts) {v : Value} (hv : (fM h M)[k]? = some v) (hdg : decode cc pc = .ok (.getfield index, 3))
    (kk : W p l e R s m args below meth c H locs cells slots Q (F0 m (pc + 3) ls (v :: rest))) : W p l e R s m args below meth c H locs cells slots Q (F0 m pc ls (.ref (h 0) :: rest)) :=
  va_get (D := (dC, dI)) (ci := 11) (v := v) (C := RX11) (T := TX11) (N := 25) hx hb hts hin hown hK hP 0 rfl rfl k hk (hts _ hlink) (fun _ h9 => h9) hv hdg kk
theorem puM (hx : p.tables.exec = Jvm.exec) (hb : c.code = cc) (hts : ∀ w ∈ Ts, w.before args s = true) (hin : ∀ w ∈ wsX110, w ∈ Ts) (hown : s.vm.findClass own = some m.cls) (hK : va_K (dC, dI) vwCl (tyM tI tZ) s) (hP : va_P (dC, dI) vwCl (wM tI tZ h M) H) (hD : va_D A (wM tI tZ h M)) (hS : va_S A s.heap H locs) (k : Nat) (hk : k < 25) {index : Nat} (hlink : (Cond.fieldLink own index (TX11 k).1 (TX11 k).2.1 (TX11 k).2.2.1) ∈ Ts) {v : Int32} (hfin : (TX11 k).2.2.2 = false) (hd : parseFieldDescriptor (TX11 k).2.2.1 = some .int) (hw : (wM tI tZ h M).set 0 (h 0, .inr (11, (fM h M).set k (.int v))) = wM tI tZ h M1) (hdg : decode cc pc = .ok (.putfield index, 3))
    (kk : ∀ (H1 : Heap) (locs1 : List Loc), va_P (dC, dI) vwCl (wM tI tZ h M1) H1 → va_D A (wM tI tZ h M1) → va_S A s.heap H1 locs1 → W p l e R s m args below meth c H1 locs1 cells slots Q (F0 m (pc + 3) ls rest)) : W p l e R s m args below meth c H locs cells slots Q (F0 m pc ls (.int v :: .ref (h 0) :: rest)) :=
  va_put (D := (dC, dI)) (ci := 11) (v := .int v) (ty := .int) (C := RX11) (T := TX11) (N := 25) hx hb hts hin tyX11 tyX11_ok nmX11 hown hK hP hD hS 0 rfl rfl k hk (hts _ hlink) (fun _ h9 => h9) hfin hd rfl rfl (by rw [show (fM h M).length = 25 from rfl]; exact hk) hdg (fun H1 locs1 a b d => kk H1 locs1 (hw ▸ a) (hw ▸ b) d)
/-- a call of the reference's own method on itself -/
theorem klMi {y : MethodName} {ws : List Cond} {rm : Room} {bytes : ByteArray} {maxL index n : Nat} {ret : Option FieldType} {As st : List Value} {r : Int32} (F : CallFix p m c cc nL s args Ts own) (hM : cMi l y ws rm dC dI tI tZ h H.size (.ref (h 0) :: As) M r M') (cw : CallW R s args own RX11 index y bytes maxL ret ws rm 0 0 n) (hn : As.length = n) (hsize : ls.size = nL) (hst : st = As.reverse ++ .ref (h 0) :: rest) (hW : (rest.map fun v => v.category).sum ≤ 8) (hdg : decode cc pc = .ok (.invokevirtual index, 3)) (hf : cells + 0 ≤ R.cells ∧ slots + 0 ≤ R.slots) (hK : va_K (dC, dI) vwCl (tyM tI tZ) s) (hP : va_P (dC, dI) vwCl (wM tI tZ h M) H) (hD : va_D A (wM tI tZ h M)) (hS : va_S A s.heap H locs) (hA : ∀ q : Nat, s.heap.size ≤ q → A q)
    (kk : ∀ (H1 : Heap) (locs1 : List Loc), va_P (dC, dI) vwCl (wM tI tZ h M') H1 → va_D A (wM tI tZ h M') → va_S A s.heap H1 locs1 → W p l e R s m args below meth c H1 locs1 cells slots Q (F0 m (pc + 3) ls (.int r :: rest))) : W p l e R s m args below meth c H locs cells slots Q (F0 m pc ls st) := by
  have hFc := va_free (wc := wM tI tZ h M) hD hS hA [0, 1, 2, 3, 4, 5, 6, 7, 8, 9, 10, 11, 12, 13, 14] rfl
  refine va_calli (va_runV (As := As) (rest := rest) F hM cw ⟨fun a U g mk q => ?_, va_recv hK hP (ci := 11) (q0 := 0) rfl rfl, fun U hU hW => ⟨rfl, by rw [hU], by rw [hU]; exact hP, va_K.moved hW.alike hK, hD.weaken (fun _ _ _ _ => trivial)⟩⟩ rfl hn hsize hst (lv_room hW) hdg hf) hS (fun q _ h => hFc q h) hFc (fun r_2 u t H1 locs ht hvm hw hB hz1 hk1 hS => ?_)
  · obtain ⟨q0, q1, qP, qK, qD⟩ := q
    exact ⟨q0, q1, qP, va_K.moved (u := U) (U := U.calling g mk a) (Vm.Alike.refl U.vm) qK, qD⟩
  · obtain ⟨hP1, hK1, hD1⟩ := hB
    rw [ht] at hP1
    have hw : r_2 = r := hw
    subst hw
    exact kk H1 locs hP1 (hD1.weaken (fun k q _ h => hFc q.1 h)) hS
theorem klMv {y : MethodName} {ws : List Cond} {rm : Room} {bytes : ByteArray} {maxL index n : Nat} {ret : Option FieldType} {As st : List Value} (F : CallFix p m c cc nL s args Ts own) (hM : cMv l y ws rm dC dI tI tZ h H.size (.ref (h 0) :: As) M M') (cw : CallW R s args own RX11 index y bytes maxL ret ws rm 0 0 n) (hn : As.length = n) (hsize : ls.size = nL) (hst : st = As.reverse ++ .ref (h 0) :: rest) (hW : (rest.map fun v => v.category).sum ≤ 8) (hdg : decode cc pc = .ok (.invokevirtual index, 3)) (hf : cells + 0 ≤ R.cells ∧ slots + 0 ≤ R.slots) (hK : va_K (dC, dI) vwCl (tyM tI tZ) s) (hP : va_P (dC, dI) vwCl (wM tI tZ h M) H) (hD : va_D A (wM tI tZ h M)) (hS : va_S A s.heap H locs) (hA : ∀ q : Nat, s.heap.size ≤ q → A q)
    (kk : ∀ (H1 : Heap) (locs1 : List Loc), va_P (dC, dI) vwCl (wM tI tZ h M') H1 → va_D A (wM tI tZ h M') → va_S A s.heap H1 locs1 → W p l e R s m args below meth c H1 locs1 cells slots Q (F0 m (pc + 3) ls rest)) : W p l e R s m args below meth c H locs cells slots Q (F0 m pc ls st) := by
  have hFc := va_free (wc := wM tI tZ h M) hD hS hA [0, 1, 2, 3, 4, 5, 6, 7, 8, 9, 10, 11, 12, 13, 14] rfl
  refine va_callv (va_runV (As := As) (rest := rest) F hM cw ⟨fun a U g mk q => ?_, va_recv hK hP (ci := 11) (q0 := 0) rfl rfl, fun U hU hW => ⟨rfl, by rw [hU], by rw [hU]; exact hP, va_K.moved hW.alike hK, hD.weaken (fun _ _ _ _ => trivial)⟩⟩ rfl hn hsize hst (lv_room hW) hdg hf) hS (fun q _ h => hFc q h) hFc (fun u t H1 locs ht hvm hw hB hz1 hk1 hS => ?_)
  · obtain ⟨q0, q1, qP, qK, qD⟩ := q
    exact ⟨q0, q1, qP, va_K.moved (u := U) (U := U.calling g mk a) (Vm.Alike.refl U.vm) qK, qD⟩
  · obtain ⟨hP1, hK1, hD1⟩ := hB
    rw [ht] at hP1
    exact kk H1 locs hP1 (hD1.weaken (fun k q _ h => hFc q.1 h)) hS
theorem klMl {y : MethodName} {ws : List Cond} {rm : Room} {bytes : ByteArray} {maxL index n : Nat} {ret : Option FieldType} {As st : List Value} {r : Int64} (F : CallFix p m c cc nL s args Ts own) (hM : cMl l y ws rm dC dI tI tZ h H.size (.ref (h 0) :: As) M r M') (cw : CallW R s args own RX11 index y bytes maxL ret ws rm 0 0 n) (hn : As.length = n) (hsize : ls.size = nL) (hst : st = As.reverse ++ .ref (h 0) :: rest) (hW : (rest.map fun v => v.category).sum ≤ 8) (hdg : decode cc pc = .ok (.invokevirtual index, 3)) (hf : cells + 0 ≤ R.cells ∧ slots + 0 ≤ R.slots) (hK : va_K (dC, dI) vwCl (tyM tI tZ) s) (hP : va_P (dC, dI) vwCl (wM tI tZ h M) H) (hD : va_D A (wM tI tZ h M)) (hS : va_S A s.heap H locs) (hA : ∀ q : Nat, s.heap.size ≤ q → A q)
    (kk : ∀ (H1 : Heap) (locs1 : List Loc), va_P (dC, dI) vwCl (wM tI tZ h M') H1 → va_D A (wM tI tZ h M') → va_S A s.heap H1 locs1 → W p l e R s m args below meth c H1 locs1 cells slots Q (F0 m (pc + 3) ls (.long r :: rest))) : W p l e R s m args below meth c H locs cells slots Q (F0 m pc ls st) := by
  have hFc := va_free (wc := wM tI tZ h M) hD hS hA [0, 1, 2, 3, 4, 5, 6, 7, 8, 9, 10, 11, 12, 13, 14] rfl
  refine va_calll (va_runV (As := As) (rest := rest) F hM cw ⟨fun a U g mk q => ?_, va_recv hK hP (ci := 11) (q0 := 0) rfl rfl, fun U hU hW => ⟨rfl, by rw [hU], by rw [hU]; exact hP, va_K.moved hW.alike hK, hD.weaken (fun _ _ _ _ => trivial)⟩⟩ rfl hn hsize hst (lv_room hW) hdg hf) hS (fun q _ h => hFc q h) hFc (fun r_2 u t H1 locs ht hvm hw hB hz1 hk1 hS => ?_)
  · obtain ⟨q0, q1, qP, qK, qD⟩ := q
    exact ⟨q0, q1, qP, va_K.moved (u := U) (U := U.calling g mk a) (Vm.Alike.refl U.vm) qK, qD⟩
  · obtain ⟨hP1, hK1, hD1⟩ := hB
    rw [ht] at hP1
    have hw : r_2 = r := hw
    subst hw
    exact kk H1 locs hP1 (hD1.weaken (fun k q _ h => hFc q.1 h)) hS
/-- a call of a static method with no heap: what was there stays -/
theorem klEi {y : MethodName} {ws : List Cond} {rm : Room} {bytes : ByteArray} {maxL index n : Nat} {ret : Option FieldType} {As st : List Value} {r : Int32} (F : CallFix p m c cc nL s args Ts own) (hM : cEi l y ws rm H.size As r) (cw : CallB R s args own index y bytes maxL ret ws rm 0 0 n ∧ (Cond.static y).before args s = true) (hn : As.length = n) (hsize : ls.size = nL) (hst : st = As.reverse ++ rest) (hW : (rest.map fun v => v.category).sum ≤ 8) (hdg : decode cc pc = .ok (.invokestatic index, 3)) (hf : cells + 0 ≤ R.cells ∧ slots + 0 ≤ R.slots) (hS : va_S A s.heap H locs) (hA : ∀ q : Nat, s.heap.size ≤ q → A q)
    (kk : ∀ (H1 : Heap) (locs1 : List Loc), (∀ q : Nat, q < H.size → H1[q]? = H[q]?) → va_S A s.heap H1 locs1 → W p l e R s m args below meth c H1 locs1 cells slots Q (F0 m (pc + 3) ls (.int r :: rest))) : W p l e R s m args below meth c H locs cells slots Q (F0 m pc ls st) := by
  have hFc : ∀ q : Nat, H.size ≤ q → A q := fun q hq => hA q (Nat.le_trans hS.1 hq)
  refine va_calli (va_runS (As := As) (rest := rest) F hM cw ⟨fun a U g mk q => q, fun U hU hW => ⟨rfl, congrArg Array.size hU⟩⟩ rfl hn hsize hst (lv_room hW) hdg hf) hS (fun q _ h => hFc q h) hFc (fun r_2 u t H1 locs ht hvm hw hB hz1 hk1 hS => ?_)
  have hw : r_2 = r := hw
  subst hw
  exact kk H1 locs (fun q hq => hk1 q hq (Nat.not_le.mpr hq)) hS
end KM
theorem kpP {D : va_G} {cl : List vw_C} {ws : va_W} {H H1 : Heap} (hP : va_P D cl ws H) (hq : ∀ q : Nat, q < H.size → H1[q]? = H[q]?) : va_P D cl ws H1 := hP.kept (fun k q hk => hq q.1 (va_at.lt (hP k q hk)))
