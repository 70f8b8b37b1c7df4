/-! the class' world: its fixed cells, a pool of porters, and what is given of statics, nest links and texts -/
abbrev PD : Type := Int32 × Int32 × Int32 × Int32
abbrev CS : Type := (Nat → Nat → Int32) × (Nat → Nat → Int64) × (Nat → Nat → PD)
def siI (S : CS) (k : Nat) (f : Nat → Int32) : CS := (va_up S.1 k f, S.2)
def siJ (S : CS) (k : Nat) (f : Nat → Int64) : CS := (S.1, va_up S.2.1 k f, S.2.2)
def siP (S : CS) (k : Nat) (f : Nat → PD) : CS := (S.1, S.2.1, va_up S.2.2 k f)
def clsOf (k : Int32) : Nat := if k = 1 then 4 else if k = 2 then 3 else if k = 3 then 9 else if k = 4 then 0 else if k = 5 then 2 else 6
def pdV (d : PD) : List Value := [.int d.1, .int d.2.1, .int d.2.2.1, .int d.2.2.2]
def pdE (d : PD) : va_E := .inr (clsOf d.2.2.2, pdV d)
def gI (h : Nat → Nat) : Nat → Option Nat := va_up (va_up (fun _ => none) (0 : Int32).toNatClampNeg (some (h 10))) (1 : Int32).toNatClampNeg (some (h 17))
def wC (t : Nat → ClassId) (h : Nat → Nat) (tx : Nat) (g : Nat → Nat → Option Nat) (S : CS) : va_W := [(h 0, .inr (10, [.ref (h 3), .ref (h 1), .ref (h 2), .ref (h 31), .ref (h 33), .ref (h 40), .int (S.1 1006 0), .int (S.1 1007 0), .int (S.1 1008 0)])), (h 1, .inl (t 3, 2, .inr (.inr (.inr (.inr (gI h)))))), (h 2, .inl (t 1, 2, .inl (S.1 2))), (h 3, .inr (1, [.ref (h 4), .ref (h 5), .ref (h 6), .ref (h 7), .ref (h 8), .ref (h 9), .int (S.1 1306 0), .int (S.1 1307 0), .int (S.1 1308 0), .int (S.1 1309 0)])), (h 4, .inl (t 4, 6, .inr (.inr (.inr (.inr (g 0)))))), (h 5, .inl (t 0, 4, .inl (S.1 5))), (h 6, .inl (t 0, 20, .inl (S.1 6))), (h 7, .inl (t 0, 20, .inl (S.1 7))), (h 8, .inl (t 0, 200, .inl (S.1 8))), (h 9, .inl (t 0, 5, .inl (S.1 9))), (h 10, .inr (1, [.ref (h 11), .ref (h 12), .ref (h 13), .ref (h 14), .ref (h 15), .ref (h 16), .int (S.1 2006 0), .int (S.1 2007 0), .int (S.1 2008 0), .int (S.1 2009 0)])), (h 11, .inl (t 4, 6, .inr (.inr (.inr (.inr (g 1)))))), (h 12, .inl (t 0, 4, .inl (S.1 12))), (h 13, .inl (t 0, 20, .inl (S.1 13))), (h 14, .inl (t 0, 20, .inl (S.1 14))), (h 15, .inl (t 0, 200, .inl (S.1 15))), (h 16, .inl (t 0, 5, .inl (S.1 16))), (h 17, .inr (1, [.ref (h 18), .ref (h 19), .ref (h 20), .ref (h 21), .ref (h 22), .ref (h 23), .int (S.1 2706 0), .int (S.1 2707 0), .int (S.1 2708 0), .int (S.1 2709 0)])), (h 18, .inl (t 4, 6, .inr (.inr (.inr (.inr (g 2)))))), (h 19, .inl (t 0, 4, .inl (S.1 19))), (h 20, .inl (t 0, 20, .inl (S.1 20))), (h 21, .inl (t 0, 20, .inl (S.1 21))), (h 22, .inl (t 0, 200, .inl (S.1 22))), (h 23, .inl (t 0, 5, .inl (S.1 23))), (h 24, .inr (1, [.ref (h 25), .ref (h 26), .ref (h 27), .ref (h 28), .ref (h 29), .ref (h 30), .int (S.1 3406 0), .int (S.1 3407 0), .int (S.1 3408 0), .int (S.1 3409 0)])), (h 25, .inl (t 4, 6, .inr (.inr (.inr (.inr (g 3)))))), (h 26, .inl (t 0, 4, .inl (S.1 26))), (h 27, .inl (t 0, 20, .inl (S.1 27))), (h 28, .inl (t 0, 20, .inl (S.1 28))), (h 29, .inl (t 0, 200, .inl (S.1 29))), (h 30, .inl (t 0, 5, .inl (S.1 30))), (h 31, .inr (8, [.ref (h 24), .ref (h 32), .ref tx, .int (S.1 4103 0), .int (S.1 4104 0), .int (S.1 4105 0), .int (S.1 4106 0), .int (S.1 4107 0), .int (S.1 4108 0)])), (h 32, .inl (t 0, 4, .inl (S.1 32))), (h 33, .inr (7, [.int (S.1 4300 0), .int (S.1 4301 0), .int (S.1 4302 0), .int (S.1 4303 0), .ref (h 34), .int (S.1 4305 0), .int (S.1 4306 0), .ref (h 35), .ref (h 36), .ref (h 37), .ref (h 38), .ref (h 39)])), (h 34, .inl (t 0, 240, .inl (S.1 34))), (h 35, .inl (t 2, 240, .inr (.inl (S.2.1 35)))), (h 36, .inl (t 2, 241, .inr (.inl (S.2.1 36)))), (h 37, .inl (t 0, 15424, .inl (S.1 37))), (h 38, .inl (t 0, 64, .inl (S.1 38))), (h 39, .inl (t 0, 64, .inl (S.1 39))), (h 40, .inr (5, [.int (S.1 5000 0), .int (S.1 5001 0), .ref (h 41), .ref (h 42), .ref (h 43), .ref (h 44), .ref (h 45), .int (S.1 5007 0), .int (S.1 5008 0)])), (h 41, .inl (t 0, 5, .inl (S.1 41))), (h 42, .inl (t 0, 5, .inl (S.1 42))), (h 43, .inl (t 0, 6, .inl (S.1 43))), (h 44, .inl (t 0, 21, .inl (S.1 44))), (h 45, .inl (t 0, 21, .inl (S.1 45)))]
def tyC (t : Nat → ClassId) : List (ClassId × FieldType) := [(t 0, .int), (t 1, .boolean), (t 2, .long), (t 3, .object "OnlyTwo$Camp"), (t 4, .object "OnlyTwo$Plain")]
def rlC (g : Nat → Nat → Option Nat) (LP : List Nat) (pf : Nat → va_E) (S : CS) : Prop := ∀ c, c < 4 → ∀ j, j < 6 → ∃ a, g c j = some a ∧ a ∈ LP ∧ pf a = pdE (S.2.2 c j)
def hwC (dC : Nat → ClassId) (dI : Nat → Nat → Nat) (t : Nat → ClassId) (A : Nat → Prop) (h : Nat → Nat) (tx : Nat) (S : CS) (H : Heap) : Prop := ∃ (g : Nat → Nat → Option Nat) (LP : List Nat) (pf : Nat → va_E), va_P (dC, dI) vwCl (wC t h tx g S ++ va_pl LP pf) H ∧ va_D A (wC t h tx g S ++ va_pl LP pf) ∧ rlC g LP pf S
/-- nest words -/
def nwM : List (String × Nat × MethodName × String) := [("OnlyTwo", 26, ⟨"OnlyTwo$Reader", "<init>", "()V"⟩, "OnlyTwo"), ("OnlyTwo", 33, ⟨"OnlyTwo$Planner", "<init>", "()V"⟩, "OnlyTwo"), ("OnlyTwo", 40, ⟨"OnlyTwo$Loader", "<init>", "()V"⟩, "OnlyTwo"), ("OnlyTwo$Camp", 66, ⟨"OnlyTwo", "hasPorterIn", "(II)Z"⟩, "OnlyTwo"), ("OnlyTwo$Tied", 7, ⟨"OnlyTwo", "hasPorterIn", "(II)Z"⟩, "OnlyTwo"), ("OnlyTwo$Reader", 88, ⟨"OnlyTwo", "newPorter", "(IIII)LOnlyTwo$Plain;"⟩, "OnlyTwo"), ("OnlyTwo$Camp", 121, ⟨"OnlyTwo", "isOnOneSide", "(II)Z"⟩, "OnlyTwo"), ("OnlyTwo$Planner", 56, ⟨"OnlyTwo", "withAllOf", "(I)J"⟩, "OnlyTwo"), ("OnlyTwo$Planner", 106, ⟨"OnlyTwo", "crossed", "(JI)J"⟩, "OnlyTwo"), ("OnlyTwo$Planner", 117, ⟨"OnlyTwo", "isOnOneSide", "(II)Z"⟩, "OnlyTwo"), ("OnlyTwo$Camp", 134, ⟨"OnlyTwo", "crossed", "(JI)J"⟩, "OnlyTwo"), ("OnlyTwo$Loader", 79, ⟨"OnlyTwo", "hasPorterIn", "(II)Z"⟩, "OnlyTwo")]
def nwF : List (String × Nat × String × String × String × String) := [("OnlyTwo$Camp", 36, "OnlyTwo", "AT_FIRST", "[I", "OnlyTwo"), ("OnlyTwo$Reader", 18, "OnlyTwo", "LOWEST_OF_PORTER", "[I", "OnlyTwo"), ("OnlyTwo$Loader", 21, "OnlyTwo", "SMALL_SETS", "[I", "OnlyTwo"), ("OnlyTwo$Reader", 81, "OnlyTwo", "HIGHEST_OF_PORTER", "[I", "OnlyTwo"), ("OnlyTwo$Reader", 96, "OnlyTwo", "HIGHEST_NUMBER", "[I", "OnlyTwo"), ("OnlyTwo$Planner", 42, "OnlyTwo", "SMALL_SETS", "[I", "OnlyTwo"), ("OnlyTwo$Camp", 131, "OnlyTwo", "SMALL_SETS", "[I", "OnlyTwo")]
def nwK : List String := ["OnlyTwo$Lame", "OnlyTwo$Heavy", "OnlyTwo$Tied", "OnlyTwo$Afraid", "OnlyTwo$Guide"]
def nwC (U : State) : Prop := (∀ q ∈ nwM, va_Nw (.methodLinkNest q.1 q.2.1 q.2.2.1 q.2.2.2) U) ∧ (∀ q ∈ nwF, va_Nw (.fieldLinkNest q.1 q.2.1 q.2.2.1 q.2.2.2.1 q.2.2.2.2.1 q.2.2.2.2.2) U) ∧ ∀ q ∈ nwK, va_Nw (.castable q "OnlyTwo$Plain") U
theorem nwC.warm {s U : State} (hW : s.WarmedH U.vm) (h : nwC s) : nwC U := ⟨fun q hq => va_Nw.warmM hW (h.1 q hq), fun q hq => va_Nw.warmF hW (h.2.1 q hq), fun q hq => va_Nw.warmC hW (h.2.2 q hq)⟩
theorem nwC.same {s U : State} (hv : s.vm = U.vm) (h : nwC s) : nwC U := ⟨fun q hq => va_Nw.same rfl hv (h.1 q hq), fun q hq => va_Nw.same rfl hv (h.2.1 q hq), fun q hq => va_Nw.same rfl hv (h.2.2 q hq)⟩
/-- static arrays -/
def ssL (i : Nat) : List Int32 := match i with
  | 0 => [1, 2, 3, 4, 5, 6, 8, 9, 10, 12, 16, 17, 18, 20, 24, 32, 33, 34, 36, 40, 48]
  | 2 => [2, 120, 3, 180]
  | 3 => [20, 239, 20, 240]
  | 4 => [1, 1, 0, 0]
  | _ => [60, 30, 99, 5]
def ssI (i j : Nat) : Int32 := (ssL i).getD j 0
def wiJ (j : Nat) : Int64 := ([6148914691236517205, 3689348814741910323, 1085102592571150095, 71777214294589695, 281470681808895, 4294967295] : List Int64).getD j 0
def stI (ts : Nat → Nat) (A : Nat → Prop) (U : State) (H : Heap) (i : Nat) (nm : String) (N : Nat) : Prop := va_Z "OnlyTwo" nm "[I" (.ref (ts i)) A U H ∧ va_T .int (ts i) N (fun j => .int (ssI i j)) A U H
def stJ (ts : Nat → Nat) (A : Nat → Prop) (U : State) (H : Heap) : Prop := va_Z "OnlyTwo" "WITHOUT" "[J" (.ref (ts 1)) A U H ∧ va_T .long (ts 1) 6 (fun j => .long (wiJ j)) A U H
def wTx (i : Nat) : String := match i with
  | 0 => "gap"
  | 1 => "evening"
  | 2 => "more"
  | 3 => "night"
  | 4 => "porter"
  | _ => "go"
def wLen : List Nat := [3, 7, 4, 5, 6, 2]
def wByt : List (List Int32) := [[103, 97, 112], [101, 118, 101, 110, 105, 110, 103], [109, 111, 114, 101], [110, 105, 103, 104, 116], [112, 111, 114, 116, 101, 114], [103, 111]]
def enC (ts aK aV : Nat → Nat) (A : Nat → Prop) (U : State) (H : Heap) : Prop := nwC U ∧ stI ts A U H 0 "SMALL_SETS" 21 ∧ stJ ts A U H ∧ stI ts A U H 2 "AT_FIRST" 4 ∧ stI ts A U H 3 "HIGHEST_NUMBER" 4 ∧ stI ts A U H 4 "LOWEST_OF_PORTER" 4 ∧ stI ts A U H 5 "HIGHEST_OF_PORTER" 4 ∧ va_Z "java/lang/String" "COMPACT_STRINGS" "Z" (.int 1) A U H ∧ vk_S 6 wLen wByt aK aV A U H ∧ (∀ i, i < 6 → vk_R "OnlyTwo$Reader" (134 + 2 * i) (wTx i) (aK i) U) ∧ va_Zq "jdk/internal/util/Preconditions" "SIOOBE_FORMATTER" "Ljava/util/function/BiFunction;" A U H
theorem stI.go {ts : Nat → Nat} {A B : Nat → Prop} {s U : State} {H0 H : Heap} {i : Nat} {nm : String} {N : Nat} (hq : ∀ a : Nat, a < H0.size → ¬ A a → H[a]? = H0[a]?) (hvm : s.vm.Alike U.vm) (hAB : ∀ q, B q → A q) (h : stI ts A s H0 i nm N) : stI ts B U H i nm N := ⟨((h.1.kept hq).moved hvm).narrow hAB, ((h.2.kept hq).moved hvm).narrow hAB⟩
theorem stJ.go {ts : Nat → Nat} {A B : Nat → Prop} {s U : State} {H0 H : Heap} (hq : ∀ a : Nat, a < H0.size → ¬ A a → H[a]? = H0[a]?) (hvm : s.vm.Alike U.vm) (hAB : ∀ q, B q → A q) (h : stJ ts A s H0) : stJ ts B U H := ⟨((h.1.kept hq).moved hvm).narrow hAB, ((h.2.kept hq).moved hvm).narrow hAB⟩
theorem enC.go {ts aK aV : Nat → Nat} {A B : Nat → Prop} {s U : State} {H : Heap} {locs : List Loc} (hE : enC ts aK aV A s s.heap) (hS : va_S A s.heap H locs) (hU : U.heap = H) (hW : s.WarmedH U.vm) (hAB : ∀ q, B q → A q) : enC ts aK aV B U U.heap := by
  obtain ⟨h0, h1, h2, h3, h4, h5, h6, h7, h8, h9, h10⟩ := hE
  have hq : ∀ a : Nat, a < s.heap.size → ¬ A a → U.heap[a]? = s.heap[a]? := by rw [hU]; exact hS.2.1
  exact ⟨h0.warm hW, h1.go hq hW.alike hAB, h2.go hq hW.alike hAB, h3.go hq hW.alike hAB, h4.go hq hW.alike hAB, h5.go hq hW.alike hAB, h6.go hq hW.alike hAB, ((h7.kept hq).moved hW.alike).narrow hAB, ((h8.kept hq).moved hW.alike).narrow hAB, fun i hi => (h9 i hi).warm hW, ((h10.kept hq).moved hW.alike).narrow hAB⟩
theorem enC.blind {ts aK aV : Nat → Nat} {A : Nat → Prop} {U : State} {g : JFrame} {mk : MethodId} {a : Array Value} (hE : enC ts aK aV A U U.heap) : enC ts aK aV A (U.calling g mk a) (U.calling g mk a).heap := by
  obtain ⟨h0, h1, h2, h3, h4, h5, h6, h7, h8, h9, h10⟩ := hE
  have hq : ∀ x : Nat, x < U.heap.size → ¬ A x → (U.calling g mk a).heap[x]? = U.heap[x]? := fun _ _ _ => rfl
  have hv : U.vm.Alike (U.calling g mk a).vm := Vm.Alike.refl U.vm
  exact ⟨h0.same rfl, h1.go hq hv (fun _ h => h), h2.go hq hv (fun _ h => h), h3.go hq hv (fun _ h => h), h4.go hq hv (fun _ h => h), h5.go hq hv (fun _ h => h), h6.go hq hv (fun _ h => h), (h7.kept hq).moved hv, (h8.kept hq).moved hv, fun i hi => (h9 i hi).same rfl, (h10.kept hq).moved hv⟩
/-! contracts -/
def preC (dC : Nat → ClassId) (dI : Nat → Nat → Nat) (t : Nat → ClassId) (ts aK aV : Nat → Nat) (A : Nat → Prop) (h : Nat → Nat) (tx sz : Nat) (S : CS) (U : State) : Prop := U.heap.size = sz ∧ enC ts aK aV A U U.heap ∧ hwC dC dI t A h tx S U.heap ∧ va_K (dC, dI) vwCl (tyC t) U
def qcCi (dC : Nat → ClassId) (dI : Nat → Nat → Nat) (t : Nat → ClassId) (A : Nat → Prop) (h : Nat → Nat) (tx : Nat) (r : Int32) (S : CS) : Array Value → State → Outcome → State → Prop := va_Qi (fun r2 (_ : Unit) => r2 = r) (fun _ U => hwC dC dI t A h tx S U.heap) A
def qcCl (dC : Nat → ClassId) (dI : Nat → Nat → Nat) (t : Nat → ClassId) (A : Nat → Prop) (h : Nat → Nat) (tx : Nat) (r : Int64) (S : CS) : Array Value → State → Outcome → State → Prop := va_Ql (fun r2 (_ : Unit) => r2 = r) (fun _ U => hwC dC dI t A h tx S U.heap) A
def qcCv (dC : Nat → ClassId) (dI : Nat → Nat → Nat) (t : Nat → ClassId) (A : Nat → Prop) (h : Nat → Nat) (tx : Nat) (S : CS) : Array Value → State → Outcome → State → Prop := va_Qv (fun (_ : Unit) => True) (fun _ U => hwC dC dI t A h tx S U.heap) A
def cCi (l : Launch) (y : MethodName) (ws : List Cond) (rm : Room) (dC : Nat → ClassId) (dI : Nat → Nat → Nat) (t : Nat → ClassId) (ts aK aV : Nat → Nat) (A : Nat → Prop) (h : Nat → Nat) (tx tx' sz : Nat) (av : List Value) (S : CS) (r : Int32) (S' : CS) : Prop := Met l y ws rm (va_Pc av (preC dC dI t ts aK aV A h tx sz S)) (qcCi dC dI t A h tx' r S') rm.cells rm.slots A
def cCl (l : Launch) (y : MethodName) (ws : List Cond) (rm : Room) (dC : Nat → ClassId) (dI : Nat → Nat → Nat) (t : Nat → ClassId) (ts aK aV : Nat → Nat) (A : Nat → Prop) (h : Nat → Nat) (tx tx' sz : Nat) (av : List Value) (S : CS) (r : Int64) (S' : CS) : Prop := Met l y ws rm (va_Pc av (preC dC dI t ts aK aV A h tx sz S)) (qcCl dC dI t A h tx' r S') rm.cells rm.slots A
def cCv (l : Launch) (y : MethodName) (ws : List Cond) (rm : Room) (dC : Nat → ClassId) (dI : Nat → Nat → Nat) (t : Nat → ClassId) (ts aK aV : Nat → Nat) (A : Nat → Prop) (h : Nat → Nat) (tx tx' sz : Nat) (av : List Value) (S : CS) (S' : CS) : Prop := Met l y ws rm (va_Pc av (preC dC dI t ts aK aV A h tx sz S)) (qcCv dC dI t A h tx' S') rm.cells rm.slots A
/-- a method that changes nothing: what it may look at is X -/
def cXi (l : Launch) (y : MethodName) (ws : List Cond) (rm : Room) (sz : Nat) (av : List Value) (X : State → Prop) (r : Int32) : Prop := Met l y ws rm (va_Pc av (fun U => U.heap.size = sz ∧ X U)) (qcEi (fun q => sz ≤ q) r) 0 0 (fun q => sz ≤ q)
def cXl (l : Launch) (y : MethodName) (ws : List Cond) (rm : Room) (sz : Nat) (av : List Value) (X : State → Prop) (r : Int64) : Prop := Met l y ws rm (va_Pc av (fun U => U.heap.size = sz ∧ X U)) (qcEl (fun q => sz ≤ q) r) 0 0 (fun q => sz ≤ q)
section KC
variable {p : Program} {l : Launch} {e : Env} {R : Room} {s : State} {m : MethodId} {args : Array Value} {below : List Frame} {meth : Method} {c : Code} {H : Heap} {locs : List Loc} {cells slots : Nat} {Q : State → Prop} {pc : Nat} {ls : Array Slot} {rest : List Value} {dC : Nat → ClassId} {dI : Nat → Nat → Nat} {t : Nat → ClassId} {ts aK aV : Nat → Nat} {A : Nat → Prop} {h : Nat → Nat} {tx tx' tx1 : Nat} {S S' S1 : CS} {cc : ByteArray} {Ts : List Cond} {own : String} {nL : Nat} {g : Nat → Nat → Option Nat} {LP : List Nat} {pf : Nat → va_E}
theorem kJ {x y : Int64} (h : y = x) (k : W p l e R s m args below meth c H locs cells slots Q (F0 m pc ls (.long y :: rest))) : W p l e R s m args below meth c H locs cells slots Q (F0 m pc ls (.long x :: rest)) := by
  subst h
  exact k
theorem rtCi {v r : Int32} (hx : p.tables.exec = Jvm.exec) (hb : c.code = cc) (hr : meth.sig.returnType = some .int) (hlocks : meth.locks = false) (hC : hwC dC dI t A h tx S1 H) (hS : va_S A s.heap H locs) (hv : (some (v, S1) : Option (Int32 × CS)) = some (r, S')) (hdg : decode cc pc = .ok (.ireturn, 1)) : W p l e R s m args below meth c H locs cells slots (MQ below (qcCi dC dI t A h tx r S') args s cells slots A) (F0 m pc ls [.int v]) := by
  obtain ⟨rfl, rfl⟩ := Prod.mk.inj (Option.some.inj hv)
  exact W.iret (v := v) hx hb hr (fun U ht hW => ⟨⟨v, (), rfl, rfl, by show hwC dC dI t A h tx S1 U.heap; rw [ht]; exact hC⟩, hS.F ht⟩) hS.2.2 hdg
theorem rtCz {v r : Int32} (hx : p.tables.exec = Jvm.exec) (hb : c.code = cc) (hr : meth.sig.returnType = some .boolean) (hlocks : meth.locks = false) (hC : hwC dC dI t A h tx S1 H) (hS : va_S A s.heap H locs) (hn : narrow .boolean (.int v) = .int v) (hv : (some (v, S1) : Option (Int32 × CS)) = some (r, S')) (hdg : decode cc pc = .ok (.ireturn, 1)) : W p l e R s m args below meth c H locs cells slots (MQ below (qcCi dC dI t A h tx r S') args s cells slots A) (F0 m pc ls [.int v]) := by
  obtain ⟨rfl, rfl⟩ := Prod.mk.inj (Option.some.inj hv)
  exact W.zret (v := v) hx hb hr hn (fun U ht hW => ⟨⟨v, (), rfl, rfl, by show hwC dC dI t A h tx S1 U.heap; rw [ht]; exact hC⟩, hS.F ht⟩) hS.2.2 hdg
theorem rtCl {v r : Int64} (hx : p.tables.exec = Jvm.exec) (hb : c.code = cc) (hr : meth.sig.returnType = some .long) (hlocks : meth.locks = false) (hC : hwC dC dI t A h tx S1 H) (hS : va_S A s.heap H locs) (hv : (some (v, S1) : Option (Int64 × CS)) = some (r, S')) (hdg : decode cc pc = .ok (.lreturn, 1)) : W p l e R s m args below meth c H locs cells slots (MQ below (qcCl dC dI t A h tx r S') args s cells slots A) (F0 m pc ls [.long v]) := by
  obtain ⟨rfl, rfl⟩ := Prod.mk.inj (Option.some.inj hv)
  exact W.lret (v := v) hx hb hr (fun U ht hW => ⟨⟨v, (), rfl, rfl, by show hwC dC dI t A h tx S1 U.heap; rw [ht]; exact hC⟩, hS.F ht⟩) hS.2.2 hdg
theorem rtCv (hx : p.tables.exec = Jvm.exec) (hb : c.code = cc) (hr : meth.sig.returnType = none) (hlocks : meth.locks = false) (hC : hwC dC dI t A h tx S1 H) (hS : va_S A s.heap H locs) (hv : (some S1 : Option CS) = some S') (hdg : decode cc pc = .ok (.return_, 1)) : W p l e R s m args below meth c H locs cells slots (MQ below (qcCv dC dI t A h tx S') args s cells slots A) (F0 m pc ls []) := by
  obtain rfl := Option.some.inj hv
  exact W.vret hx hb hr (fun U ht hW => ⟨⟨(), rfl, trivial, by show hwC dC dI t A h tx S1 U.heap; rw [ht]; exact hC⟩, hS.F ht⟩) hS.2.2 hdg
theorem rtEl {v r : Int64} (hx : p.tables.exec = Jvm.exec) (hb : c.code = cc) (hr : meth.sig.returnType = some .long) (hlocks : meth.locks = false) (hS : va_S A s.heap H locs) (hv : (some v : Option Int64) = some r) (hdg : decode cc pc = .ok (.lreturn, 1)) : W p l e R s m args below meth c H locs cells slots (MQ below (qcEl A r) args s cells slots A) (F0 m pc ls [.long v]) := by
  cases hv
  exact W.lret (v := v) hx hb hr (fun t ht hW => ⟨⟨v, (), rfl, rfl, trivial⟩, hS.F ht⟩) hS.2.2 hdg
theorem rtEb {v r : Int32} {ty : FieldType} (hx : p.tables.exec = Jvm.exec) (hb : c.code = cc) (hr : meth.sig.returnType = some ty) (hlocks : meth.locks = false) (hS : va_S A s.heap H locs) (hn : narrow ty (.int v) = .int v) (hv : (some v : Option Int32) = some r) (hdg : decode cc pc = .ok (.ireturn, 1)) : W p l e R s m args below meth c H locs cells slots (MQ below (qcEi A r) args s cells slots A) (F0 m pc ls [.int v]) := by
  cases hv
  exact W.zret (v := v) hx hb hr hn (fun t ht hW => ⟨⟨v, (), rfl, rfl, trivial⟩, hS.F ht⟩) hS.2.2 hdg
theorem preC_blind {sz : Nat} {av : List Value} : FrameBlind (va_Pc av (preC dC dI t ts aK aV A h tx sz S)) := by
  intro a U g mk q
  obtain ⟨q0, q1, qE, qC, qK⟩ := q
  exact ⟨q0, q1, qE.blind, qC, va_K.moved (u := U) (U := U.calling g mk a) (Vm.Alike.refl U.vm) qK⟩
/-- a call of an instance method of the class, in its whole world -/
theorem klCi {y : MethodName} {ws : List Cond} {rm : Room} {bytes : ByteArray} {maxL index n b : Nat} {C : String} {ret : Option FieldType} {As st : List Value} {r : Int32} (F : CallFix p m c cc nL s args Ts own) (hM : cCi l y ws rm dC dI t ts aK aV A h tx tx' H.size (.ref b :: As) S r S') (cw : CallW R s args own C index y bytes maxL ret ws rm rm.cells rm.slots n) (hrv : ∃ cell : Cell, H[b]? = some cell ∧ cell.vm.isStatics = false ∧ s.vm.findClass C = some cell.cls) (hn : As.length = n) (hsize : ls.size = nL) (hst : st = As.reverse ++ .ref b :: rest) (hW : (rest.map fun v => v.category).sum ≤ 8) (hdg : decode cc pc = .ok (.invokevirtual index, 3)) (hf : cells + rm.cells ≤ R.cells ∧ slots + rm.slots ≤ R.slots) (hE : enC ts aK aV A s s.heap) (hK : va_K (dC, dI) vwCl (tyC t) s) (hC : hwC dC dI t A h tx S H) (hS : va_S A s.heap H locs)
    (kk : ∀ (H1 : Heap) (locs1 : List Loc), hwC dC dI t A h tx' S' H1 → va_S A s.heap H1 locs1 → W p l e R s m args below meth c H1 locs1 (cells + rm.cells) (slots + rm.slots) Q (F0 m (pc + 3) ls (.int r :: rest))) : W p l e R s m args below meth c H locs cells slots Q (F0 m pc ls st) := by
  refine va_calli (va_runV (As := As) (rest := rest) F hM cw ⟨preC_blind, hrv, fun U hU hW => ⟨rfl, congrArg Array.size hU, hE.go hS hU hW (fun _ h => h), by rw [hU]; exact hC, va_K.moved hW.alike hK⟩⟩ rfl hn hsize hst (lv_room hW) hdg hf) hS (fun q _ h => h) (fun q h => h) (fun r_2 u U H1 locs ht hvm hw hB hz1 hk1 hS => ?_)
  have hw : r_2 = r := hw
  subst hw
  have hB : hwC dC dI t A h tx' S' U.heap := hB
  rw [ht] at hB
  exact kk H1 locs hB hS
theorem klCl {y : MethodName} {ws : List Cond} {rm : Room} {bytes : ByteArray} {maxL index n b : Nat} {C : String} {ret : Option FieldType} {As st : List Value} {r : Int64} (F : CallFix p m c cc nL s args Ts own) (hM : cCl l y ws rm dC dI t ts aK aV A h tx tx' H.size (.ref b :: As) S r S') (cw : CallW R s args own C index y bytes maxL ret ws rm rm.cells rm.slots n) (hrv : ∃ cell : Cell, H[b]? = some cell ∧ cell.vm.isStatics = false ∧ s.vm.findClass C = some cell.cls) (hn : As.length = n) (hsize : ls.size = nL) (hst : st = As.reverse ++ .ref b :: rest) (hW : (rest.map fun v => v.category).sum ≤ 8) (hdg : decode cc pc = .ok (.invokevirtual index, 3)) (hf : cells + rm.cells ≤ R.cells ∧ slots + rm.slots ≤ R.slots) (hE : enC ts aK aV A s s.heap) (hK : va_K (dC, dI) vwCl (tyC t) s) (hC : hwC dC dI t A h tx S H) (hS : va_S A s.heap H locs)
    (kk : ∀ (H1 : Heap) (locs1 : List Loc), hwC dC dI t A h tx' S' H1 → va_S A s.heap H1 locs1 → W p l e R s m args below meth c H1 locs1 (cells + rm.cells) (slots + rm.slots) Q (F0 m (pc + 3) ls (.long r :: rest))) : W p l e R s m args below meth c H locs cells slots Q (F0 m pc ls st) := by
  refine va_calll (va_runV (As := As) (rest := rest) F hM cw ⟨preC_blind, hrv, fun U hU hW => ⟨rfl, congrArg Array.size hU, hE.go hS hU hW (fun _ h => h), by rw [hU]; exact hC, va_K.moved hW.alike hK⟩⟩ rfl hn hsize hst (lv_room hW) hdg hf) hS (fun q _ h => h) (fun q h => h) (fun r_2 u U H1 locs ht hvm hw hB hz1 hk1 hS => ?_)
  have hw : r_2 = r := hw
  subst hw
  have hB : hwC dC dI t A h tx' S' U.heap := hB
  rw [ht] at hB
  exact kk H1 locs hB hS
theorem klCv {y : MethodName} {ws : List Cond} {rm : Room} {bytes : ByteArray} {maxL index n b : Nat} {C : String} {ret : Option FieldType} {As st : List Value} (F : CallFix p m c cc nL s args Ts own) (hM : cCv l y ws rm dC dI t ts aK aV A h tx tx' H.size (.ref b :: As) S S') (cw : CallW R s args own C index y bytes maxL ret ws rm rm.cells rm.slots n) (hrv : ∃ cell : Cell, H[b]? = some cell ∧ cell.vm.isStatics = false ∧ s.vm.findClass C = some cell.cls) (hn : As.length = n) (hsize : ls.size = nL) (hst : st = As.reverse ++ .ref b :: rest) (hW : (rest.map fun v => v.category).sum ≤ 8) (hdg : decode cc pc = .ok (.invokevirtual index, 3)) (hf : cells + rm.cells ≤ R.cells ∧ slots + rm.slots ≤ R.slots) (hE : enC ts aK aV A s s.heap) (hK : va_K (dC, dI) vwCl (tyC t) s) (hC : hwC dC dI t A h tx S H) (hS : va_S A s.heap H locs)
    (kk : ∀ (H1 : Heap) (locs1 : List Loc), hwC dC dI t A h tx' S' H1 → va_S A s.heap H1 locs1 → W p l e R s m args below meth c H1 locs1 (cells + rm.cells) (slots + rm.slots) Q (F0 m (pc + 3) ls rest)) : W p l e R s m args below meth c H locs cells slots Q (F0 m pc ls st) := by
  refine va_callv (va_runV (As := As) (rest := rest) F hM cw ⟨preC_blind, hrv, fun U hU hW => ⟨rfl, congrArg Array.size hU, hE.go hS hU hW (fun _ h => h), by rw [hU]; exact hC, va_K.moved hW.alike hK⟩⟩ rfl hn hsize hst (lv_room hW) hdg hf) hS (fun q _ h => h) (fun q h => h) (fun u U H1 locs ht hvm hw hB hz1 hk1 hS => ?_)
  have hB : hwC dC dI t A h tx' S' U.heap := hB
  rw [ht] at hB
  exact kk H1 locs hB hS
/-- static, in the whole world -/
theorem klCsl {y : MethodName} {ws : List Cond} {rm : Room} {bytes : ByteArray} {maxL index n : Nat} {ret : Option FieldType} {As st : List Value} {r : Int64} (F : CallFix p m c cc nL s args Ts own) (hM : cCl l y ws rm dC dI t ts aK aV A h tx tx' H.size As S r S') (cw : CallB R s args own index y bytes maxL ret ws rm rm.cells rm.slots n ∧ (Cond.static y).before args s = true) (hn : As.length = n) (hsize : ls.size = nL) (hst : st = As.reverse ++ rest) (hW : (rest.map fun v => v.category).sum ≤ 8) (hdg : decode cc pc = .ok (.invokestatic index, 3)) (hf : cells + rm.cells ≤ R.cells ∧ slots + rm.slots ≤ R.slots) (hE : enC ts aK aV A s s.heap) (hK : va_K (dC, dI) vwCl (tyC t) s) (hC : hwC dC dI t A h tx S H) (hS : va_S A s.heap H locs)
    (kk : ∀ (H1 : Heap) (locs1 : List Loc), hwC dC dI t A h tx' S' H1 → va_S A s.heap H1 locs1 → W p l e R s m args below meth c H1 locs1 (cells + rm.cells) (slots + rm.slots) Q (F0 m (pc + 3) ls (.long r :: rest))) : W p l e R s m args below meth c H locs cells slots Q (F0 m pc ls st) := by
  refine va_calll (va_runS (As := As) (rest := rest) F hM cw ⟨preC_blind, fun U hU hW => ⟨rfl, congrArg Array.size hU, hE.go hS hU hW (fun _ h => h), by rw [hU]; exact hC, va_K.moved hW.alike hK⟩⟩ rfl hn hsize hst (lv_room hW) hdg hf) hS (fun q _ h => h) (fun q h => h) (fun r_2 u U H1 locs ht hvm hw hB hz1 hk1 hS => ?_)
  have hw : r_2 = r := hw
  subst hw
  have hB : hwC dC dI t A h tx' S' U.heap := hB
  rw [ht] at hB
  exact kk H1 locs hB hS
/-- calls of methods that change nothing: static, static of a nest mate, instance -/
theorem klXi {y : MethodName} {ws : List Cond} {rm : Room} {bytes : ByteArray} {maxL index n : Nat} {ret : Option FieldType} {As st : List Value} {r : Int32} {X : State → Prop} (F : CallFix p m c cc nL s args Ts own) (hM : cXi l y ws rm H.size As X r) (hXb : ∀ (a : Array Value) (U : State) (g : JFrame) (mk : MethodId), X U → X (U.calling g mk a)) (hX : ∀ U : State, U.heap = H → s.WarmedH U.vm → X U) (cw : CallB R s args own index y bytes maxL ret ws rm 0 0 n ∧ (Cond.static y).before args s = true) (hn : As.length = n) (hsize : ls.size = nL) (hst : st = As.reverse ++ rest) (hW : (rest.map fun v => v.category).sum ≤ 8) (hdg : decode cc pc = .ok (.invokestatic index, 3)) (hf : cells + 0 ≤ R.cells ∧ slots + 0 ≤ R.slots) (hS : va_S A s.heap H locs) (hA : ∀ q : Nat, s.heap.size ≤ q → A q)
    (kk : ∀ (H1 : Heap) (locs1 : List Loc), (∀ q : Nat, q < H.size → H1[q]? = H[q]?) → va_S A s.heap H1 locs1 → W p l e R s m args below meth c H1 locs1 cells slots Q (F0 m (pc + 3) ls (.int r :: rest))) : W p l e R s m args below meth c H locs cells slots Q (F0 m pc ls st) := by
  have hFc : ∀ q : Nat, H.size ≤ q → A q := fun q hq => hA q (Nat.le_trans hS.1 hq)
  refine va_calli (va_runS (As := As) (rest := rest) F hM cw ⟨fun a U g mk q => ⟨q.1, q.2.1, hXb a U g mk q.2.2⟩, fun U hU hW => ⟨rfl, congrArg Array.size hU, hX U hU hW⟩⟩ rfl hn hsize hst (lv_room hW) hdg hf) hS (fun q _ h => hFc q h) hFc (fun r_2 u t H1 locs ht hvm hw hB hz1 hk1 hS => ?_)
  have hw : r_2 = r := hw
  subst hw
  exact kk H1 locs (fun q hq => hk1 q hq (Nat.not_le.mpr hq)) hS
theorem klXl {y : MethodName} {ws : List Cond} {rm : Room} {bytes : ByteArray} {maxL index n : Nat} {ret : Option FieldType} {As st : List Value} {r : Int64} {X : State → Prop} (F : CallFix p m c cc nL s args Ts own) (hM : cXl l y ws rm H.size As X r) (hXb : ∀ (a : Array Value) (U : State) (g : JFrame) (mk : MethodId), X U → X (U.calling g mk a)) (hX : ∀ U : State, U.heap = H → s.WarmedH U.vm → X U) (cw : CallB R s args own index y bytes maxL ret ws rm 0 0 n ∧ (Cond.static y).before args s = true) (hn : As.length = n) (hsize : ls.size = nL) (hst : st = As.reverse ++ rest) (hW : (rest.map fun v => v.category).sum ≤ 8) (hdg : decode cc pc = .ok (.invokestatic index, 3)) (hf : cells + 0 ≤ R.cells ∧ slots + 0 ≤ R.slots) (hS : va_S A s.heap H locs) (hA : ∀ q : Nat, s.heap.size ≤ q → A q)
    (kk : ∀ (H1 : Heap) (locs1 : List Loc), (∀ q : Nat, q < H.size → H1[q]? = H[q]?) → va_S A s.heap H1 locs1 → W p l e R s m args below meth c H1 locs1 cells slots Q (F0 m (pc + 3) ls (.long r :: rest))) : W p l e R s m args below meth c H locs cells slots Q (F0 m pc ls st) := by
  have hFc : ∀ q : Nat, H.size ≤ q → A q := fun q hq => hA q (Nat.le_trans hS.1 hq)
  refine va_calll (va_runS (As := As) (rest := rest) F hM cw ⟨fun a U g mk q => ⟨q.1, q.2.1, hXb a U g mk q.2.2⟩, fun U hU hW => ⟨rfl, congrArg Array.size hU, hX U hU hW⟩⟩ rfl hn hsize hst (lv_room hW) hdg hf) hS (fun q _ h => hFc q h) hFc (fun r_2 u t H1 locs ht hvm hw hB hz1 hk1 hS => ?_)
  have hw : r_2 = r := hw
  subst hw
  exact kk H1 locs (fun q hq => hk1 q hq (Nat.not_le.mpr hq)) hS
theorem klXNi {y : MethodName} {ws : List Cond} {rm : Room} {bytes : ByteArray} {maxL index n : Nat} {host : String} {ret : Option FieldType} {As st : List Value} {r : Int32} {X : State → Prop} (F : CallFix p m c cc nL s args Ts own) (hM : cXi l y ws rm H.size As X r) (hXb : ∀ (a : Array Value) (U : State) (g : JFrame) (mk : MethodId), X U → X (U.calling g mk a)) (hX : ∀ U : State, U.heap = H → s.WarmedH U.vm → X U) (cw : va_CN R s args own index y host bytes maxL ret ws rm 0 0 n ∧ (Cond.static y).before args s = true ∧ True) (hn : As.length = n) (hsize : ls.size = nL) (hst : st = As.reverse ++ rest) (hW : (rest.map fun v => v.category).sum ≤ 8) (hdg : decode cc pc = .ok (.invokestatic index, 3)) (hf : cells + 0 ≤ R.cells ∧ slots + 0 ≤ R.slots) (hS : va_S A s.heap H locs) (hA : ∀ q : Nat, s.heap.size ≤ q → A q)
    (kk : ∀ (H1 : Heap) (locs1 : List Loc), (∀ q : Nat, q < H.size → H1[q]? = H[q]?) → va_S A s.heap H1 locs1 → W p l e R s m args below meth c H1 locs1 cells slots Q (F0 m (pc + 3) ls (.int r :: rest))) : W p l e R s m args below meth c H locs cells slots Q (F0 m pc ls st) := by
  have hFc : ∀ q : Nat, H.size ≤ q → A q := fun q hq => hA q (Nat.le_trans hS.1 hq)
  refine va_calli (va_runSN (As := As) (rest := rest) F hM cw ⟨fun a U g mk q => ⟨q.1, q.2.1, hXb a U g mk q.2.2⟩, fun U hU hW => ⟨rfl, congrArg Array.size hU, hX U hU hW⟩⟩ rfl hn hsize hst (lv_room hW) hdg hf) hS (fun q _ h => hFc q h) hFc (fun r_2 u t H1 locs ht hvm hw hB hz1 hk1 hS => ?_)
  have hw : r_2 = r := hw
  subst hw
  exact kk H1 locs (fun q hq => hk1 q hq (Nat.not_le.mpr hq)) hS
theorem klXNl {y : MethodName} {ws : List Cond} {rm : Room} {bytes : ByteArray} {maxL index n : Nat} {host : String} {ret : Option FieldType} {As st : List Value} {r : Int64} {X : State → Prop} (F : CallFix p m c cc nL s args Ts own) (hM : cXl l y ws rm H.size As X r) (hXb : ∀ (a : Array Value) (U : State) (g : JFrame) (mk : MethodId), X U → X (U.calling g mk a)) (hX : ∀ U : State, U.heap = H → s.WarmedH U.vm → X U) (cw : va_CN R s args own index y host bytes maxL ret ws rm 0 0 n ∧ (Cond.static y).before args s = true ∧ True) (hn : As.length = n) (hsize : ls.size = nL) (hst : st = As.reverse ++ rest) (hW : (rest.map fun v => v.category).sum ≤ 8) (hdg : decode cc pc = .ok (.invokestatic index, 3)) (hf : cells + 0 ≤ R.cells ∧ slots + 0 ≤ R.slots) (hS : va_S A s.heap H locs) (hA : ∀ q : Nat, s.heap.size ≤ q → A q)
    (kk : ∀ (H1 : Heap) (locs1 : List Loc), (∀ q : Nat, q < H.size → H1[q]? = H[q]?) → va_S A s.heap H1 locs1 → W p l e R s m args below meth c H1 locs1 cells slots Q (F0 m (pc + 3) ls (.long r :: rest))) : W p l e R s m args below meth c H locs cells slots Q (F0 m pc ls st) := by
  have hFc : ∀ q : Nat, H.size ≤ q → A q := fun q hq => hA q (Nat.le_trans hS.1 hq)
  refine va_calll (va_runSN (As := As) (rest := rest) F hM cw ⟨fun a U g mk q => ⟨q.1, q.2.1, hXb a U g mk q.2.2⟩, fun U hU hW => ⟨rfl, congrArg Array.size hU, hX U hU hW⟩⟩ rfl hn hsize hst (lv_room hW) hdg hf) hS (fun q _ h => hFc q h) hFc (fun r_2 u t H1 locs ht hvm hw hB hz1 hk1 hS => ?_)
  have hw : r_2 = r := hw
  subst hw
  exact kk H1 locs (fun q hq => hk1 q hq (Nat.not_le.mpr hq)) hS
theorem klXVi {y : MethodName} {ws : List Cond} {rm : Room} {bytes : ByteArray} {maxL index n b : Nat} {C : String} {ret : Option FieldType} {As st : List Value} {r : Int32} {X : State → Prop} (F : CallFix p m c cc nL s args Ts own) (hM : cXi l y ws rm H.size (.ref b :: As) X r) (hXb : ∀ (a : Array Value) (U : State) (g : JFrame) (mk : MethodId), X U → X (U.calling g mk a)) (hX : ∀ U : State, U.heap = H → s.WarmedH U.vm → X U) (cw : CallW R s args own C index y bytes maxL ret ws rm 0 0 n) (hrv : ∃ cell : Cell, H[b]? = some cell ∧ cell.vm.isStatics = false ∧ s.vm.findClass C = some cell.cls) (hn : As.length = n) (hsize : ls.size = nL) (hst : st = As.reverse ++ .ref b :: rest) (hW : (rest.map fun v => v.category).sum ≤ 8) (hdg : decode cc pc = .ok (.invokevirtual index, 3)) (hf : cells + 0 ≤ R.cells ∧ slots + 0 ≤ R.slots) (hS : va_S A s.heap H locs) (hA : ∀ q : Nat, s.heap.size ≤ q → A q)
    (kk : ∀ (H1 : Heap) (locs1 : List Loc), (∀ q : Nat, q < H.size → H1[q]? = H[q]?) → va_S A s.heap H1 locs1 → W p l e R s m args below meth c H1 locs1 cells slots Q (F0 m (pc + 3) ls (.int r :: rest))) : W p l e R s m args below meth c H locs cells slots Q (F0 m pc ls st) := by
  have hFc : ∀ q : Nat, H.size ≤ q → A q := fun q hq => hA q (Nat.le_trans hS.1 hq)
  refine va_calli (va_runV (As := As) (rest := rest) F hM cw ⟨fun a U g mk q => ⟨q.1, q.2.1, hXb a U g mk q.2.2⟩, hrv, fun U hU hW => ⟨rfl, congrArg Array.size hU, hX U hU hW⟩⟩ rfl hn hsize hst (lv_room hW) hdg hf) hS (fun q _ h => hFc q h) hFc (fun r_2 u t H1 locs ht hvm hw hB hz1 hk1 hS => ?_)
  have hw : r_2 = r := hw
  subst hw
  exact kk H1 locs (fun q hq => hk1 q hq (Nat.not_le.mpr hq)) hS
theorem klXUi {x y : MethodName} {ws : List Cond} {rm : Room} {bytes : ByteArray} {maxL index n b : Nat} {C owner : String} {ret : Option FieldType} {As st : List Value} {r : Int32} {X : State → Prop} (F : CallFix p m c cc nL s args Ts own) (hM : cXi l y ws rm H.size (.ref b :: As) X r) (hXb : ∀ (a : Array Value) (U : State) (g : JFrame) (mk : MethodId), X U → X (U.calling g mk a)) (hX : ∀ U : State, U.heap = H → s.WarmedH U.vm → X U) (cw : va_CU R s args own C owner index x y bytes maxL ret ws rm 0 0 n) (hrv : ∃ cell : Cell, H[b]? = some cell ∧ cell.vm.isStatics = false ∧ s.vm.findClass C = some cell.cls) (hn : As.length = n) (hsize : ls.size = nL) (hst : st = As.reverse ++ .ref b :: rest) (hW : (rest.map fun v => v.category).sum ≤ 8) (hdg : decode cc pc = .ok (.invokevirtual index, 3)) (hf : cells + 0 ≤ R.cells ∧ slots + 0 ≤ R.slots) (hS : va_S A s.heap H locs) (hA : ∀ q : Nat, s.heap.size ≤ q → A q)
    (kk : ∀ (H1 : Heap) (locs1 : List Loc), (∀ q : Nat, q < H.size → H1[q]? = H[q]?) → va_S A s.heap H1 locs1 → W p l e R s m args below meth c H1 locs1 cells slots Q (F0 m (pc + 3) ls (.int r :: rest))) : W p l e R s m args below meth c H locs cells slots Q (F0 m pc ls st) := by
  have hFc : ∀ q : Nat, H.size ≤ q → A q := fun q hq => hA q (Nat.le_trans hS.1 hq)
  refine va_calli (va_runU (As := As) (rest := rest) F hM cw ⟨fun a U g mk q => ⟨q.1, q.2.1, hXb a U g mk q.2.2⟩, hrv, fun U hU hW => ⟨rfl, congrArg Array.size hU, hX U hU hW⟩⟩ rfl hn hsize hst (lv_room hW) hdg hf) hS (fun q _ h => hFc q h) hFc (fun r_2 u t H1 locs ht hvm hw hB hz1 hk1 hS => ?_)
  have hw : r_2 = r := hw
  subst hw
  exact kk H1 locs (fun q hq => hk1 q hq (Nat.not_le.mpr hq)) hS
theorem kR {o : Option Nat} {a : Nat} (h : o = some a) (k : W p l e R s m args below meth c H locs cells slots Q (F0 m pc ls (.ref a :: rest))) : W p l e R s m args below meth c H locs cells slots Q (F0 m pc ls (va_rf o :: rest)) := by
  subst h
  exact k
end KC
def rdJ (n : Nat) (f : Nat → Int64) (i : Int32) : Option Int64 := if i < 0 ∨ n ≤ i.toNatClampNeg then none else some (f i.toNatClampNeg)
theorem rdJ_b {β : Type} {n : Nat} {f : Nat → Int64} {i : Int32} {k : Int64 → Option β} {r : β} (h : (rdJ n f i).bind k = some r) : ∃ x, vp_in i n ∧ x = f i.toNatClampNeg ∧ k x = some r := by
  unfold rdJ at h
  by_cases hc : i < 0 ∨ n ≤ i.toNatClampNeg
  · rw [if_pos hc] at h
    cases h
  · rw [if_neg hc] at h
    exact ⟨_, hc, rfl, h⟩
def rdP (f : Nat → PD) (i : Int32) : Option PD := if i < 0 ∨ 6 ≤ i.toNatClampNeg then none else some (f i.toNatClampNeg)
theorem rdP_b {β : Type} {f : Nat → PD} {i : Int32} {k : PD → Option β} {r : β} (h : (rdP f i).bind k = some r) : ∃ x, vp_in i 6 ∧ x = f i.toNatClampNeg ∧ k x = some r := by
  unfold rdP at h
  by_cases hc : i < 0 ∨ 6 ≤ i.toNatClampNeg
  · rw [if_pos hc] at h
    cases h
  · rw [if_neg hc] at h
    exact ⟨_, hc, rfl, h⟩
def wrI (S : CS) (k n : Nat) (i x : Int32) : Option CS := if i < 0 ∨ n ≤ i.toNatClampNeg then none else some (siI S k (upd (S.1 k) i.toNatClampNeg x))
theorem wrI_b {β : Type} {S : CS} {k n : Nat} {i x : Int32} {g : CS → Option β} {r : β} (h : (wrI S k n i x).bind g = some r) : ∃ S1, vp_in i n ∧ S1 = siI S k (upd (S.1 k) i.toNatClampNeg x) ∧ g S1 = some r := by
  unfold wrI at h
  by_cases hc : i < 0 ∨ n ≤ i.toNatClampNeg
  · rw [if_pos hc] at h
    cases h
  · rw [if_neg hc] at h
    exact ⟨_, hc, rfl, h⟩
def wrJ (S : CS) (k n : Nat) (i : Int32) (x : Int64) : Option CS := if i < 0 ∨ n ≤ i.toNatClampNeg then none else some (siJ S k (vp_updL (S.2.1 k) i.toNatClampNeg x))
theorem wrJ_b {β : Type} {S : CS} {k n : Nat} {i : Int32} {x : Int64} {g : CS → Option β} {r : β} (h : (wrJ S k n i x).bind g = some r) : ∃ S1, vp_in i n ∧ S1 = siJ S k (vp_updL (S.2.1 k) i.toNatClampNeg x) ∧ g S1 = some r := by
  unfold wrJ at h
  by_cases hc : i < 0 ∨ n ≤ i.toNatClampNeg
  · rw [if_pos hc] at h
    cases h
  · rw [if_neg hc] at h
    exact ⟨_, hc, rfl, h⟩
def wrP (S : CS) (k : Nat) (i : Int32) (x : PD) : Option CS := if i < 0 ∨ 6 ≤ i.toNatClampNeg then none else some (siP S k (va_up (S.2.2 k) i.toNatClampNeg x))
theorem wrP_b {β : Type} {S : CS} {k : Nat} {i : Int32} {x : PD} {g : CS → Option β} {r : β} (h : (wrP S k i x).bind g = some r) : ∃ S1, vp_in i 6 ∧ S1 = siP S k (va_up (S.2.2 k) i.toNatClampNeg x) ∧ g S1 = some r := by
  unfold wrP at h
  by_cases hc : i < 0 ∨ 6 ≤ i.toNatClampNeg
  · rw [if_pos hc] at h
    cases h
  · rw [if_neg hc] at h
    exact ⟨_, hc, rfl, h⟩
theorem in_lt {i : Int32} {n : Nat} (h : vp_in i n) : i.toNatClampNeg < n := Nat.not_le.mp fun q => h (Or.inr q)
theorem rlC.set {g : Nat → Nat → Option Nat} {LP : List Nat} {pf : Nat → va_E} {S : CS} (h : rlC g LP pf S) {c i a : Nat} {d : PD} (ha : a ∈ LP) (hd : pf a = pdE d) : rlC (va_up g c (va_up (g c) i (some a))) LP pf (siP S c (va_up (S.2.2 c) i d)) := by
  intro c' hc' j hj
  show ∃ b, va_up g c (va_up (g c) i (some a)) c' j = some b ∧ b ∈ LP ∧ pf b = pdE (va_up S.2.2 c (va_up (S.2.2 c) i d) c' j)
  by_cases h1 : c' = c
  · subst h1
    rw [va_up_self, va_up_self]
    by_cases h2 : j = i
    · subst h2
      rw [va_up_self, va_up_self]
      exact ⟨a, rfl, ha, hd⟩
    · rw [va_up_ne _ _ h2, va_up_ne _ _ h2]
      exact h c' hc' j hj
  · rw [va_up_ne _ _ h1, va_up_ne _ _ h1]
    exact h c' hc' j hj
theorem ne_lit {x y : Int32} (h : ¬ x = y) : x.toInt ≠ y.toInt := fun q => h (Int32.toInt_inj.mp q)
theorem cls_cases (k : Int32) : (k = 1 ∧ clsOf k = 4) ∨ (¬ k = 1 ∧ k = 2 ∧ clsOf k = 3) ∨ (¬ k = 1 ∧ ¬ k = 2 ∧ k = 3 ∧ clsOf k = 9) ∨ (¬ k = 1 ∧ ¬ k = 2 ∧ ¬ k = 3 ∧ k = 4 ∧ clsOf k = 0) ∨ (¬ k = 1 ∧ ¬ k = 2 ∧ ¬ k = 3 ∧ ¬ k = 4 ∧ k = 5 ∧ clsOf k = 2) ∨ (¬ k = 1 ∧ ¬ k = 2 ∧ ¬ k = 3 ∧ ¬ k = 4 ∧ ¬ k = 5 ∧ clsOf k = 6) := by
  unfold clsOf
  by_cases h1 : k = 1
  · exact Or.inl ⟨h1, if_pos h1⟩
  · rw [if_neg h1]
    by_cases h2 : k = 2
    · exact Or.inr (Or.inl ⟨h1, h2, if_pos h2⟩)
    · rw [if_neg h2]
      by_cases h3 : k = 3
      · exact Or.inr (Or.inr (Or.inl ⟨h1, h2, h3, if_pos h3⟩))
      · rw [if_neg h3]
        by_cases h4 : k = 4
        · exact Or.inr (Or.inr (Or.inr (Or.inl ⟨h1, h2, h3, h4, if_pos h4⟩)))
        · rw [if_neg h4]
          by_cases h5 : k = 5
          · exact Or.inr (Or.inr (Or.inr (Or.inr (Or.inl ⟨h1, h2, h3, h4, h5, if_pos h5⟩))))
          · exact Or.inr (Or.inr (Or.inr (Or.inr (Or.inr ⟨h1, h2, h3, h4, h5, if_neg h5⟩))))
section KP
variable {p : Program} {l : Launch} {e : Env} {R : Room} {s : State} {m : MethodId} {args : Array Value} {below : List Frame} {meth : Method} {c : Code} {H : Heap} {locs : List Loc} {cells slots : Nat} {Q : State → Prop} {pc : Nat} {ls : Array Slot} {rest : List Value} {dC : Nat → ClassId} {dI : Nat → Nat → Nat} {t : Nat → ClassId} {A : Nat → Prop} {cc : ByteArray} {Ts : List Cond} {own : String} {ws : va_W} {a k : Nat} {d : PD}
/-- a field of a porter, of whatever kind -/
theorem gePd (hx : p.tables.exec = Jvm.exec) (hb : c.code = cc) (hts : ∀ w ∈ Ts, w.before args s = true) (h0 : ∀ w ∈ wsX00, w ∈ Ts) (h2 : ∀ w ∈ wsX20, w ∈ Ts) (h3 : ∀ w ∈ wsX30, w ∈ Ts) (h4 : ∀ w ∈ wsX40, w ∈ Ts) (h6 : ∀ w ∈ wsX60, w ∈ Ts) (h9 : ∀ w ∈ wsX90, w ∈ Ts) (hown : s.vm.findClass own = some m.cls) {tys : List (ClassId × FieldType)} (hK : va_K (dC, dI) vwCl tys s) (hP : va_P (dC, dI) vwCl ws H) (hk : ws[k]? = some (a, pdE d)) (f : Nat) (hf : f < 4) {index : Nat} (hlink : (Cond.fieldLink own index (TX6 f).1 (TX6 f).2.1 (TX6 f).2.2.1) ∈ Ts) {v : Value} (hv : (pdV d)[f]? = some v) (hdg : decode cc pc = .ok (.getfield index, 3))
    (kk : W p l e R s m args below meth c H locs cells slots Q (F0 m (pc + 3) ls (v :: rest))) : W p l e R s m args below meth c H locs cells slots Q (F0 m pc ls (.ref a :: rest)) := by
  unfold pdE at hk
  have e0 : TX0 f = TX6 f := by rcases (show f = 0 ∨ f = 1 ∨ f = 2 ∨ f = 3 by omega) with rfl | rfl | rfl | rfl <;> rfl
  have e2 : TX2 f = TX6 f := by rcases (show f = 0 ∨ f = 1 ∨ f = 2 ∨ f = 3 by omega) with rfl | rfl | rfl | rfl <;> rfl
  have e3 : TX3 f = TX6 f := by rcases (show f = 0 ∨ f = 1 ∨ f = 2 ∨ f = 3 by omega) with rfl | rfl | rfl | rfl <;> rfl
  have e4 : TX4 f = TX6 f := by rcases (show f = 0 ∨ f = 1 ∨ f = 2 ∨ f = 3 by omega) with rfl | rfl | rfl | rfl <;> rfl
  have e9 : TX9 f = TX6 f := by rcases (show f = 0 ∨ f = 1 ∨ f = 2 ∨ f = 3 by omega) with rfl | rfl | rfl | rfl <;> rfl
  rcases cls_cases d.2.2.2 with q | q | q | q | q | q
  · rw [q.2] at hk
    exact va_get (D := (dC, dI)) (ci := 4) (v := v) (C := RX4) (T := TX4) (N := 4) hx hb hts h4 hown hK hP k hk rfl f hf (by rw [e4]; exact hts _ hlink) (fun _ h9 => h9) hv hdg kk
  · rw [q.2.2] at hk
    exact va_get (D := (dC, dI)) (ci := 3) (v := v) (C := RX3) (T := TX3) (N := 4) hx hb hts h3 hown hK hP k hk rfl f hf (by rw [e3]; exact hts _ hlink) (fun _ h9 => h9) hv hdg kk
  · rw [q.2.2.2] at hk
    exact va_get (D := (dC, dI)) (ci := 9) (v := v) (C := RX9) (T := TX9) (N := 4) hx hb hts h9 hown hK hP k hk rfl f hf (by rw [e9]; exact hts _ hlink) (fun _ h9 => h9) hv hdg kk
  · rw [q.2.2.2.2] at hk
    exact va_get (D := (dC, dI)) (ci := 0) (v := v) (C := RX0) (T := TX0) (N := 4) hx hb hts h0 hown hK hP k hk rfl f hf (by rw [e0]; exact hts _ hlink) (fun _ h9 => h9) hv hdg kk
  · rw [q.2.2.2.2.2] at hk
    exact va_get (D := (dC, dI)) (ci := 2) (v := v) (C := RX2) (T := TX2) (N := 4) hx hb hts h2 hown hK hP k hk rfl f hf (by rw [e2]; exact hts _ hlink) (fun _ h9 => h9) hv hdg kk
  · rw [q.2.2.2.2.2] at hk
    exact va_get (D := (dC, dI)) (ci := 6) (v := v) (C := RX6) (T := TX6) (N := 4) hx hb hts h6 hown hK hP k hk rfl f hf (hts _ hlink) (fun _ h9 => h9) hv hdg kk
/-- a porter, of whatever kind, into a row of porters -/
theorem asPd (hx : p.tables.exec = Jvm.exec) (hb : c.code = cc) (hN : nwC s) {tys : List (ClassId × FieldType)} (hK : va_K (dC, dI) vwCl tys s) (hP : va_P (dC, dI) vwCl ws H) (hD : va_D A ws) {H0 : Heap} (hS : va_S A H0 H locs) (q0 t0 : Nat) {b n : Nat} {cA : ClassId} {f : Nat → Option Nat} (ha : ws[q0]? = some (b, .inl (cA, n, .inr (.inr (.inr (.inr f)))))) (ht : tys[t0]? = some (cA, .object "OnlyTwo$Plain")) (hk : ws[k]? = some (a, pdE d)) {i : Int32} (hin : vp_in i n) (hdg : decode cc pc = .ok (.aastore, 1))
    (kk : ∀ (H1 : Heap) (locs1 : List Loc), va_P (dC, dI) vwCl (ws.set q0 (b, .inl (cA, n, .inr (.inr (.inr (.inr (va_up f i.toNatClampNeg (some a)))))))) H1 → va_D A (ws.set q0 (b, .inl (cA, n, .inr (.inr (.inr (.inr (va_up f i.toNatClampNeg (some a)))))))) → va_S A H0 H1 locs1 → W p l e R s m args below meth c H1 locs1 cells slots Q (F0 m (pc + 1) ls rest)) : W p l e R s m args below meth c H locs cells slots Q (F0 m pc ls (.ref a :: .int i :: .ref b :: rest)) := by
  unfold pdE at hk
  rcases cls_cases d.2.2.2 with q | q | q | q | q | q
  · rw [q.2] at hk
    exact va_astqO hx hb hK hP hD hS q0 t0 k 4 ha ht (hN.2.2 "OnlyTwo$Lame" (by decide)) hk rfl hin hdg kk
  · rw [q.2.2] at hk
    exact va_astqO hx hb hK hP hD hS q0 t0 k 3 ha ht (hN.2.2 "OnlyTwo$Heavy" (by decide)) hk rfl hin hdg kk
  · rw [q.2.2.2] at hk
    exact va_astqO hx hb hK hP hD hS q0 t0 k 9 ha ht (hN.2.2 "OnlyTwo$Tied" (by decide)) hk rfl hin hdg kk
  · rw [q.2.2.2.2] at hk
    exact va_astqO hx hb hK hP hD hS q0 t0 k 0 ha ht (hN.2.2 "OnlyTwo$Afraid" (by decide)) hk rfl hin hdg kk
  · rw [q.2.2.2.2.2] at hk
    exact va_astqO hx hb hK hP hD hS q0 t0 k 2 ha ht (hN.2.2 "OnlyTwo$Guide" (by decide)) hk rfl hin hdg kk
  · rw [q.2.2.2.2.2] at hk
    exact va_astq (r := (RX6, TX6, 4)) hx hb hK hP hD hS q0 t0 k 6 ha ht hk rfl hin hdg kk
end KP
