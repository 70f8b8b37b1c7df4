/-! THE CLAIM OUT OF ONE WALK OF THE LAW'S BODY. Your part is whole_start (and what it stands on); all else here is the same for every law, but numbers. -/
def R_law : String := "OnlyTwoLaw"
def lw_P (b : Addr) (xs : List Int32) (args : Array Value) (s : State) : Prop := args = #[.ref b] ∧ s.IntsAt b xs ∧ xs.length ≤ 2560 ∧ (Jvm.Cond.and given_1 narrow_1).before args s = true
def lw_Q (_ : Array Value) (s : State) (o : Outcome) (t : State) : Prop := o = .returned (some (.int 1)) ∧ Framed s o t [] 600000 7302250
def lw_Z (below : List Frame) (a : Array Value) (s : State) : State → Prop := fun t => ∃ o, t.status = .running ∧ Ended t below o ∧ lw_Q a s o t
/-- the law's own end, with 1 on the stack, nothing written that was there before, its room as the claim has it -/
theorem lw_ret {p : Program} {l : Launch} {e : Env} {s : State} {m : MethodId} {below : List Frame} {meth : Method} {c : Code} {b : Nat} (hx : p.tables.exec = Jvm.exec) (hb : c.code = code) (hr : meth.sig.returnType = ret) (hlocks : meth.locks = false) {pc : Nat} {H : Heap} {ls : Array Slot} (hdg : decode code pc = .ok (.ireturn, 1)) : W p l e room_1 s m #[Value.ref b] below meth c H [] 600000 7302250 (lw_Z below #[Value.ref b] s) (F0 m pc ls [.int 1]) := by
  intro T hT X
  obtain ⟨fs, hret, hrun, hended, hW, hframe⟩ := X.leave (v := some (.int 1)) (hlocks := hlocks) (fun h => by rw [hr] at h; cases h)
  have hmeth' : T.vm.method? m = some meth := X.method'
  refine ⟨T.setFrames fs, ?_, .returned (some (.int 1)), hrun, hended, rfl, ⟨_, rfl⟩, hW, hframe⟩
  jvm_step X.here [X.here.top, hx, hb, hdg, hmeth', hr, ret, narrow_b1]
  (try refine ⟨rfl, ?_⟩); (try refine ⟨rfl, ?_⟩)
  first | (intro acts; rw [hret _ acts rfl rfl rfl]) | rw [hret _ _ rfl rfl rfl]
  exact Steps.refl _
/-- what holds at the law's entry: the machine, the code, the tables' words (any of lw_tbl by 'hts w (by decide +kernel)'), the script of L ints xs at the cell b, what the Statement gives of the start (any of its parts by flat_of_before) -/
def lw_At (p : Program) (s : State) (m : MethodId) (meth : Method) (c : Code) (b L : Nat) (xs : Nat → Int32) : Prop :=
  p.tables.exec = Jvm.exec ∧ c.code = code ∧ meth.sig.returnType = ret ∧ c.maxLocals = 4 ∧ s.vm.findClass R_law = some m.cls ∧ (∀ w ∈ lw_tbl, w.before #[Value.ref b] s = true) ∧ va_X b L xs s s.heap ∧ b < s.heap.size ∧ meth.locks = false ∧ (Jvm.Cond.and given_1 narrow_1).before #[Value.ref b] s = true
theorem lw_gt {L i : Nat} (hL : L ≤ 2560) (hi : i ≤ 2560) (h : L < i + 5) : nI L - 5 < nI i := by
  by_cases h5 : 5 ≤ L
  · rw [show (5 : Int32) = nI 5 from rfl, q_sub h5]
    exact nI_lt (by omega) (by omega)
  · have h0 : nI L - 5 < nI 0 := by
      rcases (show L = 0 ∨ L = 1 ∨ L = 2 ∨ L = 3 ∨ L = 4 from by omega) with rfl | rfl | rfl | rfl | rfl <;> decide
    exact Int32.lt_of_lt_of_le h0 (nI_le (Nat.zero_le i) (by omega))
theorem lw_in {L i k : Nat} (hL : L ≤ 2560) (h : i + 5 ≤ L) (hk : k < 5) : vp_in (nI i + nI k) L := by
  rw [nI_add]
  exact vp_in_nI (by omega) (by omega)
set_option maxHeartbeats 4000000 in
set_option maxRecDepth 100000 in
theorem law_loop {p : Program} {l : Launch} {e : Env} {s : State} {m : MethodId} {below : List Frame} {meth : Method} {c : Code} {dC : Nat → ClassId} {dI : Nat → Nat → Nat} {t : Nat → ClassId} {tI tZ : ClassId} {ts aK aV : Nat → Nat} {h h' : Nat → Nat} {b L : Nat} {xs : Nat → Int32} (hL : L ≤ 2560) (C0 : lw_At p s m meth c b L xs) (hE : enC ts aK aV (fun q : Nat => s.heap.size ≤ q) s s.heap) (hK : va_K (dC, dI) vwCl (tyL t tI tZ) s) :
    ∀ (n i : Nat) (x3 : Int32), i ≤ L → L + 1 ≤ i + n → x3 = nI i → ∀ (S : CS) (M : MS), Rel S M → ∀ (H : Heap) (locs : List Loc) (cells slots : Nat), cells ≤ 65 + 201 * i → slots ≤ 49855 + 804 * i → lwC dC dI t tI tZ (fun q : Nat => s.heap.size ≤ q) h h' S M H → va_S (fun q : Nat => s.heap.size ≤ q) s.heap H locs → ∀ (ls : Array Slot), lv_has ls 4 [(0, .ref b), (1, .ref (h 0)), (2, .ref (h' 0)), (3, .int x3)] → W p l e room_1 s m #[Value.ref b] below meth c H locs cells slots (lw_Z below #[Value.ref b] s) (F0 m 18 ls []) := by
  obtain ⟨hx, hb, hr, hml, hown, hts, hX, hbl, hlocks, hgv⟩ := C0
  have F : CallFix p m c cL_law 4 s #[Value.ref b] wsL_law RL := ⟨hx, hb, hml, hown, fun w hw => hts w (wsL_law_in w hw)⟩
  have hA : ∀ q : Nat, s.heap.size ≤ q → (fun q : Nat => s.heap.size ≤ q) q := fun _ h => h
  have hbA : ¬ (fun q : Nat => s.heap.size ≤ q) b := Nat.not_le.mpr hbl
  intro n
  induction n with
  | zero =>
    intro i x3 h1 h2
    exact absurd h2 (by omega)
  | succ n ih =>
    intro i x3 hi hin ex3 S M hR H locs cells slots hce hsl hC hS ls hl
    refine lv_iload_n hx hb dL_law_18 rfl (lv_at hl 3 rfl) ?_
    refine lv_aload_n hx hb dL_law_19 rfl (lv_at hl 0 rfl) ?_
    refine va_slen hx hb hX hbl hbA hS dL_law_20 ?_
    refine lv_iconst (v := 5) hx hb dL_law_21 (by decide) ?_
    refine lv_isub hx hb dL_law_22 ?_
    refine lv_icmp_gt (tgt := 786) hx hb dL_law_23 (by decide) (fun c1 => ?_) (fun c1 => ?_)
    · refine lv_iconst (v := 1) hx hb dL_law_786 (by decide) ?_
      refine va_forget (fun q hq => hS.2.2 q hq) ?_
      refine W.widen (k := 600000) (n := 7302250) (by omega) (by omega) ?_
      exact lw_ret hx hb hr hlocks dL_law_787
    · have h5 : i + 5 ≤ L := by
        rcases Nat.lt_or_ge L (i + 5) with q | q
        · exact absurd (by rw [ex3]; exact lw_gt hL (by omega) q) c1
        · exact q
      have v0 : vp_in x3 L := by rw [ex3]; exact vp_in_nI (by omega) (by omega)
      have v1 : vp_in (x3 + 1) L := by rw [ex3]; exact lw_in (k := 1) hL h5 (by decide)
      have v2 : vp_in (x3 + 2) L := by rw [ex3]; exact lw_in (k := 2) hL h5 (by decide)
      have v3 : vp_in (x3 + 3) L := by rw [ex3]; exact lw_in (k := 3) hL h5 (by decide)
      have v4 : vp_in (x3 + 4) L := by rw [ex3]; exact lw_in (k := 4) hL h5 (by decide)
      have q1 : cells + 201 ≤ 600000 := by omega
      have q2 : slots + 804 ≤ 7302250 := by omega
      have kk : ∀ (H1 : Heap) (locs1 : List Loc) (S' : CS) (M' : MS) (c1 s1 : Nat), lwC dC dI t tI tZ (fun q : Nat => s.heap.size ≤ q) h h' S' M' H1 → va_S (fun q : Nat => s.heap.size ≤ q) s.heap H1 locs1 → Rel S' M' → c1 ≤ cells + 201 → s1 ≤ slots + 804 → W p l e room_1 s m #[Value.ref b] below meth c H1 locs1 c1 s1 (lw_Z below #[Value.ref b] s) (F0 m 780 ls []) := by
        intro H1 locs1 S' M' c1 s1 hC hS hR g1 g2
        obtain ⟨x4, ex4⟩ : ∃ y : Int32, y = x3 + 5 := ⟨_, rfl⟩
        refine lv_iinc (v := x4) (lv' := [(3, .int x4), (0, .ref b), (1, .ref (h 0)), (2, .ref (h' 0))]) hx hb dL_law_780 hl (k := 3) rfl (by rw [ex4]; rfl) (by decide) rfl (fun ls hl => ?_)
        refine lv_goto (tgt := 18) hx hb dL_law_783 (by decide) ?_
        exact ih (i + 5) x4 h5 (by omega) (by rw [ex4, ex3]; exact nI_add i 5) S' M' hR H1 locs1 c1 s1 (by omega) (by omega) hC hS ls (lv_sub hl [1, 2, 3, 0] rfl)
      refine lv_aload_n hx hb dL_law_26 rfl (lv_at hl 0 rfl) ?_
      refine lv_iload_n hx hb dL_law_27 rfl (lv_at hl 3 rfl) ?_
      refine va_sld hx hb hX hbl hbA hS v0 dL_law_28 ?_
      refine lv_bipush (v := 31) hx hb dL_law_29 rfl ?_
      refine lv_iand hx hb dL_law_31 ?_
      refine lv_topi (fun y ey => ?_)
      by_cases hlo : y.toInt < 0
      · exact lv_tableOut (tgt := 780) hx hb dL_law_32 (Or.inl hlo) (by decide) (kk H locs S M cells slots hC hS hR (Nat.le_add_right _ _) (Nat.le_add_right _ _))
      by_cases hhi : 22 < y.toInt
      · exact lv_tableOut (tgt := 780) hx hb dL_law_32 (Or.inr hhi) (by decide) (kk H locs S M cells slots hC hS hR (Nat.le_add_right _ _) (Nat.le_add_right _ _))
      rcases (show y.toInt = 0 ∨ y.toInt = 1 ∨ y.toInt = 2 ∨ y.toInt = 3 ∨ y.toInt = 4 ∨ y.toInt = 5 ∨ y.toInt = 6 ∨ y.toInt = 7 ∨ y.toInt = 8 ∨ y.toInt = 9 ∨ y.toInt = 10 ∨ y.toInt = 11 ∨ y.toInt = 12 ∨ y.toInt = 13 ∨ y.toInt = 14 ∨ y.toInt = 15 ∨ y.toInt = 16 ∨ y.toInt = 17 ∨ y.toInt = 18 ∨ y.toInt = 19 ∨ y.toInt = 20 ∨ y.toInt = 21 ∨ y.toInt = 22 from by omega) with hy | hy | hy | hy | hy | hy | hy | hy | hy | hy | hy | hy | hy | hy | hy | hy | hy | hy | hy | hy | hy | hy | hy
      · exact lv_tableIn (off := 108) (tgt := 140) hx hb dL_law_32 hlo hhi (by rw [hy]; rfl) (by decide) (lc_porter F hX hbl hbA hA hE hK v1 v2 v3 v4 q1 q2 hl hR hC hS kk)
      · exact lv_tableIn (off := 161) (tgt := 193) hx hb dL_law_32 hlo hhi (by rw [hy]; rfl) (by decide) (lc_put F hX hbl hbA hA hE hK v1 v2 v3 v4 q1 q2 hl hR hC hS kk)
      · exact lv_tableIn (off := 194) (tgt := 226) hx hb dL_law_32 hlo hhi (by rw [hy]; rfl) (by decide) (lc_of F hX hbl hbA hA hE hK v1 v2 v3 v4 q1 q2 hl hR hC hS kk)
      · exact lv_tableIn (off := 237) (tgt := 269) hx hb dL_law_32 hlo hhi (by rw [hy]; rfl) (by decide) (lc_why F hX hbl hbA hA hE hK v1 v2 v3 v4 q1 q2 hl hR hC hS kk)
      · exact lv_tableIn (off := 270) (tgt := 302) hx hb dL_law_32 hlo hhi (by rw [hy]; rfl) (by decide) (lc_type F hX hbl hbA hA hE hK v1 v2 v3 v4 q1 q2 hl hR hC hS kk)
      · exact lv_tableIn (off := 333) (tgt := 365) hx hb dL_law_32 hlo hhi (by rw [hy]; rfl) (by decide) (lc_clear F hX hbl hbA hA hE hK v1 v2 v3 v4 q1 q2 hl hR hC hS kk)
      · exact lv_tableIn (off := 346) (tgt := 378) hx hb dL_law_32 hlo hhi (by rw [hy]; rfl) (by decide) (lc_read F hX hbl hbA hA hE hK v1 v2 v3 v4 q1 q2 hl hR hC hS kk)
      · exact lv_tableIn (off := 359) (tgt := 391) hx hb dL_law_32 hlo hhi (by rw [hy]; rfl) (by decide) (lc_judged F hX hbl hbA hA hE hK v1 v2 v3 v4 q1 q2 hl hR hC hS kk)
      · exact lv_tableIn (off := 372) (tgt := 404) hx hb dL_law_32 hlo hhi (by rw [hy]; rfl) (by decide) (lc_there F hX hbl hbA hA hE hK v1 v2 v3 v4 q1 q2 hl hR hC hS kk)
      · exact lv_tableIn (off := 385) (tgt := 417) hx hb dL_law_32 hlo hhi (by rw [hy]; rfl) (by decide) (lc_least F hX hbl hbA hA hE hK v1 v2 v3 v4 q1 q2 hl hR hC hS kk)
      · exact lv_tableIn (off := 418) (tgt := 450) hx hb dL_law_32 hlo hhi (by rw [hy]; rfl) (by decide) (lc_row F hX hbl hbA hA hE hK v1 v2 v3 v4 q1 q2 hl hR hC hS kk)
      · exact lv_tableIn (off := 451) (tgt := 483) hx hb dL_law_32 hlo hhi (by rw [hy]; rfl) (by decide) (lc_worth F hX hbl hbA hA hE hK v1 v2 v3 v4 q1 q2 hl hR hC hS kk)
      · exact lv_tableIn (off := 484) (tgt := 516) hx hb dL_law_32 hlo hhi (by rw [hy]; rfl) (by decide) (lc_turns F hX hbl hbA hA hE hK v1 v2 v3 v4 q1 q2 hl hR hC hS kk)
      · exact lv_tableIn (off := 517) (tgt := 549) hx hb dL_law_32 hlo hhi (by rw [hy]; rfl) (by decide) (lc_load F hX hbl hbA hA hE hK v1 v2 v3 v4 q1 q2 hl hR hC hS kk)
      · exact lv_tableIn (off := 540) (tgt := 572) hx hb dL_law_32 hlo hhi (by rw [hy]; rfl) (by decide) (lc_unload F hX hbl hbA hA hE hK v1 v2 v3 v4 q1 q2 hl hR hC hS kk)
      · exact lv_tableIn (off := 553) (tgt := 585) hx hb dL_law_32 hlo hhi (by rw [hy]; rfl) (by decide) (lc_carries F hX hbl hbA hA hE hK v1 v2 v3 v4 q1 q2 hl hR hC hS kk)
      · exact lv_tableIn (off := 576) (tgt := 608) hx hb dL_law_32 hlo hhi (by rw [hy]; rfl) (by decide) (lc_fell F hX hbl hbA hA hE hK v1 v2 v3 v4 q1 q2 hl hR hC hS kk)
      · exact lv_tableIn (off := 619) (tgt := 651) hx hb dL_law_32 hlo hhi (by rw [hy]; rfl) (by decide) (lc_ropes F hX hbl hbA hA hE hK v1 v2 v3 v4 q1 q2 hl hR hC hS kk)
      · exact lv_tableIn (off := 642) (tgt := 674) hx hb dL_law_32 hlo hhi (by rw [hy]; rfl) (by decide) (lc_image F hX hbl hbA hA hE hK v1 v2 v3 v4 q1 q2 hl hR hC hS kk)
      · exact lv_tableIn (off := 665) (tgt := 697) hx hb dL_law_32 hlo hhi (by rw [hy]; rfl) (by decide) (lc_from F hX hbl hbA hA hE hK v1 v2 v3 v4 q1 q2 hl hR hC hS kk)
      · exact lv_tableIn (off := 688) (tgt := 720) hx hb dL_law_32 hlo hhi (by rw [hy]; rfl) (by decide) (lc_status F hX hbl hbA hA hE hK v1 v2 v3 v4 q1 q2 hl hR hC hS kk)
      · exact lv_tableIn (off := 711) (tgt := 743) hx hb dL_law_32 hlo hhi (by rw [hy]; rfl) (by decide) (lc_count F hX hbl hbA hA hE hK v1 v2 v3 v4 q1 q2 hl hR hC hS kk)
      · exact lv_tableIn (off := 734) (tgt := 766) hx hb dL_law_32 hlo hhi (by rw [hy]; rfl) (by decide) (lc_digest F hX hbl hbA hA hE hK v1 v2 v3 v4 q1 q2 hl hR hC hS kk)
