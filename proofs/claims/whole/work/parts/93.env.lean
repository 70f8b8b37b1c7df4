/-! the start: the two states belong together; what is given of statics, nest links and texts -/
theorem s0_5 : S0.1 5 = va_cpy (ssI 2) (fun _ => 0) 0 0 4 := by
  unfold S0
  dsimp only
  exact if_pos (Or.inl rfl)
theorem rel0 : Rel S0 M0 := by
  refine ⟨D0r, ⟨⟨Nat.zero_le _, fun p hp => absurd hp (Nat.not_lt_zero p), fun i hi => (q_D0 i hi).2⟩, Nat.zero_le _, fun g hg => absurd hg (Nat.not_lt_zero g), Nat.zero_le _, Nat.zero_le _, fun g hg => absurd hg (Nat.not_lt_zero g)⟩, ?_, ?_, ⟨Or.inl ⟨rfl, rfl⟩, Or.inl ⟨rfl, rfl⟩⟩, ⟨rfl, rfl, rfl⟩, Or.inl rfl, Or.inl rfl⟩
  · exact ⟨⟨rfl, fun p hp => absurd hp (Nat.not_lt_zero p), fun i hi => (congrFun s0_5 i).trans ((cpy_at hi).trans (q_D0 i hi).1)⟩, rfl, fun g hg => absurd hg (Nat.not_lt_zero g), rfl, fun g hg => absurd hg (Nat.not_lt_zero g), rfl, fun g hg => absurd hg (Nat.not_lt_zero g)⟩
  · refine ⟨⟨rfl, fun p hp => absurd hp (Nat.not_lt_zero p), fun i hi => ?_⟩, rfl, fun g hg => absurd hg (Nat.not_lt_zero g), rfl, fun g hg => absurd hg (Nat.not_lt_zero g), rfl, fun g hg => absurd hg (Nat.not_lt_zero g)⟩
    rcases (show i = 0 ∨ i = 1 ∨ i = 2 ∨ i = 3 from by omega) with rfl | rfl | rfl | rfl <;> rfl
theorem lw_stI {s : State} {args : Array Value} {A : Nat → Prop} (hA : ∀ a : Nat, a < s.heap.size → ¬ A a) {i N : Nat} {nm : String} (hN : N < 2 ^ 31) (hl : (Cond.laysStatic "OnlyTwo" nm "[I").before args s = true) (hini : (Cond.initialized "OnlyTwo").before args s = true) (har : (Cond.arrayOf (.static "OnlyTwo" nm "[I") .int).before args s = true) (hle : (Cond.eq (.length (.static "OnlyTwo" nm "[I")) (.int (Int32.ofNat N))).before args s = true) (hel : ∀ j : Nat, j < N → (Cond.eq (.elem (.static "OnlyTwo" nm "[I") (.int (Int32.ofNat j))) (.int (ssI i j))).before args s = true) : ∃ t : Nat, va_Z "OnlyTwo" nm "[I" (.ref t) A s s.heap ∧ va_T .int t N (fun j => .int (ssI i j)) A s s.heap := by
  obtain ⟨t, ht, hT⟩ := va_Tof (f := fun j => .int (ssI i j)) (A := A) hN har (va_eqt hle) (fun j hj => va_eqt (hel j hj)) hA
  exact ⟨t, va_Zref hl hini ht hA, hT⟩
theorem lw_stJ {s : State} {args : Array Value} {A : Nat → Prop} (hA : ∀ a : Nat, a < s.heap.size → ¬ A a) {N : Nat} {nm : String} (hN : N < 2 ^ 31) (hl : (Cond.laysStatic "OnlyTwo" nm "[J").before args s = true) (hini : (Cond.initialized "OnlyTwo").before args s = true) (har : (Cond.arrayOf (.static "OnlyTwo" nm "[J") .long).before args s = true) (hle : (Cond.eq (.length (.static "OnlyTwo" nm "[J")) (.int (Int32.ofNat N))).before args s = true) (hel : ∀ j : Nat, j < N → (Cond.eq (.elem (.static "OnlyTwo" nm "[J") (.int (Int32.ofNat j))) (.long (wiJ j))).before args s = true) : ∃ t : Nat, va_Z "OnlyTwo" nm "[J" (.ref t) A s s.heap ∧ va_T .long t N (fun j => .long (wiJ j)) A s s.heap := by
  obtain ⟨t, ht, hT⟩ := va_Tof (f := fun j => .long (wiJ j)) (A := A) hN har (va_eqt hle) (fun j hj => va_eqtl (hel j hj)) hA
  exact ⟨t, va_Zref hl hini ht hA, hT⟩
set_option maxRecDepth 100000 in
theorem lw_nwM : ∀ q ∈ nwM, Cond.methodLinkNest q.1 q.2.1 q.2.2.1 q.2.2.2 ∈ lw_tbl := by decide +kernel
set_option maxRecDepth 100000 in
theorem lw_nwF : ∀ q ∈ nwF, Cond.fieldLinkNest q.1 q.2.1 q.2.2.1 q.2.2.2.1 q.2.2.2.2.1 q.2.2.2.2.2 ∈ lw_tbl := by decide +kernel
set_option maxRecDepth 100000 in
theorem lw_nwK : ∀ q ∈ nwK, Cond.castable q "OnlyTwo$Plain" ∈ lw_tbl := by decide +kernel
theorem lw_nwC {s : State} {args : Array Value} (hts : ∀ w ∈ lw_tbl, w.before args s = true) : nwC s := ⟨fun q hq => va_Nw.of rfl (hts _ (lw_nwM q hq)), fun q hq => va_Nw.of rfl (hts _ (lw_nwF q hq)), fun q hq => va_Nw.of rfl (hts _ (lw_nwK q hq))⟩
set_option maxRecDepth 100000 in
theorem lw_aoC {s : State} {args : Array Value} (hts : ∀ w ∈ lw_tbl, w.before args s = true) : aoC s := ⟨va_AO.of (hts (.arrayOver (.object "OnlyTwo$Camp")) (by decide +kernel)), va_AO.of (hts (.arrayOver (.object "OnlyTwo$Plain")) (by decide +kernel))⟩
set_option maxHeartbeats 4000000 in
set_option maxRecDepth 100000 in
theorem lw_txt {s : State} {args : Array Value} {A : Nat → Prop} (hA : ∀ a : Nat, a < s.heap.size → ¬ A a) (hts : ∀ w ∈ lw_tbl, w.before args s = true) (hgv : (Jvm.Cond.and given_1 narrow_1).before args s = true) : ∃ aK aV : Nat → Nat, vk_S 6 wLen wByt aK aV A s s.heap ∧ ∀ i, i < 6 → vk_R "OnlyTwo$Reader" (134 + 2 * i) (wTx i) (aK i) s := by
  have hs := flat_of_before _ hgv
  obtain ⟨aK, aV, h1, h2⟩ := vk_Sof (args := args) (s := s) (N := 6) (tm := fun i => Term.string "OnlyTwo$Reader" (134 + 2 * i)) (len := wLen) (byt := wByt) (A := A) (by decide +kernel) (fun i hi => hs _ (by revert i; decide +kernel)) (fun i hi => hs _ (by revert i; decide +kernel)) (fun i hi => hs _ (by revert i; decide +kernel)) (fun i hi => hs _ (by revert i; decide +kernel)) (fun i hi j hj => hs _ (by revert j; revert i; decide +kernel)) (fun i j hi hj hij => by
    rcases Nat.lt_or_gt_of_ne hij with h | h
    · refine Or.inl (hs _ ?_)
      clear hij
      revert j
      revert i
      decide +kernel
    · refine Or.inr (hs _ ?_)
      clear hij
      revert i
      revert j
      decide +kernel) hA
  exact ⟨aK, aV, h1, fun i hi => vk_R.of (hts _ (by revert i; decide +kernel)) (h2 i hi)⟩
set_option maxHeartbeats 4000000 in
set_option maxRecDepth 100000 in
theorem lw_env {s : State} {args : Array Value} {A : Nat → Prop} (hA : ∀ a : Nat, a < s.heap.size → ¬ A a) (hts : ∀ w ∈ lw_tbl, w.before args s = true) (hgv : (Jvm.Cond.and given_1 narrow_1).before args s = true) : ∃ ts aK aV : Nat → Nat, enC ts aK aV A s s.heap := by
  have hs := flat_of_before _ hgv
  have hi : (Cond.initialized "OnlyTwo").before args s = true := hts _ (by decide +kernel)
  obtain ⟨t0, y0⟩ := lw_stI (i := 0) (N := 21) (nm := "SMALL_SETS") hA (by decide) (hts _ (by decide +kernel)) hi (hs _ (by decide +kernel)) (hs _ (by decide +kernel)) (fun j hj => hs _ (by revert j; decide +kernel))
  obtain ⟨t1, y1⟩ := lw_stJ (N := 6) (nm := "WITHOUT") hA (by decide) (hts _ (by decide +kernel)) hi (hs _ (by decide +kernel)) (hs _ (by decide +kernel)) (fun j hj => hs _ (by revert j; decide +kernel))
  obtain ⟨t2, y2⟩ := lw_stI (i := 2) (N := 4) (nm := "AT_FIRST") hA (by decide) (hts _ (by decide +kernel)) hi (hs _ (by decide +kernel)) (hs _ (by decide +kernel)) (fun j hj => hs _ (by revert j; decide +kernel))
  obtain ⟨t3, y3⟩ := lw_stI (i := 3) (N := 4) (nm := "HIGHEST_NUMBER") hA (by decide) (hts _ (by decide +kernel)) hi (hs _ (by decide +kernel)) (hs _ (by decide +kernel)) (fun j hj => hs _ (by revert j; decide +kernel))
  obtain ⟨t4, y4⟩ := lw_stI (i := 4) (N := 4) (nm := "LOWEST_OF_PORTER") hA (by decide) (hts _ (by decide +kernel)) hi (hs _ (by decide +kernel)) (hs _ (by decide +kernel)) (fun j hj => hs _ (by revert j; decide +kernel))
  obtain ⟨t5, y5⟩ := lw_stI (i := 5) (N := 4) (nm := "HIGHEST_OF_PORTER") hA (by decide) (hts _ (by decide +kernel)) hi (hs _ (by decide +kernel)) (hs _ (by decide +kernel)) (fun j hj => hs _ (by revert j; decide +kernel))
  have z6 : va_Z "java/lang/String" "COMPACT_STRINGS" "Z" (.int 1) A s s.heap := va_Zof (hts _ (by decide +kernel)) (hts _ (by decide +kernel)) (va_eqt (hs (.eq (.static "java/lang/String" "COMPACT_STRINGS" "Z") (.int 1)) (by decide +kernel))) hA
  have z7 : va_Zq "jdk/internal/util/Preconditions" "SIOOBE_FORMATTER" "Ljava/util/function/BiFunction;" A s s.heap := va_Zqof (hts _ (by decide +kernel)) (hts _ (by decide +kernel)) (hs _ (by decide +kernel)) hA
  obtain ⟨aK, aV, h8, h9⟩ := lw_txt hA hts hgv
  exact ⟨fun k => ([t0, t1, t2, t3, t4, t5] : List Nat).getD k 0, aK, aV, lw_nwC hts, y0, y1, y2, y3, y4, y5, z6, h8, h9, z7⟩
set_option maxHeartbeats 4000000 in
set_option maxRecDepth 100000 in
theorem lw_kn {s : State} {args : Array Value} (hts : ∀ w ∈ lw_tbl, w.before args s = true) : ∃ (dC : Nat → ClassId) (dI : Nat → Nat → Nat), ∀ (k : Nat) (q : vw_C), vwCl[k]? = some q → u_Kn s q.1 q.2.1 q.2.2 (dC k) (dI k) := by
  obtain ⟨c0, iS0, hKn0⟩ := u_known (C := RX0) (T := TX0) (N := 4) (n := 4) hts wsX00_tb (hts (.instantiable RX0 4) (by decide +kernel))
  obtain ⟨c1, iS1, hKn1⟩ := u_known (C := RX1) (T := TX1) (N := 10) (n := 10) hts wsX10_tb (hts (.instantiable RX1 10) (by decide +kernel))
  obtain ⟨c2, iS2, hKn2⟩ := u_known (C := RX2) (T := TX2) (N := 4) (n := 4) hts wsX20_tb (hts (.instantiable RX2 4) (by decide +kernel))
  obtain ⟨c3, iS3, hKn3⟩ := u_known (C := RX3) (T := TX3) (N := 4) (n := 4) hts wsX30_tb (hts (.instantiable RX3 4) (by decide +kernel))
  obtain ⟨c4, iS4, hKn4⟩ := u_known (C := RX4) (T := TX4) (N := 4) (n := 4) hts wsX40_tb (hts (.instantiable RX4 4) (by decide +kernel))
  obtain ⟨c5, iS5, hKn5⟩ := u_known (C := RX5) (T := TX5) (N := 9) (n := 9) hts wsX50_tb (hts (.instantiable RX5 9) (by decide +kernel))
  obtain ⟨c6, iS6, hKn6⟩ := u_known (C := RX6) (T := TX6) (N := 4) (n := 4) hts wsX60_tb (hts (.instantiable RX6 4) (by decide +kernel))
  obtain ⟨c7, iS7, hKn7⟩ := u_known (C := RX7) (T := TX7) (N := 12) (n := 12) hts wsX70_tb (hts (.instantiable RX7 12) (by decide +kernel))
  obtain ⟨c8, iS8, hKn8⟩ := u_known (C := RX8) (T := TX8) (N := 9) (n := 9) hts wsX80_tb (hts (.instantiable RX8 9) (by decide +kernel))
  obtain ⟨c9, iS9, hKn9⟩ := u_known (C := RX9) (T := TX9) (N := 4) (n := 4) hts wsX90_tb (hts (.instantiable RX9 4) (by decide +kernel))
  obtain ⟨c10, iS10, hKn10⟩ := u_known (C := RX10) (T := TX10) (N := 9) (n := 9) hts wsX100_tb (hts (.instantiable RX10 9) (by decide +kernel))
  obtain ⟨c11, iS11, hKn11⟩ := u_known (C := RX11) (T := TX11) (N := 25) (n := 25) hts wsX110_tb (hts (.instantiable RX11 25) (by decide +kernel))
  refine ⟨fun k => ([c0, c1, c2, c3, c4, c5, c6, c7, c8, c9, c10, c11] : List ClassId).getD k c0, fun k => ([iS0, iS1, iS2, iS3, iS4, iS5, iS6, iS7, iS8, iS9, iS10, iS11] : List (Nat → Nat)).getD k iS0, ?_⟩
  intro k q hq
  match k, hq with
  | 0, hq => cases hq; exact hKn0
  | 1, hq => cases hq; exact hKn1
  | 2, hq => cases hq; exact hKn2
  | 3, hq => cases hq; exact hKn3
  | 4, hq => cases hq; exact hKn4
  | 5, hq => cases hq; exact hKn5
  | 6, hq => cases hq; exact hKn6
  | 7, hq => cases hq; exact hKn7
  | 8, hq => cases hq; exact hKn8
  | 9, hq => cases hq; exact hKn9
  | 10, hq => cases hq; exact hKn10
  | 11, hq => cases hq; exact hKn11
  | k + 12, hq => simp [vwCl] at hq
