/-! sets of sets, as the bits of a long -/
def bt (x : Int64) (s : Nat) : Bool := x.toBitVec.getLsbD s
theorem bt_and (x y : Int64) (s : Nat) : bt (x &&& y) s = (bt x s && bt y s) := BitVec.getLsbD_and
theorem bt_or (x y : Int64) (s : Nat) : bt (x ||| y) s = (bt x s || bt y s) := BitVec.getLsbD_or
theorem bt_xor (x y : Int64) (s : Nat) : bt (x ^^^ y) s = (bt x s ^^ bt y s) := BitVec.getLsbD_xor
theorem bt_m1 : ∀ s, s < 64 → bt (-1) s = true := by decide +kernel
theorem bt_0 (s : Nat) : bt 0 s = false := BitVec.getLsbD_zero
theorem bt_1 : ∀ s, s < 64 → bt 1 s = decide (s = 0) := by decide +kernel
theorem bt_ext {x y : Int64} (h : ∀ s, s < 64 → bt x s = bt y s) : x = y := Int64.toBitVec_inj.mp (BitVec.eq_of_getLsbD_eq (fun i hi => h i hi))
theorem lg_eq0 {x y : Int64} : lg_cmp x y = 0 ↔ x = y := by
  unfold lg_cmp
  by_cases h1 : x > y
  · rw [if_pos h1]
    refine ⟨fun h => absurd h (by decide), fun h => ?_⟩
    subst h
    exact absurd h1 (Int64.lt_irrefl)
  · rw [if_neg h1]
    by_cases h2 : x = y
    · rw [if_pos h2]
      exact ⟨fun _ => h2, fun _ => rfl⟩
    · rw [if_neg h2]
      exact ⟨fun h => absurd h (by decide), fun h => absurd h h2⟩
theorem bt_sa : ∀ s, s < 64 → (((nI s).toInt64.toUInt64 &&& Int64.toUInt64 63).toBitVec % 64).toNat = s := by decide +kernel
theorem bt_one : ∀ s, s < 64 → s ≠ 0 → bt 1 s = false := by decide +kernel
theorem bt_ush {x : Int64} {k : UInt64} {n s : Nat} (hk : (k.toBitVec % 64).toNat = n) : bt ((x.toUInt64 >>> k).toInt64) s = bt x (n + s) := by
  show (x.toBitVec >>> (k.toBitVec % 64)).getLsbD s = x.toBitVec.getLsbD (n + s)
  rw [← hk]
  exact BitVec.getLsbD_ushiftRight _ _ _
/-- the test of one bit -/
theorem bt_tst {x : Int64} {s : Nat} (hs : s < 64) : (lg_cmp (((x.toUInt64 >>> ((nI s).toInt64.toUInt64 &&& Int64.toUInt64 63)).toInt64) &&& 1) 0 = 0) = (bt x s = false) := by
  rw [lg_eq0]
  refine propext ⟨fun h => ?_, fun h => bt_ext (fun j hj => ?_)⟩
  · have h1 : bt (((x.toUInt64 >>> ((nI s).toInt64.toUInt64 &&& Int64.toUInt64 63)).toInt64) &&& 1) 0 = false := by rw [h]; exact bt_0 0
    rw [bt_and, bt_ush (bt_sa s hs), bt_1 0 (by decide)] at h1
    simpa using h1
  · rw [bt_and, bt_ush (bt_sa s hs), bt_0]
    by_cases h0 : j = 0
    · subst h0
      rw [Nat.add_zero, h]
      rfl
    · rw [bt_one j hj h0, Bool.and_false]
theorem i_tst {α : Type} {x : Int64} {s : Nat} {u v : α} {inst : Decidable (lg_cmp (((x.toUInt64 >>> ((nI s).toInt64.toUInt64 &&& Int64.toUInt64 63)).toInt64) &&& 1) 0 = 0)} (hs : s < 64) : @ite α (lg_cmp (((x.toUInt64 >>> ((nI s).toInt64.toUInt64 &&& Int64.toUInt64 63)).toInt64) &&& 1) 0 = 0) inst u v = (if bt x s = false then u else v) := by
  have e := bt_tst (x := x) hs
  by_cases h : bt x s = false
  · rw [if_pos h, if_pos (by rw [e]; exact h)]
  · rw [if_neg h, if_neg (by rw [e]; exact h)]
theorem bt_any {x y : Int64} : (lg_cmp (x &&& y) 0 = 0) = ∀ s, s < 64 → ¬ (bt x s = true ∧ bt y s = true) := by
  rw [lg_eq0]
  refine propext ⟨fun h s hs ⟨h1, h2⟩ => ?_, fun h => bt_ext (fun j hj => ?_)⟩
  · have h3 : bt (x &&& y) s = false := by rw [h]; exact bt_0 s
    rw [bt_and, h1, h2] at h3
    cases h3
  · rw [bt_and, bt_0]
    have h1 := h j hj
    cases e1 : bt x j
    · rfl
    · cases e2 : bt y j
      · rfl
      · exact absurd ⟨e1, e2⟩ h1
theorem bt_w : ∀ p, p < 6 → ∀ s, s < 64 → bt (wiJ p) s = decide (bN s p = 0) := by decide +kernel
theorem bt_shl {y : Int64} {k : Int64} {n s : Nat} (hk : (k.toBitVec.smod 64).toNat = n) (hs : s < 64) : bt (y <<< k) s = (decide (n ≤ s) && bt y (s - n)) := by
  show (y.toBitVec <<< (k.toBitVec.smod 64)).getLsbD s = _
  rw [show y.toBitVec <<< (k.toBitVec.smod 64) = y.toBitVec <<< (k.toBitVec.smod 64).toNat from rfl, hk, BitVec.getLsbD_shiftLeft]
  by_cases h : n ≤ s
  · rw [decide_eq_true h, decide_eq_true hs, decide_eq_false (by omega : ¬ s < n)]
    rfl
  · rw [decide_eq_false h, decide_eq_true (by omega : s < n)]
    simp
theorem q_k1 : ∀ p, p < 6 → ((Int32.toInt64 (1 <<< (nI p &&& 31)) &&& 63).toBitVec.smod 64).toNat = 2 ^ p := by decide +kernel
theorem q_k2 : ∀ p, p < 6 → (((Int32.toInt64 (1 <<< (nI p &&& 31))).toUInt64 &&& Int64.toUInt64 63).toBitVec % 64).toNat = 2 ^ p := by decide +kernel
theorem q_f1 : ∀ p, p < 6 → ∀ s, s < 64 → bN s p = 1 → 2 ^ p ≤ s ∧ bN (s - 2 ^ p) p = 0 ∧ s ^^^ 2 ^ p = s - 2 ^ p := by decide +kernel
theorem q_f0 : ∀ p, p < 6 → ∀ s, s < 64 → bN s p = 0 → (2 ^ p ≤ s → bN (s - 2 ^ p) p = 1) ∧ 2 ^ p + s < 64 ∧ s ^^^ 2 ^ p = 2 ^ p + s := by decide +kernel
theorem bt_mv (y : Int64) {p s : Nat} (hp : p < 6) (hs : s < 64) : bt (((y &&& wiJ p) <<< (Int32.toInt64 (1 <<< (nI p &&& 31)) &&& 63)) ||| (((Int64.toUInt64 y >>> ((Int32.toInt64 (1 <<< (nI p &&& 31))).toUInt64 &&& Int64.toUInt64 63)).toInt64) &&& wiJ p)) s = bt y (s ^^^ 2 ^ p) := by
  rw [bt_or, bt_and _ (wiJ p), bt_shl (q_k1 p hp) hs, bt_ush (q_k2 p hp), bt_w p hp s hs, bt_and]
  have hb := bN_lt s p
  by_cases h : bN s p = 1
  · obtain ⟨h1, h2, h3⟩ := q_f1 p hp s hs h
    rw [h3, bt_w p hp (s - 2 ^ p) (Nat.lt_of_le_of_lt (Nat.sub_le _ _) hs), decide_eq_true h1, decide_eq_true h2, decide_eq_false (by omega : ¬ bN s p = 0)]
    simp
  · obtain ⟨h1, h2, h3⟩ := q_f0 p hp s hs (by omega)
    rw [h3, decide_eq_true (by omega : bN s p = 0)]
    by_cases h4 : 2 ^ p ≤ s
    · rw [bt_w p hp (s - 2 ^ p) (Nat.lt_of_le_of_lt (Nat.sub_le _ _) hs), decide_eq_true h4, decide_eq_false (by have := h1 h4; omega : ¬ bN (s - 2 ^ p) p = 0)]
      simp
    · rw [decide_eq_false h4]
      simp
def lo (x i : Nat) : Nat := x % 2 ^ i
theorem q_lo1 : ∀ i, i < 6 → ∀ x, x < 64 → (bN x i = 1 → lo x (i + 1) = lo x i ^^^ 2 ^ i) ∧ (bN x i = 0 → lo x (i + 1) = lo x i) := by decide +kernel
theorem q_one : ∀ x, x < 64 → ∀ s, s < 64 → ((x &&& s = 0) ↔ ∀ p, p < 6 → bN x p = 1 → bN s p = 0) ∧ ((x &&& s = x) ↔ ∀ p, p < 6 → bN x p = 1 → bN s p = 1) := by decide +kernel
theorem lt64_xor {a b : Nat} (ha : a < 64) (hb : b < 64) : a ^^^ b < 64 := Nat.xor_lt_two_pow (n := 6) ha hb
theorem c_crossed (y : Int64) {x : Nat} (hx : x < 64) : ∃ z, f_X10_crossed y (nI x) = some z ∧ ∀ s, s < 64 → (bt z s = true ↔ bt y (s ^^^ x) = true ∧ oneS x s) := by
  unfold f_X10_crossed
  have hlp := lp_for (b := fun q => b_X10_crossed_15 (nI x) q.1 q.2.1 q.2.2.1 q.2.2.2) 6 (fun i q => q.2.2.2 = nI i ∧ ∀ s, s < 64 → bt q.1 s = bt y (s ^^^ lo x i) ∧ (bt q.2.1 s = true ↔ ∀ p, p < i → bN x p = 1 → bN s p = 0) ∧ (bt q.2.2.1 s = true ↔ ∀ p, p < i → bN x p = 1 → bN s p = 1)) (fun r => ∀ s, s < 64 → bt r.1 s = bt y (s ^^^ lo x 6) ∧ (bt r.2.1 s = true ↔ ∀ p, p < 6 → bN x p = 1 → bN s p = 0) ∧ (bt r.2.2 s = true ↔ ∀ p, p < 6 → bN x p = 1 → bN s p = 1)) ?_ ?_ (F := FU) (i := 0) (s := (y, -1, -1, 0)) ⟨rfl, fun s hs => ⟨by rw [show lo x 0 = 0 from Nat.mod_one x, Nat.xor_zero], ⟨fun _ p h => by omega, fun _ => bt_m1 s hs⟩, ⟨fun _ p h => by omega, fun _ => bt_m1 s hs⟩⟩⟩ (Nat.zero_le _) (FU_gt (by decide))
  · obtain ⟨r, h1, h2⟩ := hlp
    refine ⟨r.1 &&& (r.2.1 ||| r.2.2), by rw [h1]; rfl, fun s hs => ?_⟩
    obtain ⟨g1, g2, g3⟩ := h2 s hs
    obtain ⟨o1, o2⟩ := q_one x hx s hs
    rw [bt_and, bt_or, Bool.and_eq_true, Bool.or_eq_true, g1, g2, g3, ← o1, ← o2, show lo x 6 = x from Nat.mod_eq_of_lt hx]
    rfl
  · rintro ⟨q1, q2, q3, q4⟩ ⟨h0, h⟩
    refine ⟨(q1, q2, q3), ?_, h⟩
    show b_X10_crossed_15 (nI x) q1 q2 q3 q4 = _
    have h0 : q4 = nI 6 := h0
    rw [h0]
    unfold b_X10_crossed_15
    rw [if_pos (by decide)]
  · rintro i ⟨q1, q2, q3, q4⟩ hi ⟨h0, h⟩
    have h0 : q4 = nI i := h0
    subst h0
    refine Or.inl ?_
    show ∃ s', b_X10_crossed_15 (nI x) q1 q2 q3 (nI i) = _ ∧ _
    have hb := bN_lt x i
    unfold b_X10_crossed_15
    rw [c_hasPorterIn (by omega) (by omega), Option.bind_some, ln6, i_le (by omega) (by omega), if_neg (by omega), show (0 : Int32) = nI 0 from rfl, i_eq (by omega) (by omega), q_rdJ hi (by decide)]
    obtain ⟨l1, l0⟩ := q_lo1 i hi x hx
    by_cases h0 : bN x i = 0
    · rw [if_pos h0]
      refine ⟨_, rfl, nI_1 i, fun s hs => ?_⟩
      obtain ⟨g1, g2, g3⟩ := h s hs
      rw [l0 h0]
      refine ⟨g1, ?_, ?_⟩
      · rw [g2]
        exact ⟨fun k p hp hx => by
          rcases Nat.lt_or_ge p i with h5 | h5
          · exact k p h5 hx
          · obtain rfl : p = i := by omega
            omega, fun k p hp => k p (by omega)⟩
      · rw [g3]
        exact ⟨fun k p hp hx => by
          rcases Nat.lt_or_ge p i with h5 | h5
          · exact k p h5 hx
          · obtain rfl : p = i := by omega
            omega, fun k p hp => k p (by omega)⟩
    · rw [if_neg h0]
      refine ⟨_, rfl, nI_1 i, fun s hs => ?_⟩
      have h1 : bN x i = 1 := by omega
      have hp2 : 2 ^ i < 64 := Nat.pow_lt_pow_right (m := i) (n := 6) (by decide) hi
      have hl : lo x i < 64 := Nat.lt_of_le_of_lt (Nat.mod_le _ _) hx
      obtain ⟨_, g2, g3⟩ := h s hs
      obtain ⟨g1, _, _⟩ := h (s ^^^ 2 ^ i) (lt64_xor hs hp2)
      refine ⟨?_, ?_, ?_⟩
      · show bt (((q1 &&& wiJ i) <<< (Int32.toInt64 (1 <<< (nI i &&& 31)) &&& 63)) ||| (((Int64.toUInt64 q1 >>> ((Int32.toInt64 (1 <<< (nI i &&& 31))).toUInt64 &&& Int64.toUInt64 63)).toInt64) &&& wiJ i)) s = _
        rw [bt_mv q1 hi hs, g1, l1 h1, Nat.xor_assoc, Nat.xor_comm (2 ^ i) (lo x i)]
      · show bt (q2 &&& wiJ i) s = true ↔ _
        rw [bt_and, bt_w i hi s hs, Bool.and_eq_true, g2, decide_eq_true_iff]
        exact ⟨fun ⟨k, k2⟩ p hp hx => by
          rcases Nat.lt_or_ge p i with h5 | h5
          · exact k p h5 hx
          · obtain rfl : p = i := by omega
            exact k2, fun k => ⟨fun p hp => k p (by omega), k i (by omega) h1⟩⟩
      · show bt (q3 &&& (wiJ i ^^^ (-1))) s = true ↔ _
        have hbs := bN_lt s i
        rw [bt_and, bt_xor, bt_m1 s hs, bt_w i hi s hs, Bool.and_eq_true, g3]
        have e : ((decide (bN s i = 0) ^^ true) = true) ↔ bN s i = 1 := by
          by_cases h7 : bN s i = 0
          · rw [decide_eq_true h7, h7]; decide
          · rw [decide_eq_false h7]
            exact ⟨fun _ => by omega, fun _ => rfl⟩
        rw [e]
        exact ⟨fun ⟨k, k2⟩ p hp hx => by
          rcases Nat.lt_or_ge p i with h5 | h5
          · exact k p h5 hx
          · obtain rfl : p = i := by omega
            exact k2, fun k => ⟨fun p hp => k p (by omega), k i (by omega) h1⟩⟩
theorem q_wao : ∀ b, b < 64 → (lp (fun s => b_X10_withAllOf_6 (nI b) s.1 s.2) 8 ((-1), 0)).map (fun z => (List.range 64).all (fun s => bt z s == decide (s &&& b = b))) = some true := by decide +kernel
theorem c_withAllOf {b : Nat} (hb : b < 64) : ∃ z, f_X10_withAllOf (nI b) = some z ∧ ∀ s, s < 64 → (bt z s = true ↔ ov b s) := by
  have h := q_wao b hb
  cases e : lp (fun s => b_X10_withAllOf_6 (nI b) s.1 s.2) 8 ((-1), 0) with
  | none => rw [e] at h; cases h
  | some z =>
    rw [e] at h
    refine ⟨z, ?_, fun s hs => ?_⟩
    · unfold f_X10_withAllOf
      rw [lp_up e (Nat.le_of_ble_eq_true rfl)]
      rfl
    · have h1 : (List.range 64).all (fun s => bt z s == decide (s &&& b = b)) = true := Option.some.inj h
      have h2 := List.all_eq_true.mp h1 s (List.mem_range.mpr hs)
      have h3 : bt z s = decide (s &&& b = b) := by simpa using h2
      rw [h3, decide_eq_true_iff]
      rfl
theorem bt_sh1 : ∀ x, x < 64 → ∀ s, s < 64 → bt (1 <<< (Int32.toInt64 (nI x) &&& 63)) s = decide (s = x) := by decide +kernel
def sm (i : Nat) : Nat := [1, 2, 3, 4, 5, 6, 8, 9, 10, 12, 16, 17, 18, 20, 24, 32, 33, 34, 36, 40, 48].getD i 0
theorem q_sm1 : ∀ i, i < 21 → ssI 0 i = nI (sm i) := by decide +kernel
theorem q_sm2 : ∀ i, i < 21 → 1 ≤ sm i ∧ sm i < 64 ∧ pcn (sm i) ≤ 2 := by decide +kernel
theorem q_sm3 : ∀ x, x < 64 → 1 ≤ x → pcn x ≤ 2 → ∃ i, i < 21 ∧ sm i = x := by decide +kernel
theorem q_sm4 : ∀ i, i < 21 → ∀ j, j < 21 → i < j → sm i < sm j := by decide +kernel
theorem c_sm {i : Nat} (hi : i < 21) : rdI 21 (ssI 0) (nI i) = some (nI (sm i)) := by rw [q_rd hi (by decide), q_sm1 i hi]
