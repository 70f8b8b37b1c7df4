/-! pure kit: loops, small numbers, bits -/
theorem lp_s {σ ρ : Type} {b : σ → Option (σ ⊕ ρ)} {n : Nat} {s s' : σ} (h : b s = some (Sum.inl s')) : lp b (n + 1) s = lp b n s' := by
  show (b s).bind (Sum.elim (lp b n) some) = _
  rw [h]
  rfl
theorem lp_e {σ ρ : Type} {b : σ → Option (σ ⊕ ρ)} {n : Nat} {s : σ} {r : ρ} (h : b s = some (Sum.inr r)) : lp b (n + 1) s = some r := by
  show (b s).bind (Sum.elim (lp b n) some) = _
  rw [h]
  rfl
theorem lp_w {σ ρ : Type} {b : σ → Option (σ ⊕ ρ)} (I : Nat → σ → Prop) (Q : ρ → Prop) (hs : ∀ n s, I n s → (∃ r, b s = some (Sum.inr r) ∧ Q r) ∨ (∃ s' m, m < n ∧ b s = some (Sum.inl s') ∧ I m s')) : ∀ F n s, I n s → n < F → ∃ r, lp b F s = some r ∧ Q r := by
  intro F
  induction F with
  | zero => intro n s _ h; omega
  | succ F ih =>
    intro n s hI hn
    rcases hs n s hI with ⟨r, hr, hq⟩ | ⟨s', m, hm, hb, hI'⟩
    · exact ⟨r, lp_e hr, hq⟩
    · obtain ⟨r, h1, h2⟩ := ih m s' hI' (by omega)
      exact ⟨r, (lp_s hb).trans h1, h2⟩
theorem lp_for {σ ρ : Type} {b : σ → Option (σ ⊕ ρ)} (e : Nat) (I : Nat → σ → Prop) (Q : ρ → Prop) (hx : ∀ s, I e s → ∃ r, b s = some (Sum.inr r) ∧ Q r) (hs : ∀ i s, i < e → I i s → (∃ s', b s = some (Sum.inl s') ∧ I (i + 1) s') ∨ (∃ r, b s = some (Sum.inr r) ∧ Q r)) {F i : Nat} {s : σ} (h : I i s) (hi : i ≤ e) (hF : e - i < F) : ∃ r, lp b F s = some r ∧ Q r := by
  refine lp_w (fun n s => ∃ i, i ≤ e ∧ n = e - i ∧ I i s) Q ?_ F (e - i) s ⟨i, hi, rfl, h⟩ hF
  intro n s ⟨i, hi, hn, hI⟩
  rcases Nat.lt_or_ge i e with h1 | h1
  · rcases hs i s h1 hI with ⟨s', hb, hI'⟩ | h2
    · exact Or.inr ⟨s', e - (i + 1), by omega, hb, i + 1, h1, rfl, hI'⟩
    · exact Or.inl h2
  · have : i = e := by omega
    subst this
    exact Or.inl (hx s hI)
/-- down to nought -/
theorem lp_dn {σ ρ : Type} {b : σ → Option (σ ⊕ ρ)} (I : Nat → σ → Prop) (Q : ρ → Prop) (hx : ∀ s, I 0 s → ∃ r, b s = some (Sum.inr r) ∧ Q r) (hs : ∀ i s, I (i + 1) s → (∃ s', b s = some (Sum.inl s') ∧ I i s') ∨ (∃ r, b s = some (Sum.inr r) ∧ Q r)) {F i : Nat} {s : σ} (h : I i s) (hF : i < F) : ∃ r, lp b F s = some r ∧ Q r := by
  refine lp_w I Q ?_ F i s h hF
  intro n s hI
  cases n with
  | zero => exact Or.inl (hx s hI)
  | succ n =>
    rcases hs n s hI with ⟨s', hb, hI'⟩ | h2
    · exact Or.inr ⟨s', n, by omega, hb, hI'⟩
    · exact Or.inl h2
theorem lp_seq {σ ρ : Type} {b : σ → Option (σ ⊕ ρ)} (e : Nat) (st : Nat → σ) (r : ρ) (hs : ∀ i, i < e → b (st i) = some (Sum.inl (st (i + 1)))) (hx : b (st e) = some (Sum.inr r)) {F : Nat} (hF : e < F) : lp b F (st 0) = some r := by
  obtain ⟨r', h1, h2⟩ := lp_for (b := b) e (fun i s => s = st i) (fun r' => r' = r) (fun s h => ⟨r, by rw [h]; exact hx, rfl⟩) (fun i s hi h => Or.inl ⟨st (i + 1), by rw [h]; exact hs i hi, rfl⟩) (F := F) (i := 0) (s := st 0) rfl (Nat.zero_le _) (by omega)
  rw [h1, h2]
theorem lp_up {σ ρ : Type} {b : σ → Option (σ ⊕ ρ)} {n : Nat} : ∀ {m : Nat} {s : σ} {r : ρ}, lp b n s = some r → n ≤ m → lp b m s = some r := by
  induction n with
  | zero => intro m s r h; cases h
  | succ n ih =>
    intro m s r h hm
    obtain ⟨k, rfl⟩ : ∃ k, m = k + 1 := ⟨m - 1, by omega⟩
    have h : (b s).bind (Sum.elim (lp b n) some) = some r := h
    show (b s).bind (Sum.elim (lp b k) some) = some r
    cases hb : b s with
    | none => rw [hb] at h; cases h
    | some x =>
      rw [hb] at h
      cases x with
      | inl y => exact ih h (by omega)
      | inr y => exact h
theorem FU_gt {n : Nat} (h : n < 1000000) : n < FU := h
/-! numbers -/
theorem q_le {a b : Nat} (ha : a < 2147483648) (hb : b < 2147483648) : (nI a ≤ nI b) = (a ≤ b) := propext (nI_leI (by omega) (by omega))
theorem q_lt {a b : Nat} (ha : a < 2147483648) (hb : b < 2147483648) : (nI a < nI b) = (a < b) := propext (nI_ltI (by omega) (by omega))
theorem q_eq {a b : Nat} (ha : a < 2147483648) (hb : b < 2147483648) : (nI a = nI b) = (a = b) := propext (nI_eq (by omega) (by omega))
theorem q_sub {a b : Nat} (h : b ≤ a) : nI a - nI b = nI (a - b) := pk_sub h
theorem q_m1 {a : Nat} (h : 1 ≤ a) : nI a + -nI 1 = nI (a - 1) := by
  obtain ⟨k, rfl⟩ : ∃ k, a = k + 1 := ⟨a - 1, by omega⟩
  exact pk_m1 k
theorem q_rd {n k : Nat} {f : Nat → Int32} (h : k < n) (hn : n < 2147483648) : rdI n f (nI k) = some (f k) := by
  unfold rdI
  rw [if_neg (nI_in h (by omega)), nI_clamp (by omega)]
theorem q_rdJ {n k : Nat} {f : Nat → Int64} (h : k < n) (hn : n < 2147483648) : rdJ n f (nI k) = some (f k) := by
  unfold rdJ
  rw [if_neg (nI_in h (by omega)), nI_clamp (by omega)]
theorem q_rdP {k : Nat} {f : Nat → PD} (h : k < 6) : rdP f (nI k) = some (f k) := by
  unfold rdP
  rw [if_neg (nI_in h (by omega)), nI_clamp (by omega)]
theorem q_wrM {M : MS} {k n i : Nat} {x : Int32} (h : i < n) (hn : n < 2147483648) : wrM M k n (nI i) x = some (va_up M k (upd (M k) i x)) := by
  unfold wrM
  rw [if_neg (nI_in h (by omega)), nI_clamp (by omega)]
theorem q_wrI {S : CS} {k n i : Nat} {x : Int32} (h : i < n) (hn : n < 2147483648) : wrI S k n (nI i) x = some (siI S k (upd (S.1 k) i x)) := by
  unfold wrI
  rw [if_neg (nI_in h (by omega)), nI_clamp (by omega)]
theorem q_wrJ {S : CS} {k n i : Nat} {x : Int64} (h : i < n) (hn : n < 2147483648) : wrJ S k n (nI i) x = some (siJ S k (vp_updL (S.2.1 k) i x)) := by
  unfold wrJ
  rw [if_neg (nI_in h (by omega)), nI_clamp (by omega)]
theorem q_wrP {S : CS} {k i : Nat} {x : PD} (h : i < 6) : wrP S k (nI i) x = some (siP S k (va_up (S.2.2 k) i x)) := by
  unfold wrP
  rw [if_neg (nI_in h (by omega)), nI_clamp (by omega)]
theorem q_bi2 {α β γ : Type} {a : α} {b : β} {k : α → β → Option γ} : bi2 (some (a, b)) k = k a b := rfl
theorem q_zr {n : Nat} (h : n < 2) : zr (nI n) = some (nI n) := by
  rcases Nat.lt_or_ge n 1 with h1 | h1
  · obtain rfl : n = 0 := by omega
    rfl
  · obtain rfl : n = 1 := by omega
    rfl
theorem q_and (a b : Nat) : nI a &&& nI b = nI (a &&& b) := Int32.toBitVec_inj.mp (by show BitVec.ofNat 32 a &&& BitVec.ofNat 32 b = BitVec.ofNat 32 (a &&& b); exact BitVec.ofNat_and.symm)
theorem q_or (a b : Nat) : nI a ||| nI b = nI (a ||| b) := Int32.toBitVec_inj.mp (by show BitVec.ofNat 32 a ||| BitVec.ofNat 32 b = BitVec.ofNat 32 (a ||| b); exact BitVec.ofNat_or.symm)
theorem q_xor (a b : Nat) : nI a ^^^ nI b = nI (a ^^^ b) := Int32.toBitVec_inj.mp (by show BitVec.ofNat 32 a ^^^ BitVec.ofNat 32 b = BitVec.ofNat 32 (a ^^^ b); exact BitVec.ofNat_xor.symm)
def bN (s p : Nat) : Nat := s / 2 ^ p % 2
theorem bN_lt (s p : Nat) : bN s p < 2 := Nat.mod_lt _ (by decide)
theorem bN_le (s p : Nat) : bN s p ≤ 1 := Nat.le_of_lt_succ (bN_lt s p)
theorem q_sm : ∀ p, p < 31 → ((nI p &&& nI 31).toBitVec.smod 32).toNat = p := by decide +kernel
theorem q_bit {s p : Nat} (hs : s < 2147483648) (hp : p < 31) : (nI s >>> (nI p &&& nI 31)) &&& nI 1 = nI (bN s p) := by
  rw [pk_shrN (by omega) _ p (q_sm p hp), pk_andN (n := s / 2 ^ p) (m := nI 1) (Nat.lt_of_le_of_lt (Nat.div_le_self _ _) (by omega)) 1 (by decide)]
  rfl
theorem q_shl {p : Nat} (hp : p < 31) : nI 1 <<< (nI p &&& nI 31) = nI (2 ^ p) := by
  rw [pk_shlN _ p (q_sm p hp) (by rw [Nat.one_mul]; exact Nat.pow_lt_pow_right (by decide) (by omega)), Nat.one_mul]
theorem q_in {x : Int32} {lo hi : Int64} (l h : Int32) (hl : lo = l.toInt64) (hh : hi = h.toInt64) : f_X11_in x.toInt64 lo hi = some (if l ≤ x ∧ x ≤ h then nI 1 else nI 0) := by
  subst hl hh
  have gt_i : ∀ a c : Int32, (a.toInt64 > c.toInt64) ↔ c.toInt < a.toInt := fun a c => by
    show c.toInt64 < a.toInt64 ↔ _
    rw [Int64.lt_iff_toInt_lt, Int32.toInt_toInt64, Int32.toInt_toInt64]
  have eq_i : ∀ a c : Int32, (a.toInt64 = c.toInt64) ↔ a.toInt = c.toInt := fun a c => by
    rw [← Int64.toInt_inj, Int32.toInt_toInt64, Int32.toInt_toInt64]
  have e1 : lg_cmp x.toInt64 l.toInt64 < 0 ↔ ¬ l ≤ x := by
    rw [Int32.le_iff_toInt_le]
    unfold lg_cmp
    have g1 := gt_i x l
    have g2 := eq_i x l
    by_cases h1 : x.toInt64 > l.toInt64
    · rw [if_pos h1]
      have := g1.mp h1
      exact ⟨fun h => absurd h (by decide), fun h => by omega⟩
    · rw [if_neg h1]
      have h3 : ¬ l.toInt < x.toInt := fun h => h1 (g1.mpr h)
      by_cases h2 : x.toInt64 = l.toInt64
      · rw [if_pos h2]
        have := g2.mp h2
        exact ⟨fun h => absurd h (by decide), fun h => by omega⟩
      · rw [if_neg h2]
        have h4 : ¬ x.toInt = l.toInt := fun h => h2 (g2.mpr h)
        exact ⟨fun _ => by omega, fun _ => by decide⟩
  have e2 : 0 < lg_cmp x.toInt64 h.toInt64 ↔ ¬ x ≤ h := by
    rw [Int32.le_iff_toInt_le]
    unfold lg_cmp
    have g1 := gt_i x h
    have g2 := eq_i x h
    by_cases h1 : x.toInt64 > h.toInt64
    · rw [if_pos h1]
      have := g1.mp h1
      exact ⟨fun _ => by omega, fun _ => by decide⟩
    · rw [if_neg h1]
      have h3 : ¬ h.toInt < x.toInt := fun h9 => h1 (g1.mpr h9)
      by_cases h2 : x.toInt64 = h.toInt64
      · rw [if_pos h2]
        exact ⟨fun h9 => absurd h9 (by decide), fun h9 => by omega⟩
      · rw [if_neg h2]
        exact ⟨fun h9 => absurd h9 (by decide), fun h9 => by omega⟩
  unfold f_X11_in
  by_cases c1 : l ≤ x
  · rw [if_neg (fun h9 => e1.mp h9 c1)]
    by_cases c2 : x ≤ h
    · rw [if_neg (fun h9 => e2.mp h9 c2), if_pos ⟨c1, c2⟩]
      rfl
    · rw [if_pos (e2.mpr c2), if_neg (fun h9 => c2 h9.2)]
      rfl
  · rw [if_pos (e1.mpr c1), if_neg (fun h9 => c1 h9.1)]
    rfl
/-- of an int and bounds: in them, and which, or not -/
theorem q_cs (x : Int32) (a b : Nat) (ha : a < 2147483648) (hb : b < 2147483648) : (¬ (nI a ≤ x ∧ x ≤ nI b)) ∨ ∃ j : Nat, a ≤ j ∧ j ≤ b ∧ x = nI j := by
  by_cases h : nI a ≤ x ∧ x ≤ nI b
  · have h0 : ¬ x < 0 := by
      intro h9
      have h1 := Int32.le_iff_toInt_le.mp h.1
      have h2 := Int32.lt_iff_toInt_lt.mp h9
      rw [nI_toInt (by omega)] at h1
      have h3 : (0 : Int32).toInt = 0 := rfl
      omega
    obtain ⟨j, hj, rfl⟩ := nI_of h0
    have h1 := (nI_leI (a := a) (b := j) (by omega) hj).mp h.1
    have h2 := (nI_leI (a := j) (b := b) hj (by omega)).mp h.2
    exact Or.inr ⟨j, h1, h2, rfl⟩
  · exact Or.inl h
def anB (P : Nat → Bool) : Nat → Bool
  | 0 => false
  | i + 1 => anB P i || P i
theorem anB_iff {P : Nat → Bool} {n : Nat} : anB P n = true ↔ ∃ i, i < n ∧ P i = true := by
  induction n with
  | zero => exact ⟨fun h => (by cases h), fun ⟨i, h, _⟩ => by omega⟩
  | succ n ih =>
    show (anB P n || P n) = true ↔ _
    rw [Bool.or_eq_true, ih]
    constructor
    · rintro (⟨i, h, h1⟩ | h)
      · exact ⟨i, by omega, h1⟩
      · exact ⟨n, by omega, h⟩
    · rintro ⟨i, h, h1⟩
      rcases Nat.lt_or_ge i n with h2 | h2
      · exact Or.inl ⟨i, h2, h1⟩
      · obtain rfl : i = n := by omega
        exact Or.inr h1
theorem anB_f {P : Nat → Bool} {n : Nat} : anB P n = false ↔ ∀ i, i < n → P i = false := by
  constructor
  · intro h i hi
    cases hp : P i with
    | false => rfl
    | true => rw [anB_iff.mpr ⟨i, hi, hp⟩] at h; cases h
  · intro h
    cases hp : anB P n with
    | false => rfl
    | true => obtain ⟨i, hi, h1⟩ := anB_iff.mp hp; rw [h i hi] at h1; cases h1
theorem ln0 : (0 : Int32) = nI 0 := rfl
theorem ln1 : (1 : Int32) = nI 1 := rfl
theorem ln2 : (2 : Int32) = nI 2 := rfl
theorem ln3 : (3 : Int32) = nI 3 := rfl
theorem ln4 : (4 : Int32) = nI 4 := rfl
theorem ln5 : (5 : Int32) = nI 5 := rfl
theorem ln6 : (6 : Int32) = nI 6 := rfl
theorem ln7 : (7 : Int32) = nI 7 := rfl
theorem ln8 : (8 : Int32) = nI 8 := rfl
theorem ln10 : (10 : Int32) = nI 10 := rfl
theorem ln20 : (20 : Int32) = nI 20 := rfl
theorem ln21 : (21 : Int32) = nI 21 := rfl
theorem ln24 : (24 : Int32) = nI 24 := rfl
theorem ln28 : (28 : Int32) = nI 28 := rfl
theorem ln30 : (30 : Int32) = nI 30 := rfl
theorem ln31 : (31 : Int32) = nI 31 := rfl
theorem ln32 : (32 : Int32) = nI 32 := rfl
theorem ln48 : (48 : Int32) = nI 48 := rfl
theorem ln57 : (57 : Int32) = nI 57 := rfl
theorem ln59 : (59 : Int32) = nI 59 := rfl
theorem ln60 : (60 : Int32) = nI 60 := rfl
theorem ln64 : (64 : Int32) = nI 64 := rfl
theorem ln68 : (68 : Int32) = nI 68 := rfl
theorem ln73 : (73 : Int32) = nI 73 := rfl
theorem ln74 : (74 : Int32) = nI 74 := rfl
theorem ln97 : (97 : Int32) = nI 97 := rfl
theorem ln99 : (99 : Int32) = nI 99 := rfl
theorem ln100 : (100 : Int32) = nI 100 := rfl
theorem ln120 : (120 : Int32) = nI 120 := rfl
theorem ln122 : (122 : Int32) = nI 122 := rfl
theorem ln180 : (180 : Int32) = nI 180 := rfl
theorem ln200 : (200 : Int32) = nI 200 := rfl
theorem ln239 : (239 : Int32) = nI 239 := rfl
theorem ln240 : (240 : Int32) = nI 240 := rfl
theorem ln241 : (241 : Int32) = nI 241 := rfl
theorem ln274 : (274 : Int32) = nI 274 := rfl
theorem ln275 : (275 : Int32) = nI 275 := rfl
theorem ln276 : (276 : Int32) = nI 276 := rfl
theorem ln277 : (277 : Int32) = nI 277 := rfl
theorem ln1000000 : (1000000 : Int32) = nI 1000000 := rfl
