/-! loads: who carries what -/
theorem cpy_at {f g : Nat → Int32} {n k : Nat} (h : k < n) : va_cpy f g 0 0 n k = f k := by
  show (if 0 ≤ k ∧ k < 0 + n then f (0 + (k - 0)) else g k) = f k
  rw [if_pos ⟨by omega, by omega⟩, Nat.zero_add, Nat.sub_zero]
theorem nI_nm1 {a : Nat} (h : a < 2147483648) : ¬ nI a ≤ -1 := by
  rw [Int32.le_iff_toInt_le, nI_toInt (by omega)]
  have h2 : (-1 : Int32).toInt = -1 := rfl
  omega
def gdP (C : Cmp) (x : Nat → Nat) (a b : Nat) : Prop := ¬ anv C (2 ^ a ||| 2 ^ b) 0 ∧ unl C a b 0 (x a) (x b)
noncomputable def prI (C : Cmp) (x : Nat → Nat) (a : Nat) : Nat → Nat
  | 0 => 0
  | i + 1 => prI C x a i + (if a < i then oneI (gdP C x a i) else 0)
noncomputable def prO (C : Cmp) (x : Nat → Nat) : Nat → Nat
  | 0 => 0
  | a + 1 => prO C x a + prI C x a (caN C)
noncomputable def prC (C : Cmp) (x : Nat → Nat) : Nat := prO C x (caN C)
theorem prI_0 (C : Cmp) (x : Nat → Nat) (a : Nat) : ∀ i, i ≤ a + 1 → prI C x a i = 0 := by
  intro i
  induction i with
  | zero => intro _; rfl
  | succ i ih =>
    intro h
    show prI C x a i + (if a < i then oneI (gdP C x a i) else 0) = 0
    rw [ih (by omega), if_neg (by omega)]
theorem prI_s (C : Cmp) (x : Nat → Nat) {a i : Nat} (h : a < i) : prI C x a (i + 1) = prI C x a i + oneI (gdP C x a i) := by
  show prI C x a i + (if a < i then oneI (gdP C x a i) else 0) = _
  rw [if_pos h]
theorem prI_le (C : Cmp) (x : Nat → Nat) (a : Nat) : ∀ i, prI C x a i ≤ i := by
  intro i
  induction i with
  | zero => exact Nat.le_refl _
  | succ i ih =>
    show prI C x a i + (if a < i then oneI (gdP C x a i) else 0) ≤ i + 1
    have := oneI_lt (gdP C x a i)
    split <;> omega
theorem prO_le {C : Cmp} (hC : Gp C) (x : Nat → Nat) : ∀ a, prO C x a ≤ 6 * a := by
  intro a
  induction a with
  | zero => exact Nat.le_refl _
  | succ a ih =>
    show prO C x a + prI C x a (caN C) ≤ 6 * (a + 1)
    have := prI_le C x a (caN C)
    have := hC.n
    omega
theorem prC_le {C : Cmp} (hC : Gp C) (x : Nat → Nat) : prC C x ≤ 36 := by
  have := prO_le hC x (caN C)
  have := hC.n
  unfold prC
  omega
theorem q_pr {a b : Nat} (ha : a < 6) (hb : b < 6) : ((1 : Int32) <<< (nI a &&& 31)) ||| ((1 : Int32) <<< (nI b &&& 31)) = nI (2 ^ a ||| 2 ^ b) := by
  rw [ln1, ln31, q_shl (by omega), q_shl (by omega), q_or]
theorem q_prl : ∀ a, a < 6 → ∀ b, b < 6 → 2 ^ a ||| 2 ^ b < 64 := by decide +kernel
theorem q_prn : ∀ n, n ≤ 6 → ∀ a, a < n → ∀ b, b < n → 2 ^ a ||| 2 ^ b < 2 ^ n := by decide +kernel
theorem q_prf : ∀ b, b < 6 → ∀ a, a < b → pcn (2 ^ a ||| 2 ^ b) = 2 ∧ fs1 (2 ^ a ||| 2 ^ b) = a ∧ fs2 (2 ^ a ||| 2 ^ b) = b := by decide +kernel
theorem q_prb : ∀ a, a < 6 → ∀ b, b < 6 → ∀ p, p < 6 → (bN (2 ^ a ||| 2 ^ b) p = 1 ↔ p = a ∨ p = b) := by decide +kernel
theorem r_pairsNow {M : MS} {C : Cmp} (hM : RMp M C) (hC : Gp C) {x : Nat → Nat} (hx : ∀ p, p < caN C → M 4 p = nI (x p) ∧ x p < 200) : f_X11_pairsNow M = some (nI (prC C x)) := by
  have hn := hC.n
  unfold f_X11_pairsNow
  have h := lp_seq (b := fun s => b_X11_pairsNow_4 M s.1 s.2) (caN C) (fun a => (nI (prO C x a), nI a)) (nI (prC C x)) ?_ ?_ (F := FU) (FU_gt (by omega))
  · rw [show ((0 : Int32), (0 : Int32)) = (nI (prO C x 0), nI 0) from rfl, h]
    rfl
  · intro a ha
    show b_X11_pairsNow_4 M (nI (prO C x a)) (nI a) = _
    unfold b_X11_pairsNow_4
    rw [r_porters hM, Option.bind_some, i_le (by omega) (by omega), if_neg (by omega), Option.bind_some, nI_1]
    have hlp := lp_for (b := fun s => b_X11_pairsNow_16 M (nI a) s.1 s.2) (caN C) (fun b s => a < b ∧ s = (nI (prO C x a + prI C x a b), nI b)) (fun r => r = nI (prO C x (a + 1))) ?_ ?_ (F := FU) (i := a + 1) (s := (nI (prO C x a), nI (a + 1))) ⟨by omega, by rw [prI_0 C x a (a + 1) (Nat.le_refl _), Nat.add_zero (prO C x a)]⟩ (by omega) (FU_gt (by omega))
    · obtain ⟨r, e, hr⟩ := hlp
      rw [e, hr, Option.bind_some]
      unfold k_X11_pairsNow_16
      rw [Option.bind_some, nI_1]
    · rintro s ⟨h1, rfl⟩
      refine ⟨_, ?_, rfl⟩
      show b_X11_pairsNow_16 M (nI a) (nI (prO C x a + prI C x a (caN C))) (nI (caN C)) = _
      unfold b_X11_pairsNow_16
      rw [r_porters hM, Option.bind_some, if_pos (nI_le (Nat.le_refl _) (by omega))]
      rfl
    · rintro b s hb ⟨h1, rfl⟩
      refine Or.inl ⟨(nI (prO C x a + prI C x a (b + 1)), nI (b + 1)), ?_, by omega, rfl⟩
      show b_X11_pairsNow_16 M (nI a) (nI (prO C x a + prI C x a b)) (nI b) = _
      have hnv := r_anyNever hM hC (s := 2 ^ a ||| 2 ^ b) (nt := 0) (q_prl a (by omega) b (by omega)) (by decide)
      have hnv : f_X11_anyNever M (nI (2 ^ a ||| 2 ^ b)) 0 = some (nI (oneI (anv C (2 ^ a ||| 2 ^ b) 0))) := hnv
      have hun := r_areUnlike hM hC ha hb (t := 0) (by decide) (hx a ha).1 (hx b hb).1 (hx a ha).2 (hx b hb).2
      have hun : f_X11_areUnlike M (nI a) (nI b) 0 = some (nI (oneI (unl C a b 0 (x a) (x b)))) := hun
      unfold b_X11_pairsNow_16
      rw [r_porters hM, Option.bind_some, i_le (by omega) (by omega), if_neg (by omega), q_pr (by omega) (by omega), hnv, Option.bind_some, hun, prI_s C x h1]
      by_cases h2 : anv C (2 ^ a ||| 2 ^ b) 0
      · rw [oneI_t h2, if_neg (by decide), oneI_f (c := gdP C x a b) (fun h => h.1 h2)]
        simp only [Option.bind_some, nI_1, Int32.add_zero, Nat.add_zero]
      · rw [oneI_f h2, if_pos (by decide), Option.bind_some]
        by_cases h3 : unl C a b 0 (x a) (x b)
        · rw [oneI_t h3, if_neg (by decide), oneI_t (c := gdP C x a b) ⟨h2, h3⟩]
          simp only [Option.bind_some, nI_1, Nat.add_assoc]
        · rw [oneI_f h3, if_pos (by decide), oneI_f (c := gdP C x a b) (fun h => h3 h.2)]
          simp only [Option.bind_some, nI_1, Int32.add_zero, Nat.add_zero]
  · show b_X11_pairsNow_4 M (nI (prC C x)) (nI (caN C)) = _
    unfold b_X11_pairsNow_4
    rw [r_porters hM, Option.bind_some, if_pos (nI_le (Nat.le_refl _) (by omega))]
/-! codes -/
def dgB (B L c j : Nat) : Nat := c / B ^ (L - 1 - j) % B
def fzB (B L c : Nat) : Prop := ∀ j j', j < j' → j' < L → dgB B L c j ≠ 0 → dgB B L c j ≠ dgB B L c j'
def crU (C : Cmp) (f : Nat → Nat) (p : Nat) : Nat → Nat
  | 0 => 0
  | i + 1 => crU C f p i + (if f i = p + 1 then caLd C i else 0)
def xOf (C : Cmp) (c p : Nat) : Nat := crU C (dgB (caN C + 1) (caLn C) c) p (caLn C)
noncomputable def prK (C : Cmp) (c : Nat) : Nat := prC C (xOf C c)
def fzK (C : Cmp) (c : Nat) : Prop := fzB (caN C + 1) (caLn C) c
theorem dgB_lt {B L c j : Nat} (h : 0 < B) : dgB B L c j < B := Nat.mod_lt _ h
theorem dgB_top {B L c d : Nat} (hd : d < B) : dgB B (L + 1) (c * B + d) L = d := by
  unfold dgB
  rw [show L + 1 - 1 - L = 0 from by omega, Nat.pow_zero, Nat.div_one, Nat.mul_comm, Nat.mul_add_mod, Nat.mod_eq_of_lt hd]
theorem dgB_old {B L c d j : Nat} (hd : d < B) (hj : j < L) : dgB B (L + 1) (c * B + d) j = dgB B L c j := by
  unfold dgB
  rw [show L + 1 - 1 - j = (L - 1 - j) + 1 from by omega, Nat.pow_succ, Nat.mul_comm (B ^ (L - 1 - j)) B, ← Nat.div_div_eq_div_mul, Nat.mul_comm c B, Nat.mul_add_div (by omega), Nat.div_eq_of_lt hd, Nat.add_zero]
theorem dgB_pre {B L L' c c' j : Nat} (hL : L' ≤ L) (hc : c / B ^ (L - L') = c') (hj : j < L') : dgB B L c j = dgB B L' c' j := by
  unfold dgB
  rw [← hc, Nat.div_div_eq_div_mul, ← Nat.pow_add, show L - L' + (L' - 1 - j) = L - 1 - j from by omega]
theorem crU_c {C : Cmp} {f g : Nat → Nat} {p : Nat} : ∀ {i}, (∀ j, j < i → f j = g j) → crU C f p i = crU C g p i := by
  intro i
  induction i with
  | zero => intro _; rfl
  | succ i ih =>
    intro h
    show crU C f p i + (if f i = p + 1 then caLd C i else 0) = crU C g p i + (if g i = p + 1 then caLd C i else 0)
    rw [ih (fun j hj => h j (by omega)), h i (by omega)]
def GdL (C : Cmp) : Prop := caLn C ≤ 5 ∧ ∀ k, k < caLn C → 1 ≤ caLd C k ∧ caLd C k ≤ 20
theorem crU_le {C : Cmp} (hL : GdL C) (f : Nat → Nat) (p : Nat) : ∀ i, i ≤ caLn C → crU C f p i ≤ 20 * i := by
  intro i
  induction i with
  | zero => intro _; exact Nat.le_refl _
  | succ i ih =>
    intro h
    have h1 := ih (by omega)
    have h2 := hL.2 i (by omega)
    show crU C f p i + (if f i = p + 1 then caLd C i else 0) ≤ 20 * (i + 1)
    split <;> omega
theorem crU_eq {C : Cmp} (hL : GdL C) (f : Nat → Nat) (p : Nat) {a : Nat} : ∀ b, a ≤ b → b ≤ caLn C → crU C f p a ≤ crU C f p b ∧ (crU C f p b = crU C f p a ↔ ∀ j, a ≤ j → j < b → f j ≠ p + 1) := by
  intro b
  induction b with
  | zero => intro h _; obtain rfl : a = 0 := by omega
            exact ⟨Nat.le_refl _, fun _ j _ h => by omega, fun _ => rfl⟩
  | succ b ih =>
    intro h hb
    rcases Nat.lt_or_ge b a with h1 | h1
    · obtain rfl : a = b + 1 := by omega
      exact ⟨Nat.le_refl _, fun _ j _ h => by omega, fun _ => rfl⟩
    · obtain ⟨g1, g2⟩ := ih h1 (by omega)
      have h2 := hL.2 b (by omega)
      have e : crU C f p (b + 1) = crU C f p b + (if f b = p + 1 then caLd C b else 0) := rfl
      rw [e]
      by_cases hf : f b = p + 1
      · rw [if_pos hf]
        exact ⟨by omega, fun h9 => by omega, fun h9 => absurd hf (h9 b h1 (by omega))⟩
      · rw [if_neg hf, Nat.add_zero]
        refine ⟨g1, fun h9 j hj hj2 => ?_, fun h9 => g2.mpr (fun j hj hj2 => h9 j hj (by omega))⟩
        rcases Nat.lt_or_ge j b with h8 | h8
        · exact g2.mp h9 j hj h8
        · obtain rfl : j = b := by omega
          exact hf
theorem xOf_le {C : Cmp} (hL : GdL C) (c p : Nat) : xOf C c p ≤ 100 := by
  have h1 := crU_le hL (dgB (caN C + 1) (caLn C) c) p (caLn C) (Nat.le_refl _)
  have h2 := hL.1
  unfold xOf
  omega
theorem fzK_0 (C : Cmp) : fzK C 0 := by
  intro j j' _ _ h
  unfold dgB at h
  rw [Nat.zero_div, Nat.zero_mod] at h
  exact absurd rfl h
/-- the best of the codes below k: how many pairs, and who carries -/
def BsK (C : Cmp) (k : Nat) (v : Int32) (g : Nat → Int32) : Prop := (v = -1 ∧ ∀ c, c < k → ¬ fzK C c) ∨ ∃ c, c < k ∧ fzK C c ∧ (∀ c', c' < k → fzK C c' → prK C c' ≤ prK C c) ∧ (∀ c', c' < c → fzK C c' → prK C c' < prK C c) ∧ v = nI (prK C c) ∧ ∀ j, j < caLn C → g j = nI (dgB (caN C + 1) (caLn C) c j) - 1
section
variable {C : Cmp}
theorem BsK.uniq {k : Nat} {v w : Int32} {g g' : Nat → Int32} (h : BsK C k v g) (h' : BsK C k w g') (hk : 0 < k) : v = w ∧ ∀ j, j < caLn C → g j = g' j := by
  rcases h with ⟨_, h2⟩ | ⟨c, h1, h2, h3, h4, h5, h6⟩
  · exact absurd (fzK_0 C) (h2 0 hk)
  · rcases h' with ⟨_, g2⟩ | ⟨c', g1, g2, g3, g4, g5, g6⟩
    · exact absurd (fzK_0 C) (g2 0 hk)
    · have e1 : ¬ c < c' := fun h9 => by
        have := g4 c h9 h2
        have := h3 c' g1 g2
        omega
      have e2 : ¬ c' < c := fun h9 => by
        have := h4 c' h9 g2
        have := g3 c h1 h2
        omega
      obtain rfl : c = c' := by omega
      exact ⟨h5.trans g5.symm, fun j hj => (h6 j hj).trans (g6 j hj).symm⟩
theorem BsK.no {k k' : Nat} {v : Int32} {g : Nat → Int32} (h : BsK C k v g) (hk : k ≤ k') (hno : ∀ c, k ≤ c → c < k' → ¬ fzK C c) : BsK C k' v g := by
  have lt : ∀ c, c < k' → fzK C c → c < k := fun c hc hf => by
    rcases Nat.lt_or_ge c k with h8 | h8
    · exact h8
    · exact absurd hf (hno c h8 hc)
  rcases h with ⟨h1, h2⟩ | ⟨c, h1, h2, h3, h4⟩
  · exact Or.inl ⟨h1, fun c hc hf => h2 c (lt c hc hf) hf⟩
  · exact Or.inr ⟨c, by omega, h2, fun c' hc' hf => h3 c' (lt c' hc' hf) hf, h4⟩
theorem BsK.top (hC : Gp C) {k k' mx : Nat} {v : Int32} {g : Nat → Int32} (h : BsK C k v g) (hk : k ≤ k') (hv : v = nI mx) (hm : mx < 1000) (hp : ∀ c, prK C c ≤ mx) : BsK C k' v g := by
  rcases h with ⟨h1, h2⟩ | ⟨c, h1, h2, h3, h4, h5, h6⟩
  · rw [h1] at hv
    exact absurd hv (m1_ne (by omega))
  · have hpc : prK C c ≤ 36 := prC_le hC _
    have e : prK C c = mx := by
      rw [h5] at hv
      exact (nI_eq (by omega) (by omega)).mp hv
    exact Or.inr ⟨c, by omega, h2, fun c' _ _ => by rw [e]; exact hp c', h4, h5, h6⟩
theorem BsK.keep (hC : Gp C) {k : Nat} {v : Int32} {g : Nat → Int32} (h : BsK C k v g) (hle : nI (prK C k) ≤ v) : BsK C (k + 1) v g := by
  have hpk : prK C k ≤ 36 := prC_le hC _
  rcases h with ⟨h1, h2⟩ | ⟨c, h1, h2, h3, h4, h5, h6⟩
  · rw [h1] at hle
    exact absurd hle (nI_nm1 (by omega))
  · have hpc : prK C c ≤ 36 := prC_le hC _
    rw [h5] at hle
    have hle := (nI_leI (by omega) (by omega)).mp hle
    refine Or.inr ⟨c, by omega, h2, fun c' hc' hf => ?_, h4, h5, h6⟩
    rcases Nat.lt_or_ge c' k with h8 | h8
    · exact h3 c' h8 hf
    · obtain rfl : c' = k := by omega
      exact hle
theorem BsK.new (hC : Gp C) {k : Nat} {v : Int32} {g g' : Nat → Int32} (h : BsK C k v g) (hf : fzK C k) (hgt : ¬ nI (prK C k) ≤ v) (hg : ∀ j, j < caLn C → g' j = nI (dgB (caN C + 1) (caLn C) k j) - 1) : BsK C (k + 1) (nI (prK C k)) g' := by
  have hpk : prK C k ≤ 36 := prC_le hC _
  have lt : ∀ c', c' < k → fzK C c' → prK C c' < prK C k := by
    intro c' hc' hf'
    rcases h with ⟨h1, h2⟩ | ⟨c, h1, h2, h3, h4, h5, h6⟩
    · exact absurd hf' (h2 c' hc')
    · have hpc : prK C c ≤ 36 := prC_le hC _
      rw [h5, nI_leI (by omega) (by omega)] at hgt
      have := h3 c' hc' hf'
      omega
  refine Or.inr ⟨k, by omega, hf, fun c' hc' hf' => ?_, lt, rfl, hg⟩
  rcases Nat.lt_or_ge c' k with h8 | h8
  · have := lt c' h8 hf'
    omega
  · obtain rfl : c' = k := by omega
    exact Nat.le_refl _
theorem pwB (hC : Gp C) (hL : GdL C) : (caN C + 1) ^ caLn C ≤ 16807 := by
  have h1 : (caN C + 1) ^ caLn C ≤ 7 ^ caLn C := Nat.pow_le_pow_left (by have := hC.n; omega) _
  have h2 : 7 ^ caLn C ≤ 7 ^ 5 := Nat.pow_le_pow_right (by decide) hL.1
  have h3 : (7 : Nat) ^ 5 = 16807 := by decide
  omega
/-! the reference lays carriers by a code -/
theorem r_layCarriers {M : MS} (hM : RMp M C) (hC : Gp C) (hL : GdL C) (hn : M 0 276 = nI (caLn C)) (hd : ∀ k, k < caLn C → M 0 (68 + k) = nI (caLd C k)) {c : Nat} (hc : c < (caN C + 1) ^ caLn C) : ∃ M', f_X11_layCarriers M (nI c) = some (nI (oneI (fzK C c)), M') ∧ (∀ j, j ≠ 4 → j ≠ 23 → M' j = M j) ∧ (∀ p, p < 6 → M' 4 p = nI (xOf C c p)) ∧ ∀ j, j < caLn C → M' 23 j = nI (dgB (caN C + 1) (caLn C) c j) - 1 := by
  have hcn := hC.n
  have hl5 := hL.1
  have hpB := pwB hC hL
  obtain ⟨M1, e1, p1, p2⟩ := r_carryNothing M
  unfold f_X11_layCarriers
  rw [e1, Option.bind_some, ln276, q_rd (by decide) (by decide), Option.bind_some, p1 0 (by decide), hn, Option.bind_some]
  obtain ⟨f, ef⟩ : ∃ f, f = dgB (caN C + 1) (caLn C) c := ⟨_, rfl⟩
  have hfl : ∀ j, f j < caN C + 1 := fun j => by rw [ef]; exact dgB_lt (by omega)
  rw [← ef]
  have hlp := lp_dn (b := fun s => b_X11_layCarriers_20 s.1 s.2.1 s.2.2.1 s.2.2.2) (fun i s => i ≤ caLn C ∧ s.2.2.1 = nI i - 1 ∧ s.2.1 = nI (c / (caN C + 1) ^ (caLn C - i)) ∧ s.1 = nI (oneI (∀ j j', i ≤ j → j < j' → j' < caLn C → f j ≠ 0 → f j ≠ f j')) ∧ (∀ j, j ≠ 4 → j ≠ 23 → s.2.2.2 j = M j) ∧ (∀ p, p < 6 → ∃ v, s.2.2.2 4 p = nI v ∧ v + crU C f p i = crU C f p (caLn C)) ∧ ∀ j, i ≤ j → j < caLn C → s.2.2.2 23 j = nI (f j) - 1) (fun r => r.1 = nI (oneI (fzK C c)) ∧ (∀ j, j ≠ 4 → j ≠ 23 → r.2 j = M j) ∧ (∀ p, p < 6 → r.2 4 p = nI (xOf C c p)) ∧ ∀ j, j < caLn C → r.2 23 j = nI (f j) - 1) ?_ ?_ (F := FU) (i := caLn C) (s := (1, nI c, nI (caLn C) - 1, M1)) ⟨Nat.le_refl _, rfl, by rw [Nat.sub_self, Nat.pow_zero, Nat.div_one], by rw [oneI_t (fun j j' h1 h2 h3 => by omega)]; rfl, fun j h1 _ => p1 j h1, fun p hp => ⟨0, p2 p hp, Nat.zero_add _⟩, fun j h1 h2 => by omega⟩ (FU_gt (by omega))
  · obtain ⟨r, e, q1, q2, q3, q4⟩ := hlp
    rw [e, Option.bind_some]
    unfold k_X11_layCarriers_20
    rw [q1, q_zr (oneI_lt _), Option.bind_some]
    exact ⟨r.2, rfl, q2, q3, q4⟩
  · rintro ⟨s1, s2, s3, s4⟩ ⟨_, h1, h2, h3, h4, h5, h6⟩
    have h1 : s3 = nI 0 - 1 := h1
    subst h1
    refine ⟨(s1, s4), ?_, ?_, h4, fun p hp => ?_, fun j hj => h6 j (Nat.zero_le _) hj⟩
    · show b_X11_layCarriers_20 s1 s2 (nI 0 - 1) s4 = _
      unfold b_X11_layCarriers_20
      rw [if_pos (by decide)]
    · have h3 : s1 = _ := h3
      rw [h3]
      refine congrArg nI (oneI_c ?_)
      unfold fzK fzB
      rw [← ef]
      exact ⟨fun h j j' a b => h j j' (Nat.zero_le _) a b, fun h j j' _ a b => h j j' a b⟩
    · obtain ⟨v, v1, v2⟩ := h5 p hp
      have v1 : s4 4 p = nI v := v1
      show s4 4 p = nI (xOf C c p)
      rw [v1]
      unfold xOf
      rw [← ef, ← v2]
      rfl
  · rintro i ⟨s1, s2, s3, s4⟩ ⟨hi, h1, h2, h3, h4, h5, h6⟩
    have h1 : s3 = nI (i + 1) - 1 := h1
    rw [nI_pred] at h1
    have h2 : s2 = nI (c / (caN C + 1) ^ (caLn C - (i + 1))) := h2
    have h3 : s1 = nI (oneI (∀ j j', i + 1 ≤ j → j < j' → j' < caLn C → f j ≠ 0 → f j ≠ f j')) := h3
    subst h1 h2 h3
    have h4 : ∀ j, j ≠ 4 → j ≠ 23 → s4 j = M j := h4
    have h6 : ∀ j, i + 1 ≤ j → j < caLn C → s4 23 j = nI (f j) - 1 := h6
    have hMr : ∀ g : Nat → Int32, RMp (va_up s4 23 g) C := fun g => by unfold RMp; rw [up_n _ _ (by decide), h4 0 (by decide) (by decide)]; exact hM
    have hM4 : RMp s4 C := by unfold RMp; rw [h4 0 (by decide) (by decide)]; exact hM
    have hdl : c / (caN C + 1) ^ (caLn C - (i + 1)) < 20000 := Nat.lt_of_le_of_lt (Nat.div_le_self _ _) (by omega)
    have hfi : c / (caN C + 1) ^ (caLn C - (i + 1)) % (caN C + 1) = f i := by
      rw [ef]
      unfold dgB
      rw [show caLn C - 1 - i = caLn C - (i + 1) from by omega]
    have hdv : c / (caN C + 1) ^ (caLn C - (i + 1)) / (caN C + 1) = c / (caN C + 1) ^ (caLn C - i) := by
      rw [Nat.div_div_eq_div_mul, ← Nat.pow_succ, show (caLn C - (i + 1)).succ = caLn C - i from by omega]
    have hfl1 := hfl i
    refine Or.inl ?_
    dsimp only
    unfold b_X11_layCarriers_20
    rw [if_neg (nI_pos (by omega)), r_porters hM4, Option.bind_some, nI_1]
    unfold rmI dvI
    rw [if_neg (nI_ne0 (by omega) (by omega)), Option.bind_some, pk_rem (by omega) (by omega) (by omega), hfi, q_wrM (by omega) (by decide), Option.bind_some, r_porters (hMr _), Option.bind_some, nI_1, if_neg (nI_ne0 (by omega) (by omega)), Option.bind_some, pk_div (by omega) (by omega) (by omega), hdv, q_rd (by omega) (by decide), Option.bind_some, up_s, pk_us]
    have fr : ∀ j, j ≠ 4 → j ≠ 23 → va_up s4 23 (upd (s4 23) i (nI (f i) - 1)) j = M j := fun j a1 a2 => (up_n _ _ a2).trans (h4 j a1 a2)
    have c23 : ∀ j, i ≤ j → j < caLn C → upd (s4 23) i (nI (f i) - 1) j = nI (f j) - 1 := fun j a1 a2 => by
      by_cases h9 : j = i
      · subst h9; exact pk_us
      · rw [pk_un h9]; exact h6 j (by omega) a2
    by_cases hf0 : f i = 0
    · rw [hf0, if_pos (by decide), Option.bind_some, show nI i + -1 = nI i - 1 from (Int32.sub_eq_add_neg _ _).symm]
      refine ⟨_, rfl, by omega, rfl, rfl, congrArg nI (oneI_c ⟨fun h j j' a1 a2 a3 a4 => ?_, fun h j j' a1 => h j j' (by omega)⟩), ?_, fun p hp => ?_, ?_⟩
      · rcases Nat.lt_or_ge i j with h8 | h8
        · exact h j j' (by omega) a2 a3 a4
        · obtain rfl : j = i := by omega
          exact absurd hf0 a4
      · rw [← hf0]; exact fr
      · obtain ⟨v, v1, v2⟩ := h5 p hp
        have v1 : s4 4 p = nI v := v1
        refine ⟨v, v1, ?_⟩
        rw [← v2]
        show v + crU C f p i = v + (crU C f p i + (if f i = p + 1 then caLd C i else 0))
        rw [if_neg (by omega), Nat.add_zero]
      · rw [← hf0]
        intro j a1 a2
        show va_up s4 23 _ 23 j = _
        rw [up_s]
        exact c23 j a1 a2
    · obtain ⟨p, hp⟩ : ∃ p, f i = p + 1 := ⟨f i - 1, by omega⟩
      have hp6 : p < 6 := by omega
      obtain ⟨v, v1, v2⟩ := h5 p hp6
      have v1 : s4 4 p = nI v := v1
      have hcu := crU_eq hL f p (a := i + 1) (caLn C) (by omega) (Nat.le_refl _)
      have hcl := crU_le hL f p (caLn C) (Nat.le_refl _)
      have hv0 : v = 0 ↔ ∀ j, i + 1 ≤ j → j < caLn C → f j ≠ p + 1 := by
        rw [← hcu.2]
        omega
      have hld := hL.2 i (by omega)
      have hfp : nI (f i) - 1 = nI p := by rw [hp, nI_pred]
      have e4 : va_up s4 23 (upd (s4 23) i (nI p)) 4 = s4 4 := up_n _ _ (by decide)
      have fin : ∀ w, w = oneI (∀ j j', i ≤ j → j < j' → j' < caLn C → f j ≠ 0 → f j ≠ f j') → ∃ s', j_X11_layCarriers_86 (nI i) (va_up s4 23 (upd (s4 23) i (nI p))) (nI (c / (caN C + 1) ^ (caLn C - i))) (nI w) = some (Sum.inl s') ∧ (i ≤ caLn C ∧ s'.2.2.1 = nI i - 1 ∧ s'.2.1 = nI (c / (caN C + 1) ^ (caLn C - i)) ∧ s'.1 = nI (oneI (∀ j j', i ≤ j → j < j' → j' < caLn C → f j ≠ 0 → f j ≠ f j')) ∧ (∀ j, j ≠ 4 → j ≠ 23 → s'.2.2.2 j = M j) ∧ (∀ p, p < 6 → ∃ v, s'.2.2.2 4 p = nI v ∧ v + crU C f p i = crU C f p (caLn C)) ∧ ∀ j, i ≤ j → j < caLn C → s'.2.2.2 23 j = nI (f j) - 1) := by
        intro w hw
        unfold j_X11_layCarriers_86
        rw [q_rd (by omega) (by decide), Option.bind_some, up_s, pk_us, q_rd hp6 (by decide), Option.bind_some, e4, v1, ln68, nI_add, q_rd (by omega) (by decide), Option.bind_some, up_n _ _ (by decide), h4 0 (by decide) (by decide), hd i (by omega), nI_add, q_wrM hp6 (by decide), Option.bind_some, Option.bind_some, show nI i + -1 = nI i - 1 from (Int32.sub_eq_add_neg _ _).symm]
        refine ⟨_, rfl, by omega, rfl, rfl, by rw [hw], fun j a1 a2 => ?_, fun p' hp' => ?_, fun j a1 a2 => ?_⟩
        · rw [← hfp]
          exact (up_n _ _ a1).trans (fr j a1 a2)
        · show ∃ v', va_up (va_up s4 23 (upd (s4 23) i (nI p))) 4 _ 4 p' = nI v' ∧ _
          rw [up_s, e4]
          by_cases h9 : p' = p
          · subst h9
            refine ⟨v + caLd C i, pk_us, ?_⟩
            rw [← v2]
            show v + caLd C i + crU C f p' i = v + (crU C f p' i + (if f i = p' + 1 then caLd C i else 0))
            rw [if_pos hp]
            omega
          · obtain ⟨v', w1, w2⟩ := h5 p' hp'
            refine ⟨v', (pk_un h9).trans w1, ?_⟩
            rw [← w2]
            show v' + crU C f p' i = v' + (crU C f p' i + (if f i = p' + 1 then caLd C i else 0))
            rw [if_neg (by omega), Nat.add_zero]
        · show upd (s4 23) i (nI p) j = _
          rw [← hfp]
          exact c23 j a1 a2
      rw [hfp, if_neg (fun h9 => m1_ne (by omega) h9.symm)]
      by_cases hpf : ∀ j j', i + 1 ≤ j → j < j' → j' < caLn C → f j ≠ 0 → f j ≠ f j'
      · rw [oneI_t hpf, if_neg (by decide), Option.bind_some, q_rd hp6 (by decide), Option.bind_some, e4, v1]
        by_cases h0 : v = 0
        · rw [h0, if_pos (by rfl)]
          refine fin 1 (oneI_t ?_).symm
          intro j j' a1 a2 a3 a4
          rcases Nat.lt_or_ge i j with h8 | h8
          · exact hpf j j' (by omega) a2 a3 a4
          · obtain rfl : j = i := by omega
            rw [hp]
            exact fun h9 => hv0.mp h0 j' (by omega) a3 h9.symm
        · rw [if_neg (nI_ne0 (by omega) (by omega))]
          unfold j_X11_layCarriers_85
          refine fin 0 (oneI_f (fun h9 => h0 (hv0.mpr (fun j a1 a2 a3 => ?_)))).symm
          exact h9 i j (Nat.le_refl _) (by omega) a2 (by omega) (by omega)
      · rw [oneI_f hpf, if_pos (by decide)]
        unfold j_X11_layCarriers_85
        exact fin 0 (oneI_f (fun h9 => hpf (fun j j' a1 => h9 j j' (by omega)))).symm
theorem r_carriesB {M0 : MS} (hM : RMp M0 C) (hC : Gp C) (hL : GdL C) (hn : M0 0 276 = nI (caLn C)) (hd : ∀ k, k < caLn C → M0 0 (68 + k) = nI (caLd C k)) : ∃ v M', lp (fun s => b_X11_carries_65 (nI ((caN C + 1) ^ caLn C)) s.1 s.2.1 s.2.2) FU ((-1), 0, M0) = some (v, M') ∧ (∀ j, j < 4 → M' j = M0 j) ∧ BsK C ((caN C + 1) ^ caLn C) v (M' 24) := by
  have hcn := hC.n
  have hl5 := hL.1
  have hpB := pwB hC hL
  have hlp := lp_for (b := fun s => b_X11_carries_65 (nI ((caN C + 1) ^ caLn C)) s.1 s.2.1 s.2.2) ((caN C + 1) ^ caLn C) (fun k s => s.2.1 = nI k ∧ (∀ j, j < 4 → s.2.2 j = M0 j) ∧ BsK C k s.1 (s.2.2 24)) (fun r => (∀ j, j < 4 → r.2 j = M0 j) ∧ BsK C ((caN C + 1) ^ caLn C) r.1 (r.2 24)) ?_ ?_ (F := FU) (i := 0) (s := ((-1), 0, M0)) ⟨rfl, fun _ _ => rfl, Or.inl ⟨rfl, fun c h => by omega⟩⟩ (Nat.zero_le _) (FU_gt (by omega))
  · obtain ⟨r, e, q1, q2⟩ := hlp
    exact ⟨r.1, r.2, e, q1, q2⟩
  · rintro ⟨s1, s2, s3⟩ ⟨h0, h1, h2⟩
    have h0 : s2 = nI ((caN C + 1) ^ caLn C) := h0
    subst h0
    refine ⟨(s1, s3), ?_, h1, h2⟩
    show b_X11_carries_65 _ s1 (nI ((caN C + 1) ^ caLn C)) s3 = _
    unfold b_X11_carries_65
    rw [if_pos (nI_le (Nat.le_refl _) (by omega))]
  · rintro k ⟨s1, s2, s3⟩ hk ⟨h0, h1, h2⟩
    have h0 : s2 = nI k := h0
    subst h0
    have h1 : ∀ j, j < 4 → s3 j = M0 j := h1
    have h2 : BsK C k s1 (s3 24) := h2
    refine Or.inl ?_
    show ∃ s', b_X11_carries_65 (nI ((caN C + 1) ^ caLn C)) s1 (nI k) s3 = _ ∧ _
    have hM3 : RMp s3 C := by unfold RMp; rw [h1 0 (by decide)]; exact hM
    obtain ⟨M4, e4, p1, p2, p3⟩ := r_layCarriers hM3 hC hL (by rw [h1 0 (by decide)]; exact hn) (fun k hk => by rw [h1 0 (by decide)]; exact hd k hk) hk
    have hM4 : RMp M4 C := by unfold RMp; rw [p1 0 (by decide) (by decide)]; exact hM3
    unfold b_X11_carries_65
    rw [i_le (by omega) (by omega), if_neg (by omega), e4, q_bi2]
    have h24 : M4 24 = s3 24 := p1 24 (by decide) (by decide)
    by_cases hf : fzK C k
    · rw [oneI_t hf, if_neg (by decide), r_pairsNow hM4 hC (x := xOf C k) (fun p hp => ⟨p2 p (by omega), by have := xOf_le hL k p; omega⟩), Option.bind_some]
      by_cases hle : nI (prC C (xOf C k)) ≤ s1
      · rw [if_pos hle, Option.bind_some, nI_1]
        refine ⟨_, rfl, rfl, fun j hj => (p1 j (by omega) (by omega)).trans (h1 j hj), ?_⟩
        show BsK C (k + 1) s1 (M4 24)
        rw [h24]
        exact h2.keep hC hle
      · rw [if_neg hle]
        have hlp := lp_for (b := fun s => b_X11_carries_98 s.1 s.2) 5 (fun i s => s.1 = nI i ∧ (∀ j, j ≠ 24 → s.2 j = M4 j) ∧ ∀ j, j < i → s.2 24 j = M4 23 j) (fun r => (∀ j, j ≠ 24 → r j = M4 j) ∧ ∀ j, j < 5 → r 24 j = M4 23 j) ?_ ?_ (F := FU) (i := 0) (s := (0, M4)) ⟨rfl, fun _ _ => rfl, fun j h => by omega⟩ (Nat.zero_le _) (FU_gt (by decide))
        · obtain ⟨M5, e5, g1, g2⟩ := hlp
          rw [e5, Option.bind_some]
          unfold k_X11_carries_98
          rw [Option.bind_some, nI_1]
          refine ⟨_, rfl, rfl, fun j hj => (g1 j (by omega)).trans ((p1 j (by omega) (by omega)).trans (h1 j hj)), ?_⟩
          exact h2.new hC hf hle (fun j hj => by show M5 24 j = _; rw [g2 j (by omega)]; exact p3 j hj)
        · rintro ⟨y1, y2⟩ ⟨k0, k1⟩
          have k0 : y1 = nI 5 := k0
          subst k0
          refine ⟨y2, ?_, k1⟩
          show b_X11_carries_98 (nI 5) y2 = _
          unfold b_X11_carries_98
          rw [if_pos (by decide)]
        · rintro i ⟨y1, y2⟩ hi ⟨k0, k1, k2⟩
          have k0 : y1 = nI i := k0
          subst k0
          have k5 : ∀ j, j ≠ 24 → y2 j = M4 j := k1
          refine Or.inl ⟨(nI (i + 1), va_up y2 24 (upd (y2 24) i (y2 23 i))), ?_, rfl, fun j a1 => (up_n _ _ a1).trans (k5 j a1), fun j hj => ?_⟩
          · show b_X11_carries_98 (nI i) y2 = _
            unfold b_X11_carries_98
            rw [ln5, i_le (by omega) (by omega), if_neg (by omega), q_rd hi (by decide), Option.bind_some, q_wrM hi (by decide), Option.bind_some, Option.bind_some, nI_1]
          · show va_up y2 24 (upd (y2 24) i (y2 23 i)) 24 j = M4 23 j
            rw [up_s]
            by_cases h9 : j = i
            · subst h9; rw [pk_us, k5 23 (by decide)]
            · rw [pk_un h9]; exact k2 j (by omega)
    · rw [oneI_f hf, if_pos (by decide), Option.bind_some, nI_1]
      refine ⟨_, rfl, rfl, fun j hj => (p1 j (by omega) (by omega)).trans (h1 j hj), ?_⟩
      show BsK C (k + 1) s1 (M4 24)
      rw [h24]
      refine h2.no (by omega) (fun c a1 a2 => ?_)
      obtain rfl : c = k := by omega
      exact hf
theorem r_codes {M : MS} (hM : RMp M C) (hC : Gp C) (hL : GdL C) (hn : M 0 276 = nI (caLn C)) : lp (fun s => b_X11_carries_33 M s.1 s.2) FU (1, 0) = some (nI ((caN C + 1) ^ caLn C)) := by
  have hl5 := hL.1
  refine lp_seq (b := fun s => b_X11_carries_33 M s.1 s.2) (caLn C) (fun k => (nI ((caN C + 1) ^ k), nI k)) (nI ((caN C + 1) ^ caLn C)) ?_ ?_ (F := FU) (FU_gt (by omega))
  · intro i hi
    show b_X11_carries_33 M (nI ((caN C + 1) ^ i)) (nI i) = _
    unfold b_X11_carries_33
    rw [ln276, q_rd (by decide) (by decide), Option.bind_some, hn, i_le (by omega) (by omega), if_neg (by omega), r_porters hM, Option.bind_some, nI_1, pk_mul, Option.bind_some, Option.bind_some, nI_1, ← Nat.pow_succ]
  · show b_X11_carries_33 M (nI ((caN C + 1) ^ caLn C)) (nI (caLn C)) = _
    unfold b_X11_carries_33
    rw [ln276, q_rd (by decide) (by decide), Option.bind_some, hn, if_pos (nI_le (Nat.le_refl _) (by omega))]
end
