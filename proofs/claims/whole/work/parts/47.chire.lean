/-! the class' planner: what is useful, the least hires -/
def Us (C : Cmp) (lk b L t s : Nat) : Prop := ∃ c, Pt C lk b L t s c
theorem Us.iff {C : Cmp} {lk b L t s : Nat} (ht : t < L) : Us C lk b L t s ↔ Us C lk b L (t + 1) s ∨ ∃ x, mayX C lk x s t ∧ t + tmS C x ≤ L ∧ Us C lk b L (t + tmS C x) (s ^^^ x) := by
  constructor
  · rintro ⟨c, h⟩
    rcases h.inv with ⟨h1, _⟩ | ⟨_, h1⟩ | ⟨_, x, c', h1, h2, h3, _⟩
    · omega
    · exact Or.inl ⟨c, h1⟩
    · exact Or.inr ⟨x, h1, h2, c', h3⟩
  · rintro (⟨c, h⟩ | ⟨x, h1, h2, c, h3⟩)
    · exact ⟨c, h.wait ht⟩
    · exact ⟨_, h3.cross ht h1 h2⟩
theorem Us.fin {C : Cmp} {lk b L s : Nat} : Us C lk b L L s ↔ ov b s := by
  constructor
  · rintro ⟨c, h⟩
    rcases h.inv with ⟨_, h1, _⟩ | ⟨h1, _⟩ | ⟨h1, _⟩
    · exact h1
    · omega
    · omega
  · exact fun h => ⟨0, Pt.fin h⟩
section
variable {S0 : CS} {C : Cmp} {lk b L : Nat}
/-- the rows of the planner behind keepUseful -/
def kuB (C : Cmp) (lk b L : Nat) (S : CS) : Prop := ∀ t, t ≤ L → ∀ s, s < 64 → (bt (S.2.1 36 t) s = true ↔ Rch C lk t s ∧ Us C lk b L t s)
def kuN (C : Cmp) (lk b L t i s : Nat) : Prop := (Rch C lk (t + 1) s ∧ Us C lk b L (t + 1) s) ∨ ∃ j, j < i ∧ (opn C lk (sm j) t ∧ t + tmS C (sm j) ≤ L) ∧ oneS (sm j) s ∧ Rch C lk (t + tmS C (sm j)) (s ^^^ sm j) ∧ Us C lk b L (t + tmS C (sm j)) (s ^^^ sm j)
theorem kuN.fin (hC : Gp C) (hL : L ≤ 240) {t s : Nat} (ht : t < L) (h : Rch C lk t s) : kuN C lk b L t 21 s ↔ Us C lk b L t s := by
  rw [Us.iff ht]
  constructor
  · rintro (h1 | ⟨j, j1, j2, j3, j4, j5⟩)
    · exact Or.inl h1.2
    · exact Or.inr ⟨sm j, mayX_opn.mpr ⟨j2.1, j3, by omega⟩, j2.2, j5⟩
  · rintro (h1 | ⟨x, h1, h2, h3⟩)
    · exact Or.inl ⟨h.wait (by omega), h1⟩
    · obtain ⟨j, j1, j2⟩ := q_sm3 x (Nat.lt_of_lt_of_le h1.2.1 (pw_le hC.n)) h1.1 (okS_pcn (mayX_opn.mp h1).1.2.2.2)
      subst j2
      exact Or.inr ⟨j, j1, ⟨(mayX_opn.mp h1).1, h2⟩, h1.2.2.1, h.cross (by omega) h1, h3⟩
theorem c_keepUseful (hC : Gp C) (hP : PlS S0 C lk) (hL : L ≤ 240) (hm : S0.1 4301 0 = nI L) (hR : ∀ t, t ≤ L → ∀ s, s < 64 → (bt (S0.2.1 36 t) s = true ↔ Rch C lk t s)) {z : Int64} (hz : ∀ s, s < 64 → (bt z s = true ↔ ov b s)) : ∃ S', f_X7_keepUseful_33 S0 z = some S' ∧ PF S0 S' ∧ S'.2.1 35 = S0.2.1 35 ∧ S'.1 = S0.1 ∧ kuB C lk b L S' := by
  unfold f_X7_keepUseful_33
  rw [hm, q_rdJ (by omega) (by decide), Option.bind_some, q_wrJ (by omega) (by decide), Option.bind_some]
  have hm1 : (siJ S0 36 (vp_updL (S0.2.1 36) L (S0.2.1 36 L &&& z))).1 4301 0 = nI L := hm
  rw [hm1, Option.bind_some]
  have hlp := lp_dn (b := fun q => b_X7_keepUseful_33_20 q.1 q.2) (fun i q => i ≤ L ∧ q.1 = nI i - 1 ∧ PF S0 q.2 ∧ q.2.2.1 35 = S0.2.1 35 ∧ q.2.1 = S0.1 ∧ (∀ t, t ≤ L → ∀ s, s < 64 → (bt (q.2.2.1 36 t) s = true ↔ Rch C lk t s ∧ (i ≤ t → Us C lk b L t s)))) (fun r => PF S0 r ∧ r.2.1 35 = S0.2.1 35 ∧ r.1 = S0.1 ∧ kuB C lk b L r) ?_ ?_ (F := FU) (i := L) (s := (nI L - 1, siJ S0 36 (vp_updL (S0.2.1 36) L (S0.2.1 36 L &&& z)))) ⟨Nat.le_refl _, rfl, (PF.rf S0).j _ _, siJ_n S0 _ (by decide), rfl, fun t ht s hs => ?_⟩ (FU_gt (by omega))
  · obtain ⟨r, e, q⟩ := hlp
    exact ⟨r, by rw [e]; rfl, q⟩
  · rintro ⟨q1, q2⟩ ⟨_, h0, h1, h2, h3, h4⟩
    have h0 : q1 = nI 0 - 1 := h0
    subst h0
    refine ⟨q2, ?_, h1, h2, h3, fun t ht s hs => (h4 t ht s hs).trans ⟨fun h => ⟨h.1, h.2 (Nat.zero_le _)⟩, fun h => ⟨h.1, fun _ => h.2⟩⟩⟩
    show b_X7_keepUseful_33_20 (nI 0 - 1) q2 = _
    unfold b_X7_keepUseful_33_20
    rw [if_pos (by decide)]
  · rintro i ⟨q1, q2⟩ ⟨hi, h0, h1, h2, h3, h4⟩
    have h0 : q1 = nI (i + 1) - 1 := h0
    rw [nI_pred] at h0
    subst h0
    have h1 : PF S0 q2 := h1
    have h2 : q2.2.1 35 = S0.2.1 35 := h2
    have h3 : q2.1 = S0.1 := h3
    have h4 : ∀ t, t ≤ L → ∀ s, s < 64 → (bt (q2.2.1 36 t) s = true ↔ Rch C lk t s ∧ (i + 1 ≤ t → Us C lk b L t s)) := h4
    have hP2 : PlS q2 C lk := hP.go h2 (by rw [h3]) (by rw [h3])
    refine Or.inl ?_
    show ∃ s', b_X7_keepUseful_33_20 (nI i) q2 = _ ∧ _
    unfold b_X7_keepUseful_33_20
    rw [if_neg (nI_pos (by omega)), nI_1, q_rdJ (by omega) (by decide), Option.bind_some]
    have hlp := lp_for (b := fun q => b_X7_keepUseful_33_47 (nI i) q2 q.1 q.2) 21 (fun j q => q.2 = nI j ∧ ∀ s, s < 64 → (bt q.1 s = true ↔ kuN C lk b L i j s)) (fun y => ∀ s, s < 64 → (bt y s = true ↔ kuN C lk b L i 21 s)) ?_ ?_ (F := FU) (i := 0) (s := (q2.2.1 36 (i + 1), 0)) ⟨rfl, fun s hs => (h4 (i + 1) (by omega) s hs).trans ⟨fun h => Or.inl ⟨h.1, h.2 (Nat.le_refl _)⟩, fun h => h.elim (fun h => ⟨h.1, fun _ => h.2⟩) (fun ⟨j, h, _⟩ => by omega)⟩⟩ (Nat.zero_le _) (FU_gt (by decide))
    · obtain ⟨y, e, q⟩ := hlp
      rw [e, Option.bind_some]
      unfold k_X7_keepUseful_33_47
      rw [q_rdJ (by omega) (by decide), Option.bind_some, q_wrJ (by omega) (by decide), Option.bind_some, Option.bind_some]
      refine ⟨_, rfl, by omega, (Int32.sub_eq_add_neg _ _).symm, h1.j _ _, (siJ_n q2 _ (by decide)).trans h2, h3, fun t ht s hs => ?_⟩
      show bt ((siJ q2 36 (vp_updL (q2.2.1 36) i (q2.2.1 36 i &&& y))).2.1 36 t) s = true ↔ _
      rw [siJ_s]
      by_cases h5 : t = i
      · subst h5
        rw [pk_uLs, bt_and, Bool.and_eq_true, h4 t ht s hs, q s hs]
        constructor
        · rintro ⟨⟨a, _⟩, c⟩
          exact ⟨a, fun _ => (kuN.fin hC hL (by omega) a).mp c⟩
        · rintro ⟨a, c⟩
          exact ⟨⟨a, fun h => by omega⟩, (kuN.fin hC hL (by omega) a).mpr (c (Nat.le_refl _))⟩
      · rw [pk_uLn h5, h4 t ht s hs]
        exact ⟨fun h => ⟨h.1, fun h9 => h.2 (by omega)⟩, fun h => ⟨h.1, fun h9 => h.2 (by omega)⟩⟩
    · rintro ⟨y1, y2⟩ ⟨k0, k1⟩
      have k0 : y2 = nI 21 := k0
      subst k0
      refine ⟨y1, ?_, k1⟩
      show b_X7_keepUseful_33_47 (nI i) q2 y1 (nI 21) = _
      unfold b_X7_keepUseful_33_47
      rw [if_pos (by decide)]
    · rintro j ⟨y1, y2⟩ hj ⟨k0, k1⟩
      have k0 : y2 = nI j := k0
      subst k0
      have k1 : ∀ s, s < 64 → (bt y1 s = true ↔ kuN C lk b L i j s) := k1
      refine Or.inl ?_
      show ∃ s', b_X7_keepUseful_33_47 (nI i) q2 y1 (nI j) = _ ∧ _
      obtain ⟨m1, m2, m3⟩ := q_sm2 j hj
      have hT := tmS_le hC (sm j)
      unfold b_X7_keepUseful_33_47
      rw [ln21, i_le (by omega) (by omega), if_neg (by omega), c_sm hj, Option.bind_some, show q2.1 4301 0 = nI L from by rw [h3]; exact hm, c_mayCross hC hP2 hj (by omega) hL, Option.bind_some]
      by_cases hmm : opn C lk (sm j) i ∧ i + tmS C (sm j) ≤ L
      · have hpos : 1 ≤ tmS C (sm j) := tmS_pos hC m1 hmm.1.2.1
        rw [oneI_t hmm, if_neg (by decide), q_rd m2 (by decide), Option.bind_some, (hP2.2 j hj).1, nI_add, q_rdJ (by omega) (by decide), Option.bind_some]
        obtain ⟨w, ew, hw⟩ := c_crossed (q2.2.1 36 (i + tmS C (sm j))) m2
        rw [ew, Option.bind_some, Option.bind_some, Option.bind_some, nI_1]
        refine ⟨_, rfl, rfl, fun s hs => ?_⟩
        show bt (y1 ||| w) s = true ↔ _
        rw [bt_or, Bool.or_eq_true, k1 s hs, hw s hs, h4 _ (by omega) _ (lt64_xor hs m2)]
        constructor
        · rintro ((h | ⟨j', a, c⟩) | ⟨⟨a, c⟩, d⟩)
          · exact Or.inl h
          · exact Or.inr ⟨j', by omega, c⟩
          · exact Or.inr ⟨j, by omega, hmm, d, a, c (by omega)⟩
        · rintro (h | ⟨j', a, c⟩)
          · exact Or.inl (Or.inl h)
          · rcases Nat.lt_or_ge j' j with h8 | h8
            · exact Or.inl (Or.inr ⟨j', h8, c⟩)
            · obtain rfl : j' = j := by omega
              obtain ⟨_, c2, c3, c4⟩ := c
              exact Or.inr ⟨⟨c3, fun _ => c4⟩, c2⟩
      · rw [oneI_f hmm, if_pos (by decide), Option.bind_some, nI_1]
        refine ⟨_, rfl, rfl, fun s hs => (k1 s hs).trans ?_⟩
        constructor
        · rintro (h | ⟨j', a, c⟩)
          · exact Or.inl h
          · exact Or.inr ⟨j', by omega, c⟩
        · rintro (h | ⟨j', a, c⟩)
          · exact Or.inl h
          · rcases Nat.lt_or_ge j' j with h8 | h8
            · exact Or.inr ⟨j', h8, c⟩
            · obtain rfl : j' = j := by omega
              exact absurd c.1 hmm
  · show bt ((siJ S0 36 (vp_updL (S0.2.1 36) L (S0.2.1 36 L &&& z))).2.1 36 t) s = true ↔ _
    rw [siJ_s]
    by_cases h5 : t = L
    · subst h5
      rw [pk_uLs, bt_and, Bool.and_eq_true, hR t ht s hs, hz s hs, ← Us.fin (C := C) (lk := lk)]
      exact ⟨fun h => ⟨h.1, fun _ => h.2⟩, fun h => ⟨h.1, h.2 (Nat.le_refl _)⟩⟩
    · rw [pk_uLn h5, hR t ht s hs]
      exact ⟨fun h => ⟨h, fun h9 => by omega⟩, fun h => h.1⟩
/-! hires -/
def hcV (C : Cmp) (lk b L : Nat) (S : CS) (t s : Nat) : Prop := Rch C lk t s → Us C lk b L t s → ∃ v, S.1 37 (64 * t + s) = nI v ∧ Pt C lk b L t s v ∧ ∀ c, Pt C lk b L t s c → v ≤ c
theorem c_hireFrom (hC : Gp C) (hL : L ≤ 240) {S : CS} (hB : kuB C lk b L S) {t s : Nat} (ht : t ≤ L) (hs : s < 64) (hV : hcV C lk b L S t s) (hr : Rch C lk t s) : ∃ v, f_X7_hireFrom_33 S (nI t) (nI s) = some (nI v) ∧ v ≤ 268435456 ∧ LsW 268435456 (Pt C lk b L t s) v := by
  have hb := hB t ht s hs
  unfold f_X7_hireFrom_33
  rw [q_rdJ (by omega) (by decide), Option.bind_some, i_tst hs]
  by_cases h1 : bt (S.2.1 36 t) s = false
  · rw [if_pos h1]
    refine ⟨268435456, rfl, by decide, LsW.none (fun c hc => ?_) (Nat.le_refl _)⟩
    rw [hb.mpr ⟨hr, c, hc⟩] at h1
    cases h1
  · rw [if_neg h1]
    have h2 : bt (S.2.1 36 t) s = true := by simpa using h1
    obtain ⟨v, v1, v2, v3⟩ := hV hr (hb.mp h2).2
    have hle := (v2.le hC).2
    refine ⟨v, ?_, by omega, fun _ => ⟨v2, v3⟩, fun h => absurd ⟨v, v2⟩ h⟩
    rw [ln64, pk_mul, nI_add, Nat.mul_comm t 64, q_rd (by omega) (by decide), Option.bind_some, v1]
theorem c_hireBy (hC : Gp C) (hL : L ≤ 240) {S : CS} (hP : PlS S C lk) (hB : kuB C lk b L S) {i t s : Nat} (hi : i < 21) (hs : s < 64) (ht : t + tmS C (sm i) ≤ L) (hV : hcV C lk b L S (t + tmS C (sm i)) (s ^^^ sm i)) (hr : Rch C lk (t + tmS C (sm i)) (s ^^^ sm i)) : ∃ v, f_X7_hireBy_33 S (nI (sm i)) (nI t) (nI s) = some (nI v) ∧ v ≤ 268437456 ∧ LsW 268435456 (fun c => ∃ c', Pt C lk b L (t + tmS C (sm i)) (s ^^^ sm i) c' ∧ c = c' + hrS C (sm i)) v := by
  obtain ⟨m1, m2, m3⟩ := q_sm2 i hi
  have hh := hrS_le hC (sm i)
  obtain ⟨v, v1, v2, v3⟩ := c_hireFrom hC hL hB ht (lt64_xor hs m2) hV hr
  unfold f_X7_hireBy_33
  rw [q_rd m2 (by decide), Option.bind_some, q_rd m2 (by decide), Option.bind_some, (hP.2 i hi).1, (hP.2 i hi).2, nI_add, q_xor, v1, Option.bind_some, nI_add]
  exact ⟨hrS C (sm i) + v, rfl, by omega, by rw [Nat.add_comm (hrS C (sm i)) v]; exact v3.add _⟩
/-- the ways on by one of the first i small sets, or by waiting -/
def lhN (C : Cmp) (lk b L t s i c : Nat) : Prop := Pt C lk b L (t + 1) s c ∨ ∃ j, j < i ∧ mayX C lk (sm j) s t ∧ t + tmS C (sm j) ≤ L ∧ ∃ c', Pt C lk b L (t + tmS C (sm j)) (s ^^^ sm j) c' ∧ c = c' + hrS C (sm j)
theorem lhN.pt {t s i c : Nat} (ht : t < L) (h : lhN C lk b L t s i c) : Pt C lk b L t s c := by
  rcases h with h | ⟨j, _, h1, h2, c', h3, rfl⟩
  · exact h.wait ht
  · exact h3.cross ht h1 h2
theorem lhN.fin (hC : Gp C) {t s c : Nat} (ht : t < L) : lhN C lk b L t s 21 c ↔ Pt C lk b L t s c := by
  refine ⟨lhN.pt ht, fun h => ?_⟩
  rcases h.inv with ⟨h1, _⟩ | ⟨_, h1⟩ | ⟨_, x, c', h1, h2, h3, h4⟩
  · omega
  · exact Or.inl h1
  · obtain ⟨j, j1, j2⟩ := q_sm3 x (Nat.lt_of_lt_of_le h1.2.1 (pw_le hC.n)) h1.1 (okS_pcn (mayX_opn.mp h1).1.2.2.2)
    subst j2
    exact Or.inr ⟨j, j1, h1, h2, c', h3, h4⟩
theorem c_isOnOneSide {x s : Nat} (hx : x < 64) (hs : s < 64) : f_X10_isOnOneSide (nI x) (nI s) = some (nI (oneI (oneS x s))) := by
  have h := Nat.lt_of_le_of_lt (Nat.and_le_left (n := x) (m := s)) hx
  unfold f_X10_isOnOneSide
  rw [q_and, ln0, i_eq (by omega) (by omega), i_eq (by omega) (by omega)]
  by_cases h1 : x &&& s = 0
  · rw [if_pos h1, oneI_t (show oneS x s from Or.inl h1)]; rfl
  · rw [if_neg h1]
    by_cases h2 : x &&& s = x
    · rw [if_pos h2, oneI_t (show oneS x s from Or.inr h2)]; rfl
    · rw [if_neg h2, oneI_f (fun h => h.elim h1 h2)]
theorem c_leastHire (hC : Gp C) (hL : L ≤ 240) {S : CS} (hm : S.1 4301 0 = nI L) (hP : PlS S C lk) (hB : kuB C lk b L S) {t s : Nat} (ht : t < L) (hs : s < 64) (hr : Rch C lk t s) (hV : ∀ t', t < t' → t' ≤ L → ∀ s', s' < 64 → hcV C lk b L S t' s') : ∃ v, f_X7_leastHire_33 S (nI t) (nI s) = some (nI v) ∧ LsW 268435456 (Pt C lk b L t s) v := by
  obtain ⟨v0, a1, a2, a3⟩ := c_hireFrom hC hL hB (t := t + 1) (by omega) hs (hV _ (by omega) (by omega) s hs) (hr.wait (by omega))
  have hbd : ∀ c, Pt C lk b L t s c → c < 268435456 := fun c hc => by
    have := (hc.le hC).2
    omega
  unfold f_X7_leastHire_33
  rw [nI_1, a1, Option.bind_some]
  have hlp := lp_for (b := fun q => b_X7_leastHire_33_22 S (nI t) (nI s) q.1 q.2) 21 (fun i q => q.2 = nI i ∧ ∃ v, q.1 = nI v ∧ v ≤ 268437456 ∧ LsW 268435456 (lhN C lk b L t s i) v) (fun r => ∃ v, r = nI v ∧ LsW 268435456 (Pt C lk b L t s) v) ?_ ?_ (F := FU) (i := 0) (s := (nI v0, 0)) ⟨rfl, v0, rfl, by omega, a3.congr (fun c => ⟨Or.inl, fun h => h.elim id (fun ⟨j, h, _⟩ => by omega)⟩)⟩ (Nat.zero_le _) (FU_gt (by decide))
  · obtain ⟨r, e, v, e2, q⟩ := hlp
    exact ⟨v, by rw [e, e2]; rfl, q⟩
  · rintro ⟨q1, q2⟩ ⟨h0, v, h1, h2, h3⟩
    have h0 : q2 = nI 21 := h0
    have h1 : q1 = nI v := h1
    subst h0 h1
    refine ⟨nI v, ?_, v, rfl, h3.congr (fun c => lhN.fin hC ht)⟩
    show b_X7_leastHire_33_22 S (nI t) (nI s) (nI v) (nI 21) = _
    unfold b_X7_leastHire_33_22
    rw [if_pos (by decide)]
  · rintro i ⟨q1, q2⟩ hi ⟨h0, v, h1, h2, h3⟩
    have h0 : q2 = nI i := h0
    have h1 : q1 = nI v := h1
    subst h0 h1
    refine Or.inl ?_
    show ∃ s', b_X7_leastHire_33_22 S (nI t) (nI s) (nI v) (nI i) = _ ∧ _
    obtain ⟨m1, m2, m3⟩ := q_sm2 i hi
    have skip : ¬ (mayX C lk (sm i) s t ∧ t + tmS C (sm i) ≤ L) → LsW 268435456 (lhN C lk b L t s (i + 1)) v := by
      intro hno
      refine h3.congr (fun c => ⟨fun h => h.imp id (fun ⟨j, a, c⟩ => ⟨j, by omega, c⟩), fun h => h.imp id (fun ⟨j, a, c⟩ => ?_)⟩)
      rcases Nat.lt_or_ge j i with h8 | h8
      · exact ⟨j, h8, c⟩
      · obtain rfl : j = i := by omega
        exact absurd ⟨c.1, c.2.1⟩ hno
    unfold b_X7_leastHire_33_22
    rw [ln21, i_le (by omega) (by omega), if_neg (by omega), c_sm hi, Option.bind_some, hm, c_mayCross hC hP hi (by omega) hL, Option.bind_some]
    by_cases hmm : opn C lk (sm i) t ∧ t + tmS C (sm i) ≤ L
    · have hpos : 1 ≤ tmS C (sm i) := tmS_pos hC m1 hmm.1.2.1
      rw [oneI_t hmm, if_neg (by decide), c_isOnOneSide m2 hs, Option.bind_some]
      by_cases ho : oneS (sm i) s
      · have hmay : mayX C lk (sm i) s t := mayX_opn.mpr ⟨hmm.1, ho, by omega⟩
        rw [oneI_t ho, if_neg (by decide)]
        obtain ⟨w, w1, w2, w3⟩ := c_hireBy hC hL hP hB hi hs hmm.2 (hV _ (by omega) hmm.2 _ (lt64_xor hs m2)) (hr.cross (by omega) hmay)
        rw [w1, Option.bind_some, i_lt (by omega) (by omega), Option.bind_some, Option.bind_some, nI_1]
        have h4 := h3.or w3 (fun c hc => hc.elim (fun h => hbd c (h.pt ht)) (fun ⟨c', g1, g2⟩ => hbd c (by rw [g2]; exact g1.cross ht hmay hmm.2)))
        refine ⟨_, rfl, rfl, (if w < v then w else v), by split <;> rfl, by split <;> omega, h4.congr (fun c => ⟨?_, ?_⟩)⟩
        · rintro ((h | ⟨j, a, c⟩) | h)
          · exact Or.inl h
          · exact Or.inr ⟨j, by omega, c⟩
          · exact Or.inr ⟨i, by omega, hmay, hmm.2, h⟩
        · rintro (h | ⟨j, a, c⟩)
          · exact Or.inl (Or.inl h)
          · rcases Nat.lt_or_ge j i with h8 | h8
            · exact Or.inl (Or.inr ⟨j, h8, c⟩)
            · obtain rfl : j = i := by omega
              exact Or.inr c.2.2
      · rw [oneI_f ho, if_pos (by decide), Option.bind_some, nI_1]
        exact ⟨_, rfl, rfl, v, rfl, h2, skip (fun h => ho h.1.2.2.1)⟩
    · rw [oneI_f hmm, if_pos (by decide), Option.bind_some, nI_1]
      exact ⟨_, rfl, rfl, v, rfl, h2, skip (fun h => hmm ⟨(mayX_opn.mp h.1).1, h.2⟩)⟩
/-- what findHires keeps -/
def fhK (S0 S : CS) : Prop := PF S0 S ∧ S.2.1 = S0.2.1 ∧ ∀ j, j ≠ 37 → j ≠ 4302 → S.1 j = S0.1 j
theorem fhK.w {S : CS} (h : fhK S0 S) (f : Nat → Int32) : fhK S0 (siI S 37 f) := ⟨h.1.i _ (by decide), h.2.1, fun j h1 h2 => (siI_n S f h1).trans (h.2.2 j h1 h2)⟩
theorem fhK.ku {S : CS} (h : fhK S0 S) (g : kuB C lk b L S0) : kuB C lk b L S := by
  unfold kuB
  rw [h.2.1]
  exact g
theorem fhK.pl {S : CS} (h : fhK S0 S) (g : PlS S0 C lk) : PlS S C lk := g.go (by rw [h.2.1]) (h.2.2 38 (by decide) (by decide)) (h.2.2 39 (by decide) (by decide))
theorem c_findHires (hC : Gp C) (hL : L ≤ 240) (hm : S0.1 4301 0 = nI L) (hP : PlS S0 C lk) (hB : kuB C lk b L S0) (hu : Us C lk b L 0 0) : ∃ S', f_X7_findHires_33 S0 = some S' ∧ fhK S0 S' ∧ (∀ t, t ≤ L → ∀ s, s < 64 → hcV C lk b L S' t s) ∧ ∃ v, S'.1 4302 0 = nI v ∧ Pt C lk b L 0 0 v ∧ ∀ c, Pt C lk b L 0 0 c → v ≤ c := by
  unfold f_X7_findHires_33
  rw [hm, Option.bind_some]
  have hlp := lp_dn (b := fun q => b_X7_findHires_33_5 q.1 q.2) (fun i q => i ≤ L + 1 ∧ q.1 = nI i - 1 ∧ fhK S0 q.2 ∧ ∀ t, i ≤ t → t ≤ L → ∀ s, s < 64 → hcV C lk b L q.2 t s) (fun r => fhK S0 r ∧ ∀ t, t ≤ L → ∀ s, s < 64 → hcV C lk b L r t s) ?_ ?_ (F := FU) (i := L + 1) (s := (nI L, S0)) ⟨Nat.le_refl _, (nI_pred L).symm, ⟨PF.rf S0, rfl, fun _ _ _ => rfl⟩, fun t h1 h2 => by omega⟩ (FU_gt (by omega))
  · obtain ⟨r, e, q1, q2⟩ := hlp
    rw [e, Option.bind_some]
    unfold k_X7_findHires_33_5
    rw [show (0 : Int32) = nI 0 from rfl, q_rd (by decide) (by decide), Option.bind_some, Option.bind_some]
    obtain ⟨v, v1, v2⟩ := q2 0 (Nat.zero_le _) 0 (by decide) Rch.zero hu
    refine ⟨_, rfl, ⟨q1.1.i _ (by decide), q1.2.1, fun j h1 h2 => (siI_n r _ h2).trans (q1.2.2 j h1 h2)⟩, fun t ht s hs h1 h2 => ?_, v, ?_, v2⟩
    · rw [siI_n r _ (by decide)]
      exact q2 t ht s hs h1 h2
    · rw [siI_s]
      exact v1
  · rintro ⟨q1, q2⟩ ⟨_, h0, h1, h2⟩
    have h0 : q1 = nI 0 - 1 := h0
    subst h0
    refine ⟨q2, ?_, h1, fun t ht => h2 t (Nat.zero_le _) ht⟩
    show b_X7_findHires_33_5 (nI 0 - 1) q2 = _
    unfold b_X7_findHires_33_5
    rw [if_pos (by decide)]
  · rintro t ⟨q1, q2⟩ ⟨ht, h0, h1, h2⟩
    have h0 : q1 = nI (t + 1) - 1 := h0
    rw [nI_pred] at h0
    subst h0
    have h1 : fhK S0 q2 := h1
    have h2 : ∀ t', t + 1 ≤ t' → t' ≤ L → ∀ s, s < 64 → hcV C lk b L q2 t' s := h2
    refine Or.inl ?_
    show ∃ s', b_X7_findHires_33_5 (nI t) q2 = _ ∧ _
    unfold b_X7_findHires_33_5
    rw [if_neg (nI_pos (by omega))]
    have hlp := lp_for (b := fun q => b_X7_findHires_33_11 (nI t) q.1 q.2) 64 (fun i q => q.1 = nI i ∧ fhK S0 q.2 ∧ (∀ t', t < t' → t' ≤ L → ∀ s, s < 64 → hcV C lk b L q.2 t' s) ∧ ∀ s, s < i → hcV C lk b L q.2 t s) (fun r => fhK S0 r ∧ (∀ t', t < t' → t' ≤ L → ∀ s, s < 64 → hcV C lk b L r t' s) ∧ ∀ s, s < 64 → hcV C lk b L r t s) ?_ ?_ (F := FU) (i := 0) (s := (0, q2)) ⟨rfl, h1, fun t' ht' => h2 t' ht', fun s h => by omega⟩ (Nat.zero_le _) (FU_gt (by decide))
    · obtain ⟨r, e, g1, g2, g3⟩ := hlp
      rw [e, Option.bind_some]
      unfold k_X7_findHires_33_11
      rw [Option.bind_some]
      refine ⟨_, rfl, by omega, (Int32.sub_eq_add_neg _ _).symm, g1, fun t' h5 h6 s hs => ?_⟩
      rcases Nat.lt_or_ge t t' with h7 | h7
      · exact g2 t' h7 h6 s hs
      · obtain rfl : t' = t := by omega
        exact g3 s hs
    · rintro ⟨y1, y2⟩ ⟨k0, k1, k2, k3⟩
      have k0 : y1 = nI 64 := k0
      subst k0
      refine ⟨y2, ?_, k1, k2, k3⟩
      show b_X7_findHires_33_11 (nI t) (nI 64) y2 = _
      unfold b_X7_findHires_33_11
      rw [if_pos (by decide)]
    · rintro s ⟨y1, y2⟩ hs ⟨k0, k1, k2, k3⟩
      have k0 : y1 = nI s := k0
      subst k0
      have k1 : fhK S0 y2 := k1
      have hB2 := k1.ku hB
      have hP2 := k1.pl hP
      have hm2 : y2.1 4301 0 = nI L := by rw [k1.2.2 4301 (by decide) (by decide)]; exact hm
      have hb := hB2 t (by omega) s hs
      refine Or.inl ?_
      show ∃ s', b_X7_findHires_33_11 (nI t) (nI s) y2 = _ ∧ _
      have wr : ∀ v, (Rch C lk t s → Us C lk b L t s → Pt C lk b L t s v ∧ ∀ c, Pt C lk b L t s c → v ≤ c) → (∀ t', t < t' → t' ≤ L → ∀ s', s' < 64 → hcV C lk b L (siI y2 37 (upd (y2.1 37) (64 * t + s) (nI v))) t' s') ∧ ∀ s', s' < s + 1 → hcV C lk b L (siI y2 37 (upd (y2.1 37) (64 * t + s) (nI v))) t s' := by
        intro v hv
        constructor
        · intro t' h5 h6 s' hs' a1 a2
          rw [siI_s, pk_un (by omega)]
          exact k2 t' h5 h6 s' hs' a1 a2
        · intro s' hs' a1 a2
          rw [siI_s]
          by_cases h5 : s' = s
          · subst h5
            rw [pk_us]
            exact ⟨v, rfl, hv a1 a2⟩
          · rw [pk_un (by omega)]
            exact k3 s' (by omega) a1 a2
      unfold b_X7_findHires_33_11
      rw [ln64, i_le (by omega) (by omega), if_neg (by omega), q_rdJ (by omega) (by decide), Option.bind_some, i_tst hs]
      by_cases h5 : bt (y2.2.1 36 t) s = false
      · rw [if_pos h5, Option.bind_some, nI_1]
        refine ⟨_, rfl, rfl, k1, k2, fun s' hs' a1 a2 => ?_⟩
        rcases Nat.lt_or_ge s' s with h6 | h6
        · exact k3 s' h6 a1 a2
        · obtain rfl : s' = s := by omega
          rw [hb.mpr ⟨a1, a2⟩] at h5
          cases h5
      · rw [if_neg h5]
        have h6 : bt (y2.2.1 36 t) s = true := by simpa using h5
        obtain ⟨hr, hus⟩ := hb.mp h6
        rw [hm2, i_eq (by omega) (by omega)]
        by_cases h7 : t = L
        · rw [if_pos h7, pk_mul, nI_add, Nat.mul_comm t 64, q_wrI (by omega) (by decide), Option.bind_some, Option.bind_some, nI_1]
          obtain ⟨w1, w2⟩ := wr 0 (fun _ hu => by
            subst h7
            exact ⟨Pt.fin (Us.fin.mp hu), fun c _ => Nat.zero_le c⟩)
          exact ⟨_, rfl, rfl, k1.w _, w1, w2⟩
        · rw [if_neg h7]
          obtain ⟨v, v1, v2⟩ := c_leastHire hC hL hm2 hP2 hB2 (by omega) hs hr k2
          rw [v1, Option.bind_some, pk_mul, nI_add, Nat.mul_comm t 64, q_wrI (by omega) (by decide), Option.bind_some, Option.bind_some, nI_1]
          obtain ⟨w1, w2⟩ := wr v (fun _ hu => v2.1 hu)
          exact ⟨_, rfl, rfl, k1.w _, w1, w2⟩
end
