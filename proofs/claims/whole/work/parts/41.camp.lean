/-! ifs over small numbers -/
theorem i_le {α : Type} {a b : Nat} {x y : α} {inst : Decidable (nI a ≤ nI b)} (ha : a < 2147483648) (hb : b < 2147483648) : @ite α (nI a ≤ nI b) inst x y = (if a ≤ b then x else y) := by
  by_cases h : a ≤ b
  · rw [if_pos h, if_pos ((nI_leI (by omega) (by omega)).mpr h)]
  · rw [if_neg h, if_neg (fun h9 => h ((nI_leI (by omega) (by omega)).mp h9))]
theorem i_lt {α : Type} {a b : Nat} {x y : α} {inst : Decidable (nI a < nI b)} (ha : a < 2147483648) (hb : b < 2147483648) : @ite α (nI a < nI b) inst x y = (if a < b then x else y) := by
  by_cases h : a < b
  · rw [if_pos h, if_pos ((nI_ltI (by omega) (by omega)).mpr h)]
  · rw [if_neg h, if_neg (fun h9 => h ((nI_ltI (by omega) (by omega)).mp h9))]
theorem i_eq {α : Type} {a b : Nat} {x y : α} {inst : Decidable (nI a = nI b)} (ha : a < 2147483648) (hb : b < 2147483648) : @ite α (nI a = nI b) inst x y = (if a = b then x else y) := by
  by_cases h : a = b
  · rw [if_pos h, if_pos ((nI_eq (by omega) (by omega)).mpr h)]
  · rw [if_neg h, if_neg (fun h9 => h ((nI_eq (by omega) (by omega)).mp h9))]
theorem i_cl {α : Type} {c d : Prop} (h : c = d) {x y : α} {inst : Decidable c} : @ite α c inst x y = @ite α d (Classical.propDecidable d) x y := by
  subst h
  by_cases h : c
  · rw [if_pos h, if_pos h]
  · rw [if_neg h, if_neg h]
/-! the camp, in plain numbers; how the reference's row and the class' cells hold it -/
abbrev Cmp : Type := Nat × (Nat → Nat × Nat × Nat × Nat) × (Nat → Nat) × (Nat × (Nat → Nat) × (Nat → Nat)) × (Nat × (Nat → Int32)) × (Nat × (Nat → Nat))
def caN (C : Cmp) : Nat := C.1
def caW (C : Cmp) (p : Nat) : Nat := (C.2.1 p).1
def caT (C : Cmp) (p : Nat) : Nat := (C.2.1 p).2.1
def caH (C : Cmp) (p : Nat) : Nat := (C.2.1 p).2.2.1
def caK (C : Cmp) (p : Nat) : Nat := (C.2.1 p).2.2.2
def caU (C : Cmp) (i : Nat) : Nat := C.2.2.1 i
def caG (C : Cmp) : Nat := C.2.2.2.1.1
def caGm (C : Cmp) (g : Nat) : Nat := C.2.2.2.1.2.1 g
def caGs (C : Cmp) (g : Nat) : Nat := C.2.2.2.1.2.2 g
def caL (C : Cmp) : Nat := C.2.2.2.2.1.1
def caX (C : Cmp) (k : Nat) : Int32 := C.2.2.2.2.1.2 k
def caLn (C : Cmp) : Nat := C.2.2.2.2.2.1
def caLd (C : Cmp) (k : Nat) : Nat := C.2.2.2.2.2.2 k
def GoodP (d : Nat × Nat × Nat × Nat) : Prop := (1 ≤ d.1 ∧ d.1 ≤ 60) ∧ (1 ≤ d.2.1 ∧ d.2.1 ≤ 30) ∧ d.2.2.1 ≤ 99 ∧ d.2.2.2 ≤ 5
def mostU (i : Nat) : Nat := if i = 1 then 239 else if i = 3 then 240 else 20
def Gp (C : Cmp) : Prop := caN C ≤ 6 ∧ (∀ p, p < caN C → GoodP (C.2.1 p)) ∧ ∀ i, i < 4 → caU C i ≤ mostU i
def Good (C : Cmp) : Prop := Gp C ∧ caG C ≤ 20 ∧ (∀ g, g < caG C → caGm C g < 240 ∧ caGs C g < 2 ^ caN C) ∧ caL C ≤ 200 ∧ caLn C ≤ 5 ∧ ∀ k, k < caLn C → 1 ≤ caLd C k ∧ caLd C k ≤ 20
def RMpx (m : Nat → Int32) (C : Cmp) : Prop := m 274 = nI (caN C) ∧ (∀ p, p < caN C → m (4 * p) = nI (caW C p) ∧ m (4 * p + 1) = nI (caT C p) ∧ m (4 * p + 2) = nI (caH C p) ∧ m (4 * p + 3) = nI (caK C p)) ∧ ∀ i, i < 4 → m (24 + i) = nI (caU C i)
def RMx (m : Nat → Int32) (C : Cmp) : Prop := RMpx m C ∧ m 275 = nI (caG C) ∧ (∀ g, g < caG C → m (28 + 2 * g) = nI (caGm C g) ∧ m (28 + 2 * g + 1) = nI (caGs C g)) ∧ m 73 = nI (caL C) ∧ (∀ k, k < caL C → m (74 + k) = caX C k) ∧ m 276 = nI (caLn C) ∧ ∀ k, k < caLn C → m (68 + k) = nI (caLd C k)
def RCpx (pd : Nat → PD) (num : Nat → Int32) (n : Int32) (C : Cmp) : Prop := n = nI (caN C) ∧ (∀ p, p < caN C → pd p = (nI (caW C p), nI (caT C p), nI (caH C p), nI (caK C p))) ∧ ∀ i, i < 4 → num i = nI (caU C i)
def RCx (pd : Nat → PD) (num gm gs tx ld : Nat → Int32) (n g l ln : Int32) (C : Cmp) : Prop := RCpx pd num n C ∧ g = nI (caG C) ∧ (∀ g, g < caG C → gm g = nI (caGm C g) ∧ gs g = nI (caGs C g)) ∧ l = nI (caL C) ∧ (∀ k, k < caL C → tx k = caX C k) ∧ ln = nI (caLn C) ∧ ∀ k, k < caLn C → ld k = nI (caLd C k)
def RMp (M : MS) (C : Cmp) : Prop := RMpx (M 0) C
def RM (M : MS) (C : Cmp) : Prop := RMx (M 0) C
def RCp (S : CS) (C : Cmp) : Prop := RCpx (S.2.2 0) (S.1 5) (S.1 1306 0) C
def RC (S : CS) (C : Cmp) : Prop := RCx (S.2.2 0) (S.1 5) (S.1 6) (S.1 7) (S.1 8) (S.1 9) (S.1 1306 0) (S.1 1307 0) (S.1 1308 0) (S.1 1309 0) C
/-- of a camp: its porters and numbers alone -/
def cp (C : Cmp) : Cmp := (C.1, C.2.1, C.2.2.1, (0, fun _ => 0, fun _ => 0), (0, fun _ => 0), (0, fun _ => 0))
theorem Gp.n {C : Cmp} (h : Gp C) : caN C ≤ 6 := h.1
theorem Gp.w {C : Cmp} (h : Gp C) {p : Nat} (hp : p < caN C) : 1 ≤ caW C p ∧ caW C p ≤ 60 := (h.2.1 p hp).1
theorem Gp.t {C : Cmp} (h : Gp C) {p : Nat} (hp : p < caN C) : 1 ≤ caT C p ∧ caT C p ≤ 30 := (h.2.1 p hp).2.1
theorem Gp.h {C : Cmp} (h : Gp C) {p : Nat} (hp : p < caN C) : caH C p ≤ 99 := (h.2.1 p hp).2.2.1
theorem Gp.k {C : Cmp} (h : Gp C) {p : Nat} (hp : p < caN C) : caK C p ≤ 5 := (h.2.1 p hp).2.2.2
theorem Gp.u {C : Cmp} (h : Gp C) : caU C 0 ≤ 20 ∧ caU C 1 ≤ 239 ∧ caU C 2 ≤ 20 ∧ caU C 3 ≤ 240 := ⟨h.2.2 0 (by decide), h.2.2 1 (by decide), h.2.2 2 (by decide), h.2.2 3 (by decide)⟩
theorem Gp.cp {C : Cmp} (h : Gp C) : Gp (cp C) := h
theorem Good.p {C : Cmp} (h : Good C) : Gp C := h.1
theorem Good.g {C : Cmp} (h : Good C) : caG C ≤ 20 := h.2.1
theorem Good.gs {C : Cmp} (h : Good C) {g : Nat} (hg : g < caG C) : caGm C g < 240 ∧ caGs C g < 2 ^ caN C := h.2.2.1 g hg
theorem Good.l {C : Cmp} (h : Good C) : caL C ≤ 200 := h.2.2.2.1
theorem Good.ln {C : Cmp} (h : Good C) : caLn C ≤ 5 := h.2.2.2.2.1
theorem Good.ld {C : Cmp} (h : Good C) {k : Nat} (hk : k < caLn C) : 1 ≤ caLd C k ∧ caLd C k ≤ 20 := h.2.2.2.2.2 k hk
theorem RMp.n {M : MS} {C : Cmp} (h : RMp M C) : M 0 274 = nI (caN C) := h.1
theorem RMp.p {M : MS} {C : Cmp} (h : RMp M C) {p : Nat} (hp : p < caN C) : M 0 (4 * p) = nI (caW C p) ∧ M 0 (4 * p + 1) = nI (caT C p) ∧ M 0 (4 * p + 2) = nI (caH C p) ∧ M 0 (4 * p + 3) = nI (caK C p) := h.2.1 p hp
theorem RMp.u {M : MS} {C : Cmp} (h : RMp M C) {i : Nat} (hi : i < 4) : M 0 (24 + i) = nI (caU C i) := h.2.2 i hi
theorem RMp.cp {M : MS} {C : Cmp} (h : RMp M C) : RMp M (cp C) := h
theorem RM.q {M : MS} {C : Cmp} (h : RM M C) : RMp M C := h.1
theorem RM.g {M : MS} {C : Cmp} (h : RM M C) : M 0 275 = nI (caG C) := h.2.1
theorem RM.gs {M : MS} {C : Cmp} (h : RM M C) {g : Nat} (hg : g < caG C) : M 0 (28 + 2 * g) = nI (caGm C g) ∧ M 0 (28 + 2 * g + 1) = nI (caGs C g) := h.2.2.1 g hg
theorem RM.l {M : MS} {C : Cmp} (h : RM M C) : M 0 73 = nI (caL C) := h.2.2.2.1
theorem RM.x {M : MS} {C : Cmp} (h : RM M C) {k : Nat} (hk : k < caL C) : M 0 (74 + k) = caX C k := h.2.2.2.2.1 k hk
theorem RM.ln {M : MS} {C : Cmp} (h : RM M C) : M 0 276 = nI (caLn C) := h.2.2.2.2.2.1
theorem RM.ld {M : MS} {C : Cmp} (h : RM M C) {k : Nat} (hk : k < caLn C) : M 0 (68 + k) = nI (caLd C k) := h.2.2.2.2.2.2 k hk
theorem RCp.n {S : CS} {C : Cmp} (h : RCp S C) : S.1 1306 0 = nI (caN C) := h.1
theorem RCp.p {S : CS} {C : Cmp} (h : RCp S C) {p : Nat} (hp : p < caN C) : S.2.2 0 p = (nI (caW C p), nI (caT C p), nI (caH C p), nI (caK C p)) := h.2.1 p hp
theorem RCp.u {S : CS} {C : Cmp} (h : RCp S C) {i : Nat} (hi : i < 4) : S.1 5 i = nI (caU C i) := h.2.2 i hi
theorem RCp.cp {S : CS} {C : Cmp} (h : RCp S C) : RCp S (cp C) := h
theorem RC.q {S : CS} {C : Cmp} (h : RC S C) : RCp S C := h.1
theorem RC.g {S : CS} {C : Cmp} (h : RC S C) : S.1 1307 0 = nI (caG C) := h.2.1
theorem RC.gs {S : CS} {C : Cmp} (h : RC S C) {g : Nat} (hg : g < caG C) : S.1 6 g = nI (caGm C g) ∧ S.1 7 g = nI (caGs C g) := h.2.2.1 g hg
theorem RC.l {S : CS} {C : Cmp} (h : RC S C) : S.1 1308 0 = nI (caL C) := h.2.2.2.1
theorem RC.x {S : CS} {C : Cmp} (h : RC S C) {k : Nat} (hk : k < caL C) : S.1 8 k = caX C k := h.2.2.2.2.1 k hk
theorem RC.ln {S : CS} {C : Cmp} (h : RC S C) : S.1 1309 0 = nI (caLn C) := h.2.2.2.2.2.1
theorem RC.ld {S : CS} {C : Cmp} (h : RC S C) {k : Nat} (hk : k < caLn C) : S.1 9 k = nI (caLd C k) := h.2.2.2.2.2.2 k hk
/-! what the document says of porters and crossings -/
def wtA (C : Cmp) (p t : Nat) : Nat := caW C p + (if (caK C p = 2 ∨ caK C p = 4) ∧ caU C 1 ≤ t then caU C 2 else 0)
def tmO (C : Cmp) (p : Nat) : Nat := if caK C p = 1 ∨ caK C p = 3 then 2 * caT C p else caT C p
def mxT (C : Cmp) (s : Nat) : Nat → Nat
  | 0 => 0
  | i + 1 => if bN s i = 1 ∧ mxT C s i < tmO C i then tmO C i else mxT C s i
theorem mxT_s (C : Cmp) (s i : Nat) : mxT C s (i + 1) = if bN s i = 1 ∧ mxT C s i < tmO C i then tmO C i else mxT C s i := rfl
def tmS (C : Cmp) (s : Nat) : Nat := mxT C s (caN C)
def smH (C : Cmp) (s : Nat) : Nat → Nat
  | 0 => 0
  | i + 1 => if bN s i = 1 then smH C s i + caH C i else smH C s i
theorem smH_s (C : Cmp) (s i : Nat) : smH C s (i + 1) = if bN s i = 1 then smH C s i + caH C i else smH C s i := rfl
def hrS (C : Cmp) (s : Nat) : Nat := smH C s (caN C)
def nev (C : Cmp) (p s nt : Nat) : Prop := (caK C p = 3 ∧ (p = 0 ∨ bN s (p - 1) = 0)) ∨ (caK C p = 4 ∧ nt = 1)
def anv (C : Cmp) (s nt : Nat) : Prop := ∃ p, p < caN C ∧ bN s p = 1 ∧ nev C p s nt
def pcn (s : Nat) : Nat := bN s 0 + bN s 1 + bN s 2 + bN s 3 + bN s 4 + bN s 5
def fs1 (s : Nat) : Nat := if bN s 0 = 1 then 0 else if bN s 1 = 1 then 1 else if bN s 2 = 1 then 2 else if bN s 3 = 1 then 3 else if bN s 4 = 1 then 4 else 5
def fs2 (s : Nat) : Nat := fs1 (s - 2 ^ fs1 s)
def dfW (C : Cmp) (a b t xa xb : Nat) : Nat := if wtA C b t + xb ≤ wtA C a t + xa then wtA C a t + xa - (wtA C b t + xb) else wtA C b t + xb - (wtA C a t + xa)
def unl (C : Cmp) (a b t xa xb : Nat) : Prop := caK C a = 5 ∨ caK C b = 5 ∨ caU C 0 ≤ dfW C a b t xa xb
def ntA (C : Cmp) (t : Nat) : Nat := if caU C 3 ≤ t then 1 else 0
noncomputable def cif {α : Type} (c : Prop) (a b : α) : α := @ite α c (Classical.propDecidable c) a b
theorem cif_t {α : Type} {c : Prop} {a b : α} (h : c) : cif c a b = a := by unfold cif; exact if_pos h
theorem cif_f {α : Type} {c : Prop} {a b : α} (h : ¬ c) : cif c a b = b := by unfold cif; exact if_neg h
noncomputable def oneI (c : Prop) : Nat := cif c 1 0
theorem oneI_t {c : Prop} (h : c) : oneI c = 1 := cif_t h
theorem oneI_f {c : Prop} (h : ¬ c) : oneI c = 0 := cif_f h
theorem oneI_lt (c : Prop) : oneI c < 2 := by
  by_cases h : c
  · rw [oneI_t h]; decide
  · rw [oneI_f h]; decide
theorem oneI_1 {c : Prop} : oneI c = 1 ↔ c := by
  by_cases h : c
  · rw [oneI_t h]; exact ⟨fun _ => h, fun _ => rfl⟩
  · rw [oneI_f h]; exact ⟨fun h9 => (by cases h9), fun h9 => absurd h9 h⟩
theorem oneI_0 {c : Prop} : oneI c = 0 ↔ ¬ c := by
  by_cases h : c
  · rw [oneI_t h]; exact ⟨fun h9 => (by cases h9), fun h9 => absurd h h9⟩
  · rw [oneI_f h]; exact ⟨fun _ => h, fun _ => rfl⟩
theorem oneI_c {c d : Prop} (h : c ↔ d) : oneI c = oneI d := by rw [propext h]
noncomputable def whyS (C : Cmp) (s t nt : Nat) : Nat := if pcn s = (if nt = 1 then 1 else 2) then cif (anv C s nt) 4 (cif (nt = 0 ∧ ¬ unl C (fs1 s) (fs2 s) t 0 0) 5 (if 240 < t + tmS C s then 6 else 0)) else 3
theorem ntA_lt (C : Cmp) (t : Nat) : ntA C t < 2 := by unfold ntA; split <;> decide
theorem wtA_lt {C : Cmp} (hC : Gp C) {p t : Nat} (hp : p < caN C) : 1 ≤ wtA C p t ∧ wtA C p t ≤ 80 := by
  have h1 := hC.w hp
  have h2 := hC.u
  unfold wtA
  split <;> omega
theorem tmO_lt {C : Cmp} (hC : Gp C) {p : Nat} (hp : p < caN C) : 1 ≤ tmO C p ∧ tmO C p ≤ 60 := by
  have h1 := hC.t hp
  unfold tmO
  split <;> omega
theorem mxT_le {C : Cmp} (hC : Gp C) (s : Nat) : ∀ i, i ≤ caN C → mxT C s i ≤ 60 := by
  intro i
  induction i with
  | zero => intro _; exact Nat.zero_le _
  | succ i ih =>
    intro hi
    have h1 := ih (by omega)
    have h2 := tmO_lt hC (p := i) (by omega)
    unfold mxT
    split <;> omega
theorem mxT_ge {C : Cmp} {s : Nat} : ∀ {i p}, p < i → bN s p = 1 → tmO C p ≤ mxT C s i := by
  intro i
  induction i with
  | zero => intro p h; omega
  | succ i ih =>
    intro p hp hb
    unfold mxT
    rcases Nat.lt_or_ge p i with h | h
    · have h1 := ih h hb
      split <;> omega
    · obtain rfl : p = i := by omega
      split <;> omega
theorem tmS_le {C : Cmp} (hC : Gp C) (s : Nat) : tmS C s ≤ 60 := mxT_le hC s _ (Nat.le_refl _)
theorem smH_le {C : Cmp} (hC : Gp C) (s : Nat) : ∀ i, i ≤ caN C → smH C s i ≤ 99 * i := by
  intro i
  induction i with
  | zero => intro _; exact Nat.le_refl _
  | succ i ih =>
    intro hi
    have h1 := ih (by omega)
    have h2 := hC.h (p := i) (by omega)
    unfold smH
    split <;> omega
theorem hrS_le {C : Cmp} (hC : Gp C) (s : Nat) : hrS C s ≤ 594 := by
  have h1 := smH_le hC s _ (Nat.le_refl _)
  have h2 := hC.n
  unfold hrS
  omega
theorem whyS_lt {C : Cmp} {s t nt : Nat} : whyS C s t nt < 7 := by
  unfold whyS cif
  repeat' split
  all_goals omega
/-! the reference -/
section
variable {M : MS} {C : Cmp}
theorem r_porters (hM : RMp M C) : f_X11_porters M = some (nI (caN C)) := by
  unfold f_X11_porters
  rw [ln274, q_rd (by decide) (by decide), Option.bind_some, hM.n]
theorem r_number (hM : RMp M C) {i : Nat} (hi : i < 4) : f_X11_number M (nI i) = some (nI (caU C i)) := by
  unfold f_X11_number
  rw [ln24, nI_add, q_rd (by omega) (by decide), Option.bind_some, hM.u hi]
theorem r_told (M : MS) {p w : Nat} (hp : p < 6) (hw : w < 4) : f_X11_told M (nI p) (nI w) = some (M 0 (4 * p + w)) := by
  unfold f_X11_told
  rw [ln0, ln4, pk_mul, nI_add, nI_add, q_rd (by omega) (by decide), Option.bind_some, Nat.zero_add]
theorem r_toldK (hM : RMp M C) (hC : Gp C) {p : Nat} (hp : p < caN C) : f_X11_told M (nI p) 3 = some (nI (caK C p)) := by
  have := hC.n
  rw [ln3, r_told M (by omega) (by decide), (hM.p hp).2.2.2]
theorem r_toldW (hM : RMp M C) (hC : Gp C) {p : Nat} (hp : p < caN C) : f_X11_told M (nI p) 0 = some (nI (caW C p)) := by
  have := hC.n
  rw [ln0, r_told M (by omega) (by decide), Nat.add_zero, (hM.p hp).1]
theorem r_toldT (hM : RMp M C) (hC : Gp C) {p : Nat} (hp : p < caN C) : f_X11_told M (nI p) 1 = some (nI (caT C p)) := by
  have := hC.n
  rw [ln1, r_told M (by omega) (by decide), (hM.p hp).2.1]
theorem r_toldH (hM : RMp M C) (hC : Gp C) {p : Nat} (hp : p < caN C) : f_X11_told M (nI p) 2 = some (nI (caH C p)) := by
  have := hC.n
  rw [ln2, r_told M (by omega) (by decide), (hM.p hp).2.2.1]
theorem pw_le {n : Nat} (h : n ≤ 6) : 2 ^ n ≤ 64 := Nat.pow_le_pow_right (by decide) h
theorem r_all (hM : RMp M C) (hC : Gp C) : f_X11_all M = some (nI (2 ^ caN C - 1)) := by
  have h := hC.n
  unfold f_X11_all
  rw [r_porters hM, Option.bind_some, ln1, ln31, q_shl (by omega), q_sub (Nat.one_le_two_pow)]
theorem r_weightOf (hM : RMp M C) (hC : Gp C) {p t : Nat} (hp : p < caN C) (ht : t < 2147483648) : f_X11_weightOf M (nI p) (nI t) = some (nI (wtA C p t)) := by
  have hk := hC.k hp
  have hu := hC.u
  unfold f_X11_weightOf j_X11_weightOf_17 j_X11_weightOf_30 j_X11_weightOf_31
  rw [r_toldK hM hC hp, r_toldW hM hC hp, ln1, r_number hM (by decide), ln2, r_number hM (by decide)]
  simp (disch := omega) only [Option.bind_some, ln0, ln4, q_eq, q_lt, nI_add, if_true, if_pos, if_neg]
  unfold wtA
  repeat' split
  all_goals first | rfl | omega
theorem r_timeOf (hM : RMp M C) (hC : Gp C) {p : Nat} (hp : p < caN C) : f_X11_timeOf M (nI p) = some (nI (tmO C p)) := by
  have hk := hC.k hp
  unfold f_X11_timeOf
  rw [r_toldK hM hC hp, r_toldT hM hC hp]
  simp (disch := omega) only [Option.bind_some, ln1, ln2, ln3, q_eq, pk_mul]
  unfold tmO
  repeat' split
  all_goals first | rfl | omega
theorem q_manyIn : ∀ s, s < 64 → lp (fun q => b_X11_manyIn_4 (nI s) q.1 q.2) 8 (0, 0) = some (nI (pcn s)) := by decide +kernel
theorem r_manyIn {s : Nat} (hs : s < 64) : f_X11_manyIn (nI s) = some (nI (pcn s)) := by
  unfold f_X11_manyIn
  rw [lp_up (q_manyIn s hs) (Nat.le_of_ble_eq_true rfl)]
  rfl
theorem q_firstIn : ∀ s, s < 64 → s ≠ 0 → lp (fun q => b_X11_firstIn_2 (nI s) q) 8 0 = some (nI (fs1 s)) := by decide +kernel
theorem r_firstIn {s : Nat} (hs : s < 64) (h0 : s ≠ 0) : f_X11_firstIn (nI s) = some (nI (fs1 s)) := by
  unfold f_X11_firstIn
  rw [lp_up (q_firstIn s hs h0) (Nat.le_of_ble_eq_true rfl)]
  rfl
theorem q_without : ∀ s, s < 64 → s ≠ 0 → nI s &&& ((1 <<< (nI (fs1 s) &&& 31)) ^^^ (-1)) = nI (s - 2 ^ fs1 s) := by decide +kernel
theorem q_pairA : ∀ s, s < 64 → pcn s = 2 → (s ≠ 0 ∧ s - 2 ^ fs1 s ≠ 0) ∧ (fs1 s < fs2 s ∧ fs2 s < 6) ∧ (bN s (fs1 s) = 1 ∧ bN s (fs2 s) = 1) ∧ s = 2 ^ fs1 s + 2 ^ fs2 s := by decide +kernel
theorem q_pairB : ∀ s, s < 64 → pcn s = 2 → ∀ p, p < 6 → p ≠ fs1 s → p ≠ fs2 s → bN s p = 0 := by decide +kernel
theorem q_pair (s : Nat) (hs : s < 64) (h : pcn s = 2) : s ≠ 0 ∧ s - 2 ^ fs1 s ≠ 0 ∧ fs1 s < fs2 s ∧ fs2 s < 6 ∧ bN s (fs1 s) = 1 ∧ bN s (fs2 s) = 1 ∧ s = 2 ^ fs1 s + 2 ^ fs2 s ∧ ∀ p, p < 6 → p ≠ fs1 s → p ≠ fs2 s → bN s p = 0 := by
  obtain ⟨⟨a, b⟩, ⟨c, d⟩, ⟨e, f⟩, g⟩ := q_pairA s hs h
  exact ⟨a, b, c, d, e, f, g, q_pairB s hs h⟩
theorem q_single : ∀ s, s < 64 → pcn s = 1 → s ≠ 0 ∧ fs1 s < 6 ∧ bN s (fs1 s) = 1 ∧ s = 2 ^ fs1 s ∧ ∀ p, p < 6 → p ≠ fs1 s → bN s p = 0 := by decide +kernel
theorem q_bitn : ∀ n, n ≤ 6 → ∀ s, s < 2 ^ n → ∀ p, p < 6 → bN s p = 1 → p < n := by decide +kernel
theorem r_isNever (hM : RMp M C) (hC : Gp C) {p s nt : Nat} (hp : p < caN C) (hs : s < 64) (hn : nt < 2) : f_X11_isNever M (nI p) (nI s) (nI nt) = some (nI (oneI (nev C p s nt))) := by
  have hk := hC.k hp
  have hc := hC.n
  unfold f_X11_isNever j_X11_isNever_28
  rw [r_toldK hM hC hp]
  by_cases h0 : p = 0
  · subst h0
    simp (disch := omega) only [Option.bind_some, ln0, ln1, ln3, ln4, q_eq, if_true]
    repeat' split
    all_goals first | omega | (rw [oneI_t (by unfold nev; omega)]) | (rw [oneI_f (by unfold nev; omega)])
  · have hb := bN_lt s (p - 1)
    simp (disch := omega) only [Option.bind_some, ln0, ln1, ln3, ln4, ln31, q_sub, q_bit, q_eq, if_neg h0]
    repeat' split
    all_goals first | omega | (rw [oneI_t (by unfold nev; omega)]) | (rw [oneI_f (by unfold nev; omega)])
theorem r_anyNever (hM : RMp M C) (hC : Gp C) {s nt : Nat} (hs : s < 64) (hn : nt < 2) : f_X11_anyNever M (nI s) (nI nt) = some (nI (oneI (anv C s nt))) := by
  have hc := hC.n
  unfold f_X11_anyNever
  have h := lp_seq (b := fun q => b_X11_anyNever_5 M (nI s) (nI nt) q.1 q.2) (caN C) (fun i => (nI (oneI (∃ p, p < i ∧ bN s p = 1 ∧ nev C p s nt)), nI i)) (nI (oneI (anv C s nt))) ?_ ?_ (F := FU) (FU_gt (by omega))
  · have e : oneI (∃ p, p < 0 ∧ bN s p = 1 ∧ nev C p s nt) = 0 := oneI_f (fun ⟨p, h, _⟩ => by omega)
    simp only [e] at h
    rw [ln0, h, Option.bind_some]
    unfold k_X11_anyNever_5
    rw [q_zr (oneI_lt _)]
    rfl
  · intro i hi
    show b_X11_anyNever_5 M (nI s) (nI nt) (nI (oneI (∃ p, p < i ∧ bN s p = 1 ∧ nev C p s nt))) (nI i) = _
    have hb := bN_lt s i
    unfold b_X11_anyNever_5
    rw [r_porters hM, Option.bind_some, i_le (by omega) (by omega), if_neg (by omega)]
    by_cases h0 : ∃ p, p < i ∧ bN s p = 1 ∧ nev C p s nt
    · rw [oneI_t h0, oneI_t (c := ∃ p, p < i + 1 ∧ bN s p = 1 ∧ nev C p s nt) (by obtain ⟨p, h1, h2⟩ := h0; exact ⟨p, by omega, h2⟩), if_neg (by decide)]
      simp only [Option.bind_some, ln1, nI_add]
    · rw [oneI_f h0, if_pos (by rfl), ln1, ln31, q_bit (by omega) (by omega), i_eq (by omega) (by omega)]
      by_cases h1 : bN s i = 1
      · rw [if_pos h1, r_isNever hM hC hi hs hn, Option.bind_some]
        by_cases h2 : nev C i s nt
        · rw [oneI_t h2, if_neg (by decide), oneI_t (c := ∃ p, p < i + 1 ∧ bN s p = 1 ∧ nev C p s nt) ⟨i, by omega, h1, h2⟩]
          simp only [Option.bind_some, nI_add]
        · rw [oneI_f h2, if_pos (by decide), oneI_f (c := ∃ p, p < i + 1 ∧ bN s p = 1 ∧ nev C p s nt) (fun ⟨p, h3, h4, h5⟩ => by
            rcases Nat.lt_or_ge p i with h6 | h6
            · exact h0 ⟨p, h6, h4, h5⟩
            · obtain rfl : p = i := by omega
              exact h2 h5)]
          simp only [Option.bind_some, nI_add, ln0]
      · rw [if_neg h1, oneI_f (c := ∃ p, p < i + 1 ∧ bN s p = 1 ∧ nev C p s nt) (fun ⟨p, h3, h4, h5⟩ => by
            rcases Nat.lt_or_ge p i with h6 | h6
            · exact h0 ⟨p, h6, h4, h5⟩
            · obtain rfl : p = i := by omega
              exact h1 h4)]
        simp only [Option.bind_some, nI_add, ln0]
  · show b_X11_anyNever_5 M (nI s) (nI nt) (nI (oneI (anv C s nt))) (nI (caN C)) = _
    unfold b_X11_anyNever_5
    rw [r_porters hM, Option.bind_some, if_pos (nI_le (Nat.le_refl _) (by omega))]
theorem q_dif {a b g : Nat} (ha : a < 1000) (hb : b < 1000) (hg : g < 1000) : (if (0 : Int32) ≤ nI a - nI b then (if nI a - nI b < nI g then some (0 : Int32) else some 1) else (if -(nI a - nI b) < nI g then some 0 else some 1)) = some (nI (oneI (g ≤ (if b ≤ a then a - b else b - a)))) := by
  by_cases h : b ≤ a
  · rw [pk_sub h, if_pos (nI_pos' (by omega)), i_lt (by omega) (by omega), if_pos h]
    by_cases h1 : a - b < g
    · rw [if_pos h1, oneI_f (by omega)]; rfl
    · rw [if_neg h1, oneI_t (by omega)]; rfl
  · have e : nI a - nI b = -nI (b - a) := by rw [← pk_sub (by omega : a ≤ b), Int32.neg_sub]
    rw [if_neg h, e, if_neg (by
      rw [Int32.le_iff_toInt_le, ← e, pk_sub_toInt (by omega) (by omega)]
      have : (0 : Int32).toInt = 0 := rfl
      omega), Int32.neg_neg, i_lt (by omega) (by omega)]
    by_cases h1 : b - a < g
    · rw [if_pos h1, oneI_f (by omega)]; rfl
    · rw [if_neg h1, oneI_t (by omega)]; rfl
theorem r_areUnlike (hM : RMp M C) (hC : Gp C) {a b t xa xb : Nat} (ha : a < caN C) (hb : b < caN C) (ht : t < 2147483648) (hxa : M 4 a = nI xa) (hxb : M 4 b = nI xb) (ka : xa < 200) (kb : xb < 200) : f_X11_areUnlike M (nI a) (nI b) (nI t) = some (nI (oneI (unl C a b t xa xb))) := by
  have hc := hC.n
  have hka := hC.k ha
  have hkb := hC.k hb
  have hwa := wtA_lt hC (t := t) ha
  have hwb := wtA_lt hC (t := t) hb
  have hu := hC.u
  unfold f_X11_areUnlike
  rw [r_weightOf hM hC ha ht, r_weightOf hM hC hb ht, q_rd (by omega) (by decide), q_rd (by omega) (by decide), r_toldK hM hC ha, r_toldK hM hC hb, show (0 : Int32) = nI 0 from rfl, r_number hM (by decide), hxa, hxb]
  simp only [Option.bind_some]
  rw [show nI (wtA C a t) + nI xa - nI (wtA C b t) - nI xb = nI (wtA C a t + xa) - nI (wtA C b t + xb) from by rw [nI_add, ← nI_add (wtA C b t) xb, Int32.sub_sub]]
  rw [← show (0 : Int32) = nI 0 from rfl, q_dif (by omega) (by omega) (by omega), ln5, i_eq (by omega) (by omega), i_eq (by omega) (by omega)]
  by_cases h1 : caK C a = 5
  · rw [if_pos h1, oneI_t (show unl C a b t xa xb from Or.inl h1)]; rfl
  · rw [if_neg h1]
    by_cases h2 : caK C b = 5
    · rw [if_pos h2, oneI_t (show unl C a b t xa xb from Or.inr (Or.inl h2))]; rfl
    · rw [if_neg h2]
      refine congrArg (fun z => some (nI z)) (oneI_c ?_)
      unfold unl dfW
      exact ⟨fun h => Or.inr (Or.inr h), fun h => h.elim (fun h => absurd h h1) (fun h => h.elim (fun h => absurd h h2) id)⟩
theorem r_timeOfSet (hM : RMp M C) (hC : Gp C) {s : Nat} (hs : s < 64) : f_X11_timeOfSet M (nI s) = some (nI (tmS C s)) := by
  have hc := hC.n
  unfold f_X11_timeOfSet
  have h := lp_seq (b := fun q => b_X11_timeOfSet_4 M (nI s) q.1 q.2) (caN C) (fun i => (nI (mxT C s i), nI i)) (nI (tmS C s)) ?_ ?_ (F := FU) (FU_gt (by omega))
  · rw [show ((0 : Int32), (0 : Int32)) = (nI (mxT C s 0), nI 0) from rfl, h]
    rfl
  · intro i hi
    show b_X11_timeOfSet_4 M (nI s) (nI (mxT C s i)) (nI i) = some (Sum.inl (nI (mxT C s (i + 1)), nI (i + 1)))
    have hb := bN_lt s i
    have hm := mxT_le hC s i (by omega)
    have ht := tmO_lt hC hi
    unfold b_X11_timeOfSet_4 j_X11_timeOfSet_30
    rw [r_porters hM, Option.bind_some, r_timeOf hM hC hi]
    simp (disch := omega) only [Option.bind_some, ln0, ln1, ln31, q_bit, q_le, q_eq, nI_add]
    rw [if_neg (by omega)]
    rw [mxT_s]
    generalize mxT C s i = w at *
    repeat' split
    all_goals first | rfl | omega | (have : w = 0 := by omega; rw [this])
  · show b_X11_timeOfSet_4 M (nI s) (nI (tmS C s)) (nI (caN C)) = _
    unfold b_X11_timeOfSet_4
    rw [r_porters hM, Option.bind_some, if_pos (nI_le (Nat.le_refl _) (by omega))]
theorem r_hireOf (hM : RMp M C) (hC : Gp C) {s : Nat} (hs : s < 64) : f_X11_hireOf M (nI s) = some (nI (hrS C s)) := by
  have hc := hC.n
  unfold f_X11_hireOf
  have h := lp_seq (b := fun q => b_X11_hireOf_4 M (nI s) q.1 q.2) (caN C) (fun i => (nI (smH C s i), nI i)) (nI (hrS C s)) ?_ ?_ (F := FU) (FU_gt (by omega))
  · rw [show ((0 : Int32), (0 : Int32)) = (nI (smH C s 0), nI 0) from rfl, h]
    rfl
  · intro i hi
    show b_X11_hireOf_4 M (nI s) (nI (smH C s i)) (nI i) = some (Sum.inl (nI (smH C s (i + 1)), nI (i + 1)))
    have hb := bN_lt s i
    unfold b_X11_hireOf_4
    rw [r_porters hM, Option.bind_some, r_toldH hM hC hi]
    simp (disch := omega) only [Option.bind_some, ln0, ln1, ln31, q_bit, q_le, q_eq, nI_add]
    rw [if_neg (by omega)]
    rw [smH_s]
    repeat' split
    all_goals first | rfl | omega
  · show b_X11_hireOf_4 M (nI s) (nI (hrS C s)) (nI (caN C)) = _
    unfold b_X11_hireOf_4
    rw [r_porters hM, Option.bind_some, if_pos (nI_le (Nat.le_refl _) (by omega))]
/-- nobody carries -/
def Z4 (M : MS) : Prop := ∀ p, p < 6 → M 4 p = nI 0
theorem r_whyNot (hM : RMp M C) (hC : Gp C) (hz : Z4 M) {s t : Nat} (hs : s < 2 ^ caN C) (ht : t < 1000) : f_X11_whyNot M (nI s) (nI t) = some (nI (whyS C s t (ntA C t))) := by
  have hc := hC.n
  have hs6 : s < 64 := Nat.lt_of_lt_of_le hs (pw_le hc)
  have hu := hC.u
  have hT := tmS_le hC s
  have hJ : j_X11_whyNot_83 M (nI s) (nI t) = some (nI (if 240 < t + tmS C s then 6 else 0)) := by
    unfold j_X11_whyNot_83
    rw [r_timeOfSet hM hC hs6, Option.bind_some, nI_add, ln240, i_le (by omega) (by omega)]
    repeat' split
    all_goals first | rfl | omega
  have hK : ∀ nt, nt < 2 → ∀ k4, k4 = (if nt = 1 then 1 else 2) → j_X11_whyNot_32 M (nI s) (nI t) (nI nt) (nI (pcn s)) (nI k4) = some (nI (whyS C s t nt)) := by
    intro nt hnt k4 hk4
    have hp6 : pcn s ≤ 6 := by
      have := bN_le s 0; have := bN_le s 1; have := bN_le s 2; have := bN_le s 3; have := bN_le s 4; have := bN_le s 5
      unfold pcn
      omega
    have hk4' : k4 ≤ 2 := by rw [hk4]; split <;> decide
    unfold j_X11_whyNot_32 whyS
    rw [i_eq (by omega) (by omega), ← hk4]
    by_cases h1 : pcn s = k4
    · rw [if_pos h1, if_pos h1, r_anyNever hM hC hs6 hnt, Option.bind_some]
      have h0 : s ≠ 0 := by
        intro h
        subst h
        have : pcn 0 = 0 := by decide
        rw [hk4] at h1
        split at h1 <;> omega
      by_cases h2 : anv C s nt
      · rw [oneI_t h2, if_neg (by decide), cif_t h2]; rfl
      · rw [oneI_f h2, if_pos (by decide), cif_f h2, r_firstIn hs6 h0, Option.bind_some, ln2, i_eq (by omega) (by omega)]
        by_cases h3 : pcn s = 2
        · obtain ⟨_, g0, g1, g2, g3, g4, _, _⟩ := q_pair s hs6 h3
          have hnt0 : nt = 0 := by
            rw [hk4] at h1
            split at h1 <;> omega
          have ga := q_bitn _ hc s hs _ (by omega) g3
          have gb := q_bitn _ hc s hs _ (by omega) g4
          rw [if_pos h3, q_without s hs6 h0, r_firstIn (Nat.lt_of_le_of_lt (Nat.sub_le _ _) hs6) g0, Option.bind_some, show fs1 (s - 2 ^ fs1 s) = fs2 s from rfl, r_areUnlike hM hC ga gb (by omega) (hz _ (by omega)) (hz _ (by omega)) (by decide) (by decide), Option.bind_some]
          by_cases h4 : unl C (fs1 s) (fs2 s) t 0 0
          · rw [oneI_t h4, if_neg (by decide), cif_f (fun h => h.2 h4), hJ]
          · rw [oneI_f h4, if_pos (by decide), cif_t ⟨hnt0, h4⟩]; rfl
        · rw [if_neg h3, cif_f (fun h => h3 (by rw [h1, hk4, h.1]; rfl)), hJ]
    · rw [if_neg h1, if_neg h1]; rfl
  unfold f_X11_whyNot j_X11_whyNot_14 ntA
  rw [ln3, r_number hM (by decide), Option.bind_some, r_manyIn hs6, Option.bind_some, i_lt (by omega) (by omega)]
  by_cases h : t < caU C 3
  · rw [if_pos h, if_pos (by rfl), if_neg (by omega)]
    exact hK 0 (by decide) 2 rfl
  · rw [if_neg h, Option.bind_some, if_neg (by decide), if_pos (by omega)]
    exact hK 1 (by decide) 1 rfl
end
