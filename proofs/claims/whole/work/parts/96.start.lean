theorem va_A1 {a n q : Nat} {e0 : va_E} : va_A [(a, e0)] n q ↔ (q = a ∨ n ≤ q) := by
  constructor
  · intro h
    rcases h with ⟨k, e, h⟩ | h
    · have h1 := (List.getElem?_eq_some_iff.mp h).1
      simp at h1
      subst h1
      cases h
      exact Or.inl rfl
    · exact Or.inr h
  · intro h
    rcases h with h | h
    · subst h
      exact Or.inl ⟨0, e0, rfl⟩
    · exact Or.inr h
set_option maxHeartbeats 8000000 in
set_option maxRecDepth 100000 in
/-- THE LAW, from its entry -/
theorem whole_start {p : Program} {e : Env} {s : State} {m : MethodId} {below : List Frame} {meth : Method} {c : Code} (l : Launch) {b L : Nat} {xs : Nat → Int32} (hL : L ≤ 2560) (C0 : lw_At p s m meth c b L xs) : W p l e room_1 s m #[Value.ref b] below meth c s.heap [] 0 0 (lw_Z below #[Value.ref b] s) (entryFrame m ([Value.ref b] : List Value).toArray 4) := by
  obtain ⟨hx, hb, hr, hml, hown, hts, hX, hbl, hlocks, hgv⟩ := id C0
  have htw : ∀ w ∈ wsL_law, w.before #[Value.ref b] s = true := fun w hw => hts w (wsL_law_in w hw)
  have hA : ∀ q : Nat, s.heap.size ≤ q → (fun q : Nat => s.heap.size ≤ q) q := fun _ h => h
  have hAn : ∀ a : Nat, a < s.heap.size → ¬ (fun q : Nat => s.heap.size ≤ q) a := fun a h => Nat.not_le.mpr h
  obtain ⟨ts, aK, aV, hE⟩ := lw_env (A := (fun q : Nat => s.heap.size ≤ q)) hAn hts hgv
  have hO := lw_aoC hts
  obtain ⟨dC, dI, hKc⟩ := lw_kn hts
  have hS : va_S (fun q : Nat => s.heap.size ≤ q) s.heap s.heap [] := va_S.rf
  have hK : va_K (dC, dI) vwCl [] s := ⟨hKc, fun k q h => by simp at h⟩
  have hP : va_P (dC, dI) vwCl [] s.heap := fun k q h => by simp at h
  have hD : va_D (fun q : Nat => s.heap.size ≤ q) [] := ⟨fun i j p q h => by simp at h, fun k q h => by simp at h⟩
  have hl := lv_entry ([.ref b]) (n := 4) (Nat.le_of_ble_eq_true rfl)
  rw [lg_entry_eq]
  generalize (lg_sl ([.ref b]) ++ List.replicate (4 - (lg_sl ([.ref b])).length) Slot.unset).toArray = ls at hl ⊢
  have hl : lv_has ls 4 [(0, .ref b)] := hl
  have hi10 : (Cond.initialized RX10).before #[Value.ref b] s = true := hts _ (by decide +kernel)
  have hi11 : (Cond.initialized RX11).before #[Value.ref b] s = true := hts _ (by decide +kernel)
  refine va_new (ci := 10) (fs := [.null, .null, .null, .null, .null, .null, .int 0, .int 0, .int 0]) (C := RX10) (T := TX10) (N := 9) hx hb hts wsX100_tb tyX10 tyX10_ok hown (hts (.classLink RL 7 RX10) (by decide +kernel)) (hts (.instantiable RX10 9) (by decide +kernel)) hi10 hK hP hD hS hA rfl (fun j hj => by rcases (show j = 0 ∨ j = 1 ∨ j = 2 ∨ j = 3 ∨ j = 4 ∨ j = 5 ∨ j = 6 ∨ j = 7 ∨ j = 8 by omega) with rfl | rfl | rfl | rfl | rfl | rfl | rfl | rfl | rfl <;> rfl) (Nat.le_of_ble_eq_true rfl) (Nat.le_of_ble_eq_true rfl) dL_law_0 (fun a H hP hD hS => ?_)
  have hP : va_P (dC, dI) vwCl [(a, .inr (10, [.null, .null, .null, .null, .null, .null, .int 0, .int 0, .int 0]))] H := hP
  have hD : va_D (fun q : Nat => s.heap.size ≤ q) [(a, .inr (10, [.null, .null, .null, .null, .null, .null, .int 0, .int 0, .int 0]))] := hD
  refine W.widen (k := 1) (n := 9) (Nat.le_of_ble_eq_true rfl) (Nat.le_of_ble_eq_true rfl) ?_
  refine lv_dup hx hb dL_law_3 rfl ?_
  refine klN (rest := [.ref a]) (q0 := 0) ⟨hx, hb, hml, hown, htw⟩ (c_X10_init l dC dI ts aK aV H.size a) (cwI 0 htw gL_law_X10_init rfl rfl rfl hi10 (hts (.methodLink RL 9 yX10_init) (by decide +kernel)) (hts (.instanceMethod yX10_init) (by decide +kernel)) rfl (by decide +kernel) ⟨(Nat.le_of_ble_eq_true rfl), (Nat.le_of_ble_eq_true rfl)⟩) hl.1 rfl (Nat.le_of_ble_eq_true rfl) dL_law_4 ⟨(Nat.le_of_ble_eq_true rfl), (Nat.le_of_ble_eq_true rfl)⟩ hE hO hK hP hD rfl hS hA (fun U H1 locs ht hvm hB hk1 hFc hS => ?_)
  obtain ⟨h, t, tx, h0, hB, hKU⟩ := hB
  rw [ht] at hB
  obtain ⟨g, LP, pf, hP1, hD1, hG⟩ := hB
  have hPD := jnN (wr := []) hP hD (q0 := 0) (a := a) rfl [] rfl rfl (by decide) hk1 hFc hP1 hD1
  have hPa : va_P (dC, dI) vwCl (wC t h tx g S0 ++ va_pl LP pf) H1 := hPD.1
  have hDa : va_D (fun q : Nat => s.heap.size ≤ q) (wC t h tx g S0 ++ va_pl LP pf) := hPD.2
  have hKa : va_K (dC, dI) vwCl (tyC t) s := va_K.moved hvm.symm hKU
  refine W.widen (k := 50) (n := 17454) (Nat.le_of_ble_eq_true rfl) (Nat.le_of_ble_eq_true rfl) ?_
  refine lv_astore_n (lv' := [(1, .ref a), (0, .ref b)]) hx hb dL_law_7 rfl hl (by decide) rfl (fun ls hl => ?_)
  refine va_new (ci := 11) (fs := [.null, .null, .null, .null, .null, .int 0, .int 0, .int 0, .int 0, .null, .int 0, .int 0, .int 0, .int 0, .null, .int 0, .int 0, .int 0, .null, .null, .null, .null, .null, .null, .null]) (C := RX11) (T := TX11) (N := 25) hx hb hts wsX110_tb tyX11 tyX11_ok hown (hts (.classLink RL 10 RX11) (by decide +kernel)) (hts (.instantiable RX11 25) (by decide +kernel)) hi11 hKa hPa hDa hS hA rfl (fun j hj => by rcases (show j = 0 ∨ j = 1 ∨ j = 2 ∨ j = 3 ∨ j = 4 ∨ j = 5 ∨ j = 6 ∨ j = 7 ∨ j = 8 ∨ j = 9 ∨ j = 10 ∨ j = 11 ∨ j = 12 ∨ j = 13 ∨ j = 14 ∨ j = 15 ∨ j = 16 ∨ j = 17 ∨ j = 18 ∨ j = 19 ∨ j = 20 ∨ j = 21 ∨ j = 22 ∨ j = 23 ∨ j = 24 by omega) with rfl | rfl | rfl | rfl | rfl | rfl | rfl | rfl | rfl | rfl | rfl | rfl | rfl | rfl | rfl | rfl | rfl | rfl | rfl | rfl | rfl | rfl | rfl | rfl | rfl <;> rfl) (Nat.le_of_ble_eq_true rfl) (Nat.le_of_ble_eq_true rfl) dL_law_8 (fun a2 H2 hP2 hD2 hS => ?_)
  refine W.widen (k := 51) (n := 17479) (Nat.le_of_ble_eq_true rfl) (Nat.le_of_ble_eq_true rfl) ?_
  refine lv_dup hx hb dL_law_11 rfl ?_
  refine klN (rest := [.ref a2]) (q0 := (wC t h tx g S0 ++ va_pl LP pf).length) ⟨hx, hb, hml, hown, htw⟩ (c_X11_init l dC dI ts aK aV H2.size a2) (cwI 0 htw gL_law_X11_init rfl rfl rfl hi11 (hts (.methodLink RL 12 yX11_init) (by decide +kernel)) (hts (.instanceMethod yX11_init) (by decide +kernel)) rfl (by decide +kernel) ⟨(Nat.le_of_ble_eq_true rfl), (Nat.le_of_ble_eq_true rfl)⟩) hl.1 rfl (Nat.le_of_ble_eq_true rfl) dL_law_12 ⟨(Nat.le_of_ble_eq_true rfl), (Nat.le_of_ble_eq_true rfl)⟩ hE hO hKa hP2 hD2 List.getElem?_concat_length hS hA (fun U2 H3 locs2 ht2 hvm2 hB2 hk2 hFc2 hS => ?_)
  obtain ⟨h', tI, tZ, h0', hP3, hD3, hKU2⟩ := hB2
  rw [ht2] at hP3
  have hPD2 := lw_back hP2 hD2 (fun q hq => hFc2 q (va_A1.mp hq)) (fun q g1 g2 => hk2 q g1 (fun g3 => g2 (va_A1.mpr g3))) hP3 (hD3.weaken (fun _ _ _ g => va_A1.mpr g))
  have hKb : va_K (dC, dI) vwCl (tyL t tI tZ) s := hKa.app (va_K.moved hvm2.symm hKU2)
  refine W.widen (k := 65) (n := 49855) (Nat.le_of_ble_eq_true rfl) (Nat.le_of_ble_eq_true rfl) ?_
  refine lv_astore_n (lv' := [(2, .ref a2), (1, .ref a), (0, .ref b)]) hx hb dL_law_15 rfl hl (by decide) rfl (fun ls hl => ?_)
  refine lv_iconst (v := 0) hx hb dL_law_16 (by decide) ?_
  refine lv_istore_n (lv' := [(3, .int 0), (2, .ref a2), (1, .ref a), (0, .ref b)]) hx hb dL_law_17 rfl hl (by decide) rfl (fun ls hl => ?_)
  have hl9 : lv_has ls 4 [(0, .ref b), (1, .ref (h 0)), (2, .ref (h' 0)), (3, .int 0)] := by
    rw [h0, h0']
    exact lv_sub hl [3, 2, 1, 0] rfl
  exact law_loop hL C0 hE hKb (L + 1) 0 0 (Nat.zero_le L) (by omega) nI_0.symm S0 M0 rel0 _ _ 65 49855 (by omega) (by omega) ⟨tx, g, LP, pf, hPD2.1, hPD2.2, hG⟩ hS ls hl9
