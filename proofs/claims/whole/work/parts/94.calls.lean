/-! the law: one call of the script, case by case -/
section LC
variable {p : Program} {l : Launch} {e : Env} {s : State} {m : MethodId} {below : List Frame} {meth : Method} {c : Code} {H : Heap} {locs : List Loc} {cells slots : Nat} {Q : State → Prop} {ls : Array Slot} {dC : Nat → ClassId} {dI : Nat → Nat → Nat} {t : Nat → ClassId} {tI tZ : ClassId} {ts aK aV : Nat → Nat} {A : Nat → Prop} {h h' : Nat → Nat} {S : CS} {M : MS} {b L : Nat} {xs : Nat → Int32} {x3 : Int32}
set_option maxHeartbeats 4000000 in
set_option maxRecDepth 100000 in
theorem lc_porter (F : CallFix p m c cL_law 4 s #[Value.ref b] wsL_law RL) (hX : va_X b L xs s s.heap) (hbl : b < s.heap.size) (hbA : ¬ A b) (hA : ∀ q : Nat, s.heap.size ≤ q → A q) (hE : enC ts aK aV A s s.heap) (hK : va_K (dC, dI) vwCl (tyL t tI tZ) s) (v1 : vp_in (x3 + 1) L) (v2 : vp_in (x3 + 2) L) (v3 : vp_in (x3 + 3) L) (v4 : vp_in (x3 + 4) L) (q1 : cells + 201 ≤ 600000) (q2 : slots + 804 ≤ 7302250) (hl : lv_has ls 4 [(0, .ref b), (1, .ref (h 0)), (2, .ref (h' 0)), (3, .int x3)]) (hR : Rel S M) (hC : lwC dC dI t tI tZ A h h' S M H) (hS : va_S A s.heap H locs) (kk : ∀ (H1 : Heap) (locs1 : List Loc) (S' : CS) (M' : MS) (c1 s1 : Nat), lwC dC dI t tI tZ A h h' S' M' H1 → va_S A s.heap H1 locs1 → Rel S' M' → c1 ≤ cells + 201 → s1 ≤ slots + 804 → W p l e room_1 s m #[Value.ref b] below meth c H1 locs1 c1 s1 Q (F0 m 780 ls [])) : W p l e room_1 s m #[Value.ref b] below meth c H locs cells slots Q (F0 m 140 ls []) := by
  refine lv_aload_n F.1 F.2.1 dL_law_140 rfl (lv_at hl 1 rfl) ?_
  refine lv_aload_n F.1 F.2.1 dL_law_141 rfl (lv_at hl 0 rfl) ?_
  refine lv_iload_n F.1 F.2.1 dL_law_142 rfl (lv_at hl 3 rfl) ?_
  refine lv_iconst (v := 1) F.1 F.2.1 dL_law_143 (by decide) ?_
  refine lv_iadd F.1 F.2.1 dL_law_144 ?_
  refine va_sld F.1 F.2.1 hX hbl hbA hS v1 dL_law_145 ?_
  refine lv_aload_n F.1 F.2.1 dL_law_146 rfl (lv_at hl 0 rfl) ?_
  refine lv_iload_n F.1 F.2.1 dL_law_147 rfl (lv_at hl 3 rfl) ?_
  refine lv_iconst (v := 2) F.1 F.2.1 dL_law_148 (by decide) ?_
  refine lv_iadd F.1 F.2.1 dL_law_149 ?_
  refine va_sld F.1 F.2.1 hX hbl hbA hS v2 dL_law_150 ?_
  refine lv_aload_n F.1 F.2.1 dL_law_151 rfl (lv_at hl 0 rfl) ?_
  refine lv_iload_n F.1 F.2.1 dL_law_152 rfl (lv_at hl 3 rfl) ?_
  refine lv_iconst (v := 3) F.1 F.2.1 dL_law_153 (by decide) ?_
  refine lv_iadd F.1 F.2.1 dL_law_154 ?_
  refine va_sld F.1 F.2.1 hX hbl hbA hS v3 dL_law_155 ?_
  refine lv_aload_n F.1 F.2.1 dL_law_156 rfl (lv_at hl 0 rfl) ?_
  refine lv_iload_n F.1 F.2.1 dL_law_157 rfl (lv_at hl 3 rfl) ?_
  refine lv_iconst (v := 4) F.1 F.2.1 dL_law_158 (by decide) ?_
  refine lv_iadd F.1 F.2.1 dL_law_159 ?_
  refine va_sld F.1 F.2.1 hX hbl hbA hS v4 dL_law_160 ?_
  obtain ⟨r, S', M', e1, e2, hR'⟩ := agree.1 S M hR (xs (x3 + 1).toNatClampNeg) (xs (x3 + 2).toNatClampNeg) (xs (x3 + 3).toNatClampNeg) (xs (x3 + 4).toNatClampNeg)
  refine lwci (As := [.int (xs (x3 + 1).toNatClampNeg), .int (xs (x3 + 2).toNatClampNeg), .int (xs (x3 + 3).toNatClampNeg), .int (xs (x3 + 4).toNatClampNeg)]) (rest := []) F (fun A' tx hA' => ⟨tx, c_X10_porter_0 l dC dI t ts aK aV A' h tx H.size hA' _ _ _ _ _ _ _ e1⟩) (cwV 4 F.2.2.2.2 gL_law_X10_porter rfl rfl rfl (by decide +kernel) ⟨(Nat.le_of_ble_eq_true rfl), (Nat.le_of_ble_eq_true rfl)⟩) rfl hl.1 rfl (Nat.le_of_ble_eq_true rfl) dL_law_161 ⟨Nat.le_trans (Nat.add_le_add_left (show rmX10_porter_0.cells ≤ 201 from by decide) cells) q1, Nat.le_trans (Nat.add_le_add_left (show rmX10_porter_0.slots ≤ 804 from by decide) slots) q2⟩ hE hK hC hS hA (fun H locs hC hS => ?_)
  refine lv_aload_n F.1 F.2.1 dL_law_164 rfl (lv_at hl 2 rfl) ?_
  refine lv_aload_n F.1 F.2.1 dL_law_165 rfl (lv_at hl 0 rfl) ?_
  refine lv_iload_n F.1 F.2.1 dL_law_166 rfl (lv_at hl 3 rfl) ?_
  refine lv_iconst (v := 1) F.1 F.2.1 dL_law_167 (by decide) ?_
  refine lv_iadd F.1 F.2.1 dL_law_168 ?_
  refine va_sld F.1 F.2.1 hX hbl hbA hS v1 dL_law_169 ?_
  refine lv_aload_n F.1 F.2.1 dL_law_170 rfl (lv_at hl 0 rfl) ?_
  refine lv_iload_n F.1 F.2.1 dL_law_171 rfl (lv_at hl 3 rfl) ?_
  refine lv_iconst (v := 2) F.1 F.2.1 dL_law_172 (by decide) ?_
  refine lv_iadd F.1 F.2.1 dL_law_173 ?_
  refine va_sld F.1 F.2.1 hX hbl hbA hS v2 dL_law_174 ?_
  refine lv_aload_n F.1 F.2.1 dL_law_175 rfl (lv_at hl 0 rfl) ?_
  refine lv_iload_n F.1 F.2.1 dL_law_176 rfl (lv_at hl 3 rfl) ?_
  refine lv_iconst (v := 3) F.1 F.2.1 dL_law_177 (by decide) ?_
  refine lv_iadd F.1 F.2.1 dL_law_178 ?_
  refine va_sld F.1 F.2.1 hX hbl hbA hS v3 dL_law_179 ?_
  refine lv_aload_n F.1 F.2.1 dL_law_180 rfl (lv_at hl 0 rfl) ?_
  refine lv_iload_n F.1 F.2.1 dL_law_181 rfl (lv_at hl 3 rfl) ?_
  refine lv_iconst (v := 4) F.1 F.2.1 dL_law_182 (by decide) ?_
  refine lv_iadd F.1 F.2.1 dL_law_183 ?_
  refine va_sld F.1 F.2.1 hX hbl hbA hS v4 dL_law_184 ?_
  refine lwmi (As := [.int (xs (x3 + 1).toNatClampNeg), .int (xs (x3 + 2).toNatClampNeg), .int (xs (x3 + 3).toNatClampNeg), .int (xs (x3 + 4).toNatClampNeg)]) (rest := [.int r]) F (c_X11_porter l dC dI tI tZ h' H.size _ _ _ _ _ _ _ e2) (cwV 4 F.2.2.2.2 gL_law_X11_porter rfl rfl rfl (by decide +kernel) ⟨(Nat.le_of_ble_eq_true rfl), (Nat.le_of_ble_eq_true rfl)⟩) rfl hl.1 rfl (Nat.le_of_ble_eq_true rfl) dL_law_185 ⟨Nat.le_trans (Nat.add_le_add_left (show rmX10_porter_0.cells ≤ 201 from by decide) cells) q1, Nat.le_trans (Nat.add_le_add_left (show rmX10_porter_0.slots ≤ 804 from by decide) slots) q2⟩ hK hC hS hA (fun H locs hC hS => ?_)
  refine lv_icmp_eq (tgt := 780) F.1 F.2.1 dL_law_188 (by decide) (fun _ => ?_) (fun k => absurd rfl k)
  exact kk H locs _ _ _ _ hC hS hR' (Nat.add_le_add_left (show rmX10_porter_0.cells ≤ 201 from by decide) cells) (Nat.add_le_add_left (show rmX10_porter_0.slots ≤ 804 from by decide) slots)
set_option maxHeartbeats 4000000 in
set_option maxRecDepth 100000 in
theorem lc_put (F : CallFix p m c cL_law 4 s #[Value.ref b] wsL_law RL) (hX : va_X b L xs s s.heap) (hbl : b < s.heap.size) (hbA : ¬ A b) (hA : ∀ q : Nat, s.heap.size ≤ q → A q) (hE : enC ts aK aV A s s.heap) (hK : va_K (dC, dI) vwCl (tyL t tI tZ) s) (v1 : vp_in (x3 + 1) L) (v2 : vp_in (x3 + 2) L) (v3 : vp_in (x3 + 3) L) (v4 : vp_in (x3 + 4) L) (q1 : cells + 201 ≤ 600000) (q2 : slots + 804 ≤ 7302250) (hl : lv_has ls 4 [(0, .ref b), (1, .ref (h 0)), (2, .ref (h' 0)), (3, .int x3)]) (hR : Rel S M) (hC : lwC dC dI t tI tZ A h h' S M H) (hS : va_S A s.heap H locs) (kk : ∀ (H1 : Heap) (locs1 : List Loc) (S' : CS) (M' : MS) (c1 s1 : Nat), lwC dC dI t tI tZ A h h' S' M' H1 → va_S A s.heap H1 locs1 → Rel S' M' → c1 ≤ cells + 201 → s1 ≤ slots + 804 → W p l e room_1 s m #[Value.ref b] below meth c H1 locs1 c1 s1 Q (F0 m 780 ls [])) : W p l e room_1 s m #[Value.ref b] below meth c H locs cells slots Q (F0 m 193 ls []) := by
  refine lv_aload_n F.1 F.2.1 dL_law_193 rfl (lv_at hl 1 rfl) ?_
  refine lv_aload_n F.1 F.2.1 dL_law_194 rfl (lv_at hl 0 rfl) ?_
  refine lv_iload_n F.1 F.2.1 dL_law_195 rfl (lv_at hl 3 rfl) ?_
  refine lv_iconst (v := 1) F.1 F.2.1 dL_law_196 (by decide) ?_
  refine lv_iadd F.1 F.2.1 dL_law_197 ?_
  refine va_sld F.1 F.2.1 hX hbl hbA hS v1 dL_law_198 ?_
  refine lv_aload_n F.1 F.2.1 dL_law_199 rfl (lv_at hl 0 rfl) ?_
  refine lv_iload_n F.1 F.2.1 dL_law_200 rfl (lv_at hl 3 rfl) ?_
  refine lv_iconst (v := 2) F.1 F.2.1 dL_law_201 (by decide) ?_
  refine lv_iadd F.1 F.2.1 dL_law_202 ?_
  refine va_sld F.1 F.2.1 hX hbl hbA hS v2 dL_law_203 ?_
  obtain ⟨r, S', M', e1, e2, hR'⟩ := agree.2.1 S M hR (xs (x3 + 1).toNatClampNeg) (xs (x3 + 2).toNatClampNeg)
  refine lwci (As := [.int (xs (x3 + 1).toNatClampNeg), .int (xs (x3 + 2).toNatClampNeg)]) (rest := []) F (fun A' tx hA' => ⟨tx, c_X10_put_0 l dC dI t ts aK aV A' h tx H.size hA' _ _ _ _ _ e1⟩) (cwV 2 F.2.2.2.2 gL_law_X10_put rfl rfl rfl (by decide +kernel) ⟨(Nat.le_of_ble_eq_true rfl), (Nat.le_of_ble_eq_true rfl)⟩) rfl hl.1 rfl (Nat.le_of_ble_eq_true rfl) dL_law_204 ⟨Nat.le_trans (Nat.add_le_add_left (show rmX10_put_0.cells ≤ 201 from by decide) cells) q1, Nat.le_trans (Nat.add_le_add_left (show rmX10_put_0.slots ≤ 804 from by decide) slots) q2⟩ hE hK hC hS hA (fun H locs hC hS => ?_)
  refine lv_aload_n F.1 F.2.1 dL_law_207 rfl (lv_at hl 2 rfl) ?_
  refine lv_aload_n F.1 F.2.1 dL_law_208 rfl (lv_at hl 0 rfl) ?_
  refine lv_iload_n F.1 F.2.1 dL_law_209 rfl (lv_at hl 3 rfl) ?_
  refine lv_iconst (v := 1) F.1 F.2.1 dL_law_210 (by decide) ?_
  refine lv_iadd F.1 F.2.1 dL_law_211 ?_
  refine va_sld F.1 F.2.1 hX hbl hbA hS v1 dL_law_212 ?_
  refine lv_aload_n F.1 F.2.1 dL_law_213 rfl (lv_at hl 0 rfl) ?_
  refine lv_iload_n F.1 F.2.1 dL_law_214 rfl (lv_at hl 3 rfl) ?_
  refine lv_iconst (v := 2) F.1 F.2.1 dL_law_215 (by decide) ?_
  refine lv_iadd F.1 F.2.1 dL_law_216 ?_
  refine va_sld F.1 F.2.1 hX hbl hbA hS v2 dL_law_217 ?_
  refine lwmi (As := [.int (xs (x3 + 1).toNatClampNeg), .int (xs (x3 + 2).toNatClampNeg)]) (rest := [.int r]) F (c_X11_put l dC dI tI tZ h' H.size _ _ _ _ _ e2) (cwV 2 F.2.2.2.2 gL_law_X11_put rfl rfl rfl (by decide +kernel) ⟨(Nat.le_of_ble_eq_true rfl), (Nat.le_of_ble_eq_true rfl)⟩) rfl hl.1 rfl (Nat.le_of_ble_eq_true rfl) dL_law_218 ⟨Nat.le_trans (Nat.add_le_add_left (show rmX10_put_0.cells ≤ 201 from by decide) cells) q1, Nat.le_trans (Nat.add_le_add_left (show rmX10_put_0.slots ≤ 804 from by decide) slots) q2⟩ hK hC hS hA (fun H locs hC hS => ?_)
  refine lv_icmp_eq (tgt := 780) F.1 F.2.1 dL_law_221 (by decide) (fun _ => ?_) (fun k => absurd rfl k)
  exact kk H locs _ _ _ _ hC hS hR' (Nat.add_le_add_left (show rmX10_put_0.cells ≤ 201 from by decide) cells) (Nat.add_le_add_left (show rmX10_put_0.slots ≤ 804 from by decide) slots)
set_option maxHeartbeats 4000000 in
set_option maxRecDepth 100000 in
theorem lc_of (F : CallFix p m c cL_law 4 s #[Value.ref b] wsL_law RL) (hX : va_X b L xs s s.heap) (hbl : b < s.heap.size) (hbA : ¬ A b) (hA : ∀ q : Nat, s.heap.size ≤ q → A q) (hE : enC ts aK aV A s s.heap) (hK : va_K (dC, dI) vwCl (tyL t tI tZ) s) (v1 : vp_in (x3 + 1) L) (v2 : vp_in (x3 + 2) L) (v3 : vp_in (x3 + 3) L) (v4 : vp_in (x3 + 4) L) (q1 : cells + 201 ≤ 600000) (q2 : slots + 804 ≤ 7302250) (hl : lv_has ls 4 [(0, .ref b), (1, .ref (h 0)), (2, .ref (h' 0)), (3, .int x3)]) (hR : Rel S M) (hC : lwC dC dI t tI tZ A h h' S M H) (hS : va_S A s.heap H locs) (kk : ∀ (H1 : Heap) (locs1 : List Loc) (S' : CS) (M' : MS) (c1 s1 : Nat), lwC dC dI t tI tZ A h h' S' M' H1 → va_S A s.heap H1 locs1 → Rel S' M' → c1 ≤ cells + 201 → s1 ≤ slots + 804 → W p l e room_1 s m #[Value.ref b] below meth c H1 locs1 c1 s1 Q (F0 m 780 ls [])) : W p l e room_1 s m #[Value.ref b] below meth c H locs cells slots Q (F0 m 226 ls []) := by
  refine lv_aload_n F.1 F.2.1 dL_law_226 rfl (lv_at hl 1 rfl) ?_
  refine lv_aload_n F.1 F.2.1 dL_law_227 rfl (lv_at hl 0 rfl) ?_
  refine lv_iload_n F.1 F.2.1 dL_law_228 rfl (lv_at hl 3 rfl) ?_
  refine lv_iconst (v := 1) F.1 F.2.1 dL_law_229 (by decide) ?_
  refine lv_iadd F.1 F.2.1 dL_law_230 ?_
  refine va_sld F.1 F.2.1 hX hbl hbA hS v1 dL_law_231 ?_
  refine lv_aload_n F.1 F.2.1 dL_law_232 rfl (lv_at hl 0 rfl) ?_
  refine lv_iload_n F.1 F.2.1 dL_law_233 rfl (lv_at hl 3 rfl) ?_
  refine lv_iconst (v := 2) F.1 F.2.1 dL_law_234 (by decide) ?_
  refine lv_iadd F.1 F.2.1 dL_law_235 ?_
  refine va_sld F.1 F.2.1 hX hbl hbA hS v2 dL_law_236 ?_
  refine lv_aload_n F.1 F.2.1 dL_law_237 rfl (lv_at hl 0 rfl) ?_
  refine lv_iload_n F.1 F.2.1 dL_law_238 rfl (lv_at hl 3 rfl) ?_
  refine lv_iconst (v := 3) F.1 F.2.1 dL_law_239 (by decide) ?_
  refine lv_iadd F.1 F.2.1 dL_law_240 ?_
  refine va_sld F.1 F.2.1 hX hbl hbA hS v3 dL_law_241 ?_
  obtain ⟨r, S', M', e1, e2, hR'⟩ := agree.2.2.1 S M hR (xs (x3 + 1).toNatClampNeg) (xs (x3 + 2).toNatClampNeg) (xs (x3 + 3).toNatClampNeg)
  refine lwci (As := [.int (xs (x3 + 1).toNatClampNeg), .int (xs (x3 + 2).toNatClampNeg), .int (xs (x3 + 3).toNatClampNeg)]) (rest := []) F (fun A' tx hA' => ⟨tx, c_X10_of_0 l dC dI t ts aK aV A' h tx H.size hA' _ _ _ _ _ _ e1⟩) (cwV 3 F.2.2.2.2 gL_law_X10_of rfl rfl rfl (by decide +kernel) ⟨(Nat.le_of_ble_eq_true rfl), (Nat.le_of_ble_eq_true rfl)⟩) rfl hl.1 rfl (Nat.le_of_ble_eq_true rfl) dL_law_242 ⟨Nat.le_trans (Nat.add_le_add_left (show rmX10_of_0.cells ≤ 201 from by decide) cells) q1, Nat.le_trans (Nat.add_le_add_left (show rmX10_of_0.slots ≤ 804 from by decide) slots) q2⟩ hE hK hC hS hA (fun H locs hC hS => ?_)
  refine lv_aload_n F.1 F.2.1 dL_law_245 rfl (lv_at hl 2 rfl) ?_
  refine lv_aload_n F.1 F.2.1 dL_law_246 rfl (lv_at hl 0 rfl) ?_
  refine lv_iload_n F.1 F.2.1 dL_law_247 rfl (lv_at hl 3 rfl) ?_
  refine lv_iconst (v := 1) F.1 F.2.1 dL_law_248 (by decide) ?_
  refine lv_iadd F.1 F.2.1 dL_law_249 ?_
  refine va_sld F.1 F.2.1 hX hbl hbA hS v1 dL_law_250 ?_
  refine lv_aload_n F.1 F.2.1 dL_law_251 rfl (lv_at hl 0 rfl) ?_
  refine lv_iload_n F.1 F.2.1 dL_law_252 rfl (lv_at hl 3 rfl) ?_
  refine lv_iconst (v := 2) F.1 F.2.1 dL_law_253 (by decide) ?_
  refine lv_iadd F.1 F.2.1 dL_law_254 ?_
  refine va_sld F.1 F.2.1 hX hbl hbA hS v2 dL_law_255 ?_
  refine lv_aload_n F.1 F.2.1 dL_law_256 rfl (lv_at hl 0 rfl) ?_
  refine lv_iload_n F.1 F.2.1 dL_law_257 rfl (lv_at hl 3 rfl) ?_
  refine lv_iconst (v := 3) F.1 F.2.1 dL_law_258 (by decide) ?_
  refine lv_iadd F.1 F.2.1 dL_law_259 ?_
  refine va_sld F.1 F.2.1 hX hbl hbA hS v3 dL_law_260 ?_
  refine lwmi (As := [.int (xs (x3 + 1).toNatClampNeg), .int (xs (x3 + 2).toNatClampNeg), .int (xs (x3 + 3).toNatClampNeg)]) (rest := [.int r]) F (c_X11_of l dC dI tI tZ h' H.size _ _ _ _ _ _ e2) (cwV 3 F.2.2.2.2 gL_law_X11_of rfl rfl rfl (by decide +kernel) ⟨(Nat.le_of_ble_eq_true rfl), (Nat.le_of_ble_eq_true rfl)⟩) rfl hl.1 rfl (Nat.le_of_ble_eq_true rfl) dL_law_261 ⟨Nat.le_trans (Nat.add_le_add_left (show rmX10_of_0.cells ≤ 201 from by decide) cells) q1, Nat.le_trans (Nat.add_le_add_left (show rmX10_of_0.slots ≤ 804 from by decide) slots) q2⟩ hK hC hS hA (fun H locs hC hS => ?_)
  refine lv_icmp_eq (tgt := 780) F.1 F.2.1 dL_law_264 (by decide) (fun _ => ?_) (fun k => absurd rfl k)
  exact kk H locs _ _ _ _ hC hS hR' (Nat.add_le_add_left (show rmX10_of_0.cells ≤ 201 from by decide) cells) (Nat.add_le_add_left (show rmX10_of_0.slots ≤ 804 from by decide) slots)
set_option maxHeartbeats 4000000 in
set_option maxRecDepth 100000 in
theorem lc_why (F : CallFix p m c cL_law 4 s #[Value.ref b] wsL_law RL) (hX : va_X b L xs s s.heap) (hbl : b < s.heap.size) (hbA : ¬ A b) (hA : ∀ q : Nat, s.heap.size ≤ q → A q) (hE : enC ts aK aV A s s.heap) (hK : va_K (dC, dI) vwCl (tyL t tI tZ) s) (v1 : vp_in (x3 + 1) L) (v2 : vp_in (x3 + 2) L) (v3 : vp_in (x3 + 3) L) (v4 : vp_in (x3 + 4) L) (q1 : cells + 201 ≤ 600000) (q2 : slots + 804 ≤ 7302250) (hl : lv_has ls 4 [(0, .ref b), (1, .ref (h 0)), (2, .ref (h' 0)), (3, .int x3)]) (hR : Rel S M) (hC : lwC dC dI t tI tZ A h h' S M H) (hS : va_S A s.heap H locs) (kk : ∀ (H1 : Heap) (locs1 : List Loc) (S' : CS) (M' : MS) (c1 s1 : Nat), lwC dC dI t tI tZ A h h' S' M' H1 → va_S A s.heap H1 locs1 → Rel S' M' → c1 ≤ cells + 201 → s1 ≤ slots + 804 → W p l e room_1 s m #[Value.ref b] below meth c H1 locs1 c1 s1 Q (F0 m 780 ls [])) : W p l e room_1 s m #[Value.ref b] below meth c H locs cells slots Q (F0 m 269 ls []) := by
  refine lv_aload_n F.1 F.2.1 dL_law_269 rfl (lv_at hl 1 rfl) ?_
  refine lv_aload_n F.1 F.2.1 dL_law_270 rfl (lv_at hl 0 rfl) ?_
  refine lv_iload_n F.1 F.2.1 dL_law_271 rfl (lv_at hl 3 rfl) ?_
  refine lv_iconst (v := 1) F.1 F.2.1 dL_law_272 (by decide) ?_
  refine lv_iadd F.1 F.2.1 dL_law_273 ?_
  refine va_sld F.1 F.2.1 hX hbl hbA hS v1 dL_law_274 ?_
  refine lv_aload_n F.1 F.2.1 dL_law_275 rfl (lv_at hl 0 rfl) ?_
  refine lv_iload_n F.1 F.2.1 dL_law_276 rfl (lv_at hl 3 rfl) ?_
  refine lv_iconst (v := 2) F.1 F.2.1 dL_law_277 (by decide) ?_
  refine lv_iadd F.1 F.2.1 dL_law_278 ?_
  refine va_sld F.1 F.2.1 hX hbl hbA hS v2 dL_law_279 ?_
  obtain ⟨r, S', M', e1, e2, hR'⟩ := agree.2.2.2.1 S M hR (xs (x3 + 1).toNatClampNeg) (xs (x3 + 2).toNatClampNeg)
  refine lwci (As := [.int (xs (x3 + 1).toNatClampNeg), .int (xs (x3 + 2).toNatClampNeg)]) (rest := []) F (fun A' tx hA' => ⟨tx, c_X10_why_0 l dC dI t ts aK aV A' h tx H.size hA' _ _ _ _ _ e1⟩) (cwV 2 F.2.2.2.2 gL_law_X10_why rfl rfl rfl (by decide +kernel) ⟨(Nat.le_of_ble_eq_true rfl), (Nat.le_of_ble_eq_true rfl)⟩) rfl hl.1 rfl (Nat.le_of_ble_eq_true rfl) dL_law_280 ⟨Nat.le_trans (Nat.add_le_add_left (show rmX10_why_0.cells ≤ 201 from by decide) cells) q1, Nat.le_trans (Nat.add_le_add_left (show rmX10_why_0.slots ≤ 804 from by decide) slots) q2⟩ hE hK hC hS hA (fun H locs hC hS => ?_)
  refine lv_aload_n F.1 F.2.1 dL_law_283 rfl (lv_at hl 2 rfl) ?_
  refine lv_aload_n F.1 F.2.1 dL_law_284 rfl (lv_at hl 0 rfl) ?_
  refine lv_iload_n F.1 F.2.1 dL_law_285 rfl (lv_at hl 3 rfl) ?_
  refine lv_iconst (v := 1) F.1 F.2.1 dL_law_286 (by decide) ?_
  refine lv_iadd F.1 F.2.1 dL_law_287 ?_
  refine va_sld F.1 F.2.1 hX hbl hbA hS v1 dL_law_288 ?_
  refine lv_aload_n F.1 F.2.1 dL_law_289 rfl (lv_at hl 0 rfl) ?_
  refine lv_iload_n F.1 F.2.1 dL_law_290 rfl (lv_at hl 3 rfl) ?_
  refine lv_iconst (v := 2) F.1 F.2.1 dL_law_291 (by decide) ?_
  refine lv_iadd F.1 F.2.1 dL_law_292 ?_
  refine va_sld F.1 F.2.1 hX hbl hbA hS v2 dL_law_293 ?_
  refine lwmi (As := [.int (xs (x3 + 1).toNatClampNeg), .int (xs (x3 + 2).toNatClampNeg)]) (rest := [.int r]) F (c_X11_why l dC dI tI tZ h' H.size _ _ _ _ _ e2) (cwV 2 F.2.2.2.2 gL_law_X11_why rfl rfl rfl (by decide +kernel) ⟨(Nat.le_of_ble_eq_true rfl), (Nat.le_of_ble_eq_true rfl)⟩) rfl hl.1 rfl (Nat.le_of_ble_eq_true rfl) dL_law_294 ⟨Nat.le_trans (Nat.add_le_add_left (show rmX10_why_0.cells ≤ 201 from by decide) cells) q1, Nat.le_trans (Nat.add_le_add_left (show rmX10_why_0.slots ≤ 804 from by decide) slots) q2⟩ hK hC hS hA (fun H locs hC hS => ?_)
  refine lv_icmp_eq (tgt := 780) F.1 F.2.1 dL_law_297 (by decide) (fun _ => ?_) (fun k => absurd rfl k)
  exact kk H locs _ _ _ _ hC hS hR' (Nat.add_le_add_left (show rmX10_why_0.cells ≤ 201 from by decide) cells) (Nat.add_le_add_left (show rmX10_why_0.slots ≤ 804 from by decide) slots)
set_option maxHeartbeats 4000000 in
set_option maxRecDepth 100000 in
theorem lc_type (F : CallFix p m c cL_law 4 s #[Value.ref b] wsL_law RL) (hX : va_X b L xs s s.heap) (hbl : b < s.heap.size) (hbA : ¬ A b) (hA : ∀ q : Nat, s.heap.size ≤ q → A q) (hE : enC ts aK aV A s s.heap) (hK : va_K (dC, dI) vwCl (tyL t tI tZ) s) (v1 : vp_in (x3 + 1) L) (v2 : vp_in (x3 + 2) L) (v3 : vp_in (x3 + 3) L) (v4 : vp_in (x3 + 4) L) (q1 : cells + 201 ≤ 600000) (q2 : slots + 804 ≤ 7302250) (hl : lv_has ls 4 [(0, .ref b), (1, .ref (h 0)), (2, .ref (h' 0)), (3, .int x3)]) (hR : Rel S M) (hC : lwC dC dI t tI tZ A h h' S M H) (hS : va_S A s.heap H locs) (kk : ∀ (H1 : Heap) (locs1 : List Loc) (S' : CS) (M' : MS) (c1 s1 : Nat), lwC dC dI t tI tZ A h h' S' M' H1 → va_S A s.heap H1 locs1 → Rel S' M' → c1 ≤ cells + 201 → s1 ≤ slots + 804 → W p l e room_1 s m #[Value.ref b] below meth c H1 locs1 c1 s1 Q (F0 m 780 ls [])) : W p l e room_1 s m #[Value.ref b] below meth c H locs cells slots Q (F0 m 302 ls []) := by
  have hlc : (Jvm.Cond.constantLong RL 32 4294967295).before #[Value.ref b] s = true := F.2.2.2.2 _ (by decide +kernel)
  refine lv_aload_n F.1 F.2.1 dL_law_302 rfl (lv_at hl 1 rfl) ?_
  refine lv_aload_n F.1 F.2.1 dL_law_303 rfl (lv_at hl 0 rfl) ?_
  refine lv_iload_n F.1 F.2.1 dL_law_304 rfl (lv_at hl 3 rfl) ?_
  refine lv_iconst (v := 1) F.1 F.2.1 dL_law_305 (by decide) ?_
  refine lv_iadd F.1 F.2.1 dL_law_306 ?_
  refine va_sld F.1 F.2.1 hX hbl hbA hS v1 dL_law_307 ?_
  refine lv_i2l F.1 F.2.1 dL_law_308 rfl ?_
  refine lv_bipush (v := 32) F.1 F.2.1 dL_law_309 rfl ?_
  refine lv_lshl F.1 F.2.1 dL_law_311 rfl ?_
  refine lv_aload_n F.1 F.2.1 dL_law_312 rfl (lv_at hl 0 rfl) ?_
  refine lv_iload_n F.1 F.2.1 dL_law_313 rfl (lv_at hl 3 rfl) ?_
  refine lv_iconst (v := 2) F.1 F.2.1 dL_law_314 (by decide) ?_
  refine lv_iadd F.1 F.2.1 dL_law_315 ?_
  refine va_sld F.1 F.2.1 hX hbl hbA hS v2 dL_law_316 ?_
  refine lv_i2l F.1 F.2.1 dL_law_317 rfl ?_
  refine lv_ldc2 (own := RL) (v := 4294967295) F.1 F.2.1 F.2.2.2.1 hlc dL_law_318 ?_
  refine lv_land F.1 F.2.1 dL_law_321 ?_
  refine lv_lor F.1 F.2.1 dL_law_322 ?_
  refine lv_topl (fun y0 e0 => ?_)
  refine lv_aload_n F.1 F.2.1 dL_law_323 rfl (lv_at hl 0 rfl) ?_
  refine lv_iload_n F.1 F.2.1 dL_law_324 rfl (lv_at hl 3 rfl) ?_
  refine lv_iconst (v := 3) F.1 F.2.1 dL_law_325 (by decide) ?_
  refine lv_iadd F.1 F.2.1 dL_law_326 ?_
  refine va_sld F.1 F.2.1 hX hbl hbA hS v3 dL_law_327 ?_
  obtain ⟨r, S', M', e1, e2, hR'⟩ := agree.2.2.2.2.1 S M hR y0 (xs (x3 + 3).toNatClampNeg)
  refine lwci (As := [.long y0, .int (xs (x3 + 3).toNatClampNeg)]) (rest := []) F (fun A' tx hA' => ⟨tx, c_X10_type_0 l dC dI t ts aK aV A' h tx H.size hA' _ _ _ _ _ e1⟩) (cwV 2 F.2.2.2.2 gL_law_X10_type rfl rfl rfl (by decide +kernel) ⟨(Nat.le_of_ble_eq_true rfl), (Nat.le_of_ble_eq_true rfl)⟩) rfl hl.1 rfl (Nat.le_of_ble_eq_true rfl) dL_law_328 ⟨Nat.le_trans (Nat.add_le_add_left (show rmX10_type_0.cells ≤ 201 from by decide) cells) q1, Nat.le_trans (Nat.add_le_add_left (show rmX10_type_0.slots ≤ 804 from by decide) slots) q2⟩ hE hK hC hS hA (fun H locs hC hS => ?_)
  refine lv_aload_n F.1 F.2.1 dL_law_331 rfl (lv_at hl 2 rfl) ?_
  refine lv_aload_n F.1 F.2.1 dL_law_332 rfl (lv_at hl 0 rfl) ?_
  refine lv_iload_n F.1 F.2.1 dL_law_333 rfl (lv_at hl 3 rfl) ?_
  refine lv_iconst (v := 1) F.1 F.2.1 dL_law_334 (by decide) ?_
  refine lv_iadd F.1 F.2.1 dL_law_335 ?_
  refine va_sld F.1 F.2.1 hX hbl hbA hS v1 dL_law_336 ?_
  refine lv_i2l F.1 F.2.1 dL_law_337 rfl ?_
  refine lv_bipush (v := 32) F.1 F.2.1 dL_law_338 rfl ?_
  refine lv_lshl F.1 F.2.1 dL_law_340 rfl ?_
  refine lv_aload_n F.1 F.2.1 dL_law_341 rfl (lv_at hl 0 rfl) ?_
  refine lv_iload_n F.1 F.2.1 dL_law_342 rfl (lv_at hl 3 rfl) ?_
  refine lv_iconst (v := 2) F.1 F.2.1 dL_law_343 (by decide) ?_
  refine lv_iadd F.1 F.2.1 dL_law_344 ?_
  refine va_sld F.1 F.2.1 hX hbl hbA hS v2 dL_law_345 ?_
  refine lv_i2l F.1 F.2.1 dL_law_346 rfl ?_
  refine lv_ldc2 (own := RL) (v := 4294967295) F.1 F.2.1 F.2.2.2.1 hlc dL_law_347 ?_
  refine lv_land F.1 F.2.1 dL_law_350 ?_
  refine lv_lor F.1 F.2.1 dL_law_351 ?_
  refine lv_topl (fun y1 e1' => ?_)
  have e3 : y1 = y0 := e1'.trans e0.symm
  rw [e3]
  refine lv_aload_n F.1 F.2.1 dL_law_352 rfl (lv_at hl 0 rfl) ?_
  refine lv_iload_n F.1 F.2.1 dL_law_353 rfl (lv_at hl 3 rfl) ?_
  refine lv_iconst (v := 3) F.1 F.2.1 dL_law_354 (by decide) ?_
  refine lv_iadd F.1 F.2.1 dL_law_355 ?_
  refine va_sld F.1 F.2.1 hX hbl hbA hS v3 dL_law_356 ?_
  refine lwmi (As := [.long y0, .int (xs (x3 + 3).toNatClampNeg)]) (rest := [.int r]) F (c_X11_type l dC dI tI tZ h' H.size _ _ _ _ _ e2) (cwV 2 F.2.2.2.2 gL_law_X11_type rfl rfl rfl (by decide +kernel) ⟨(Nat.le_of_ble_eq_true rfl), (Nat.le_of_ble_eq_true rfl)⟩) rfl hl.1 rfl (Nat.le_of_ble_eq_true rfl) dL_law_357 ⟨Nat.le_trans (Nat.add_le_add_left (show rmX10_type_0.cells ≤ 201 from by decide) cells) q1, Nat.le_trans (Nat.add_le_add_left (show rmX10_type_0.slots ≤ 804 from by decide) slots) q2⟩ hK hC hS hA (fun H locs hC hS => ?_)
  refine lv_icmp_eq (tgt := 780) F.1 F.2.1 dL_law_360 (by decide) (fun _ => ?_) (fun k => absurd rfl k)
  exact kk H locs _ _ _ _ hC hS hR' (Nat.add_le_add_left (show rmX10_type_0.cells ≤ 201 from by decide) cells) (Nat.add_le_add_left (show rmX10_type_0.slots ≤ 804 from by decide) slots)
set_option maxHeartbeats 4000000 in
set_option maxRecDepth 100000 in
theorem lc_clear (F : CallFix p m c cL_law 4 s #[Value.ref b] wsL_law RL) (hX : va_X b L xs s s.heap) (hbl : b < s.heap.size) (hbA : ¬ A b) (hA : ∀ q : Nat, s.heap.size ≤ q → A q) (hE : enC ts aK aV A s s.heap) (hK : va_K (dC, dI) vwCl (tyL t tI tZ) s) (v1 : vp_in (x3 + 1) L) (v2 : vp_in (x3 + 2) L) (v3 : vp_in (x3 + 3) L) (v4 : vp_in (x3 + 4) L) (q1 : cells + 201 ≤ 600000) (q2 : slots + 804 ≤ 7302250) (hl : lv_has ls 4 [(0, .ref b), (1, .ref (h 0)), (2, .ref (h' 0)), (3, .int x3)]) (hR : Rel S M) (hC : lwC dC dI t tI tZ A h h' S M H) (hS : va_S A s.heap H locs) (kk : ∀ (H1 : Heap) (locs1 : List Loc) (S' : CS) (M' : MS) (c1 s1 : Nat), lwC dC dI t tI tZ A h h' S' M' H1 → va_S A s.heap H1 locs1 → Rel S' M' → c1 ≤ cells + 201 → s1 ≤ slots + 804 → W p l e room_1 s m #[Value.ref b] below meth c H1 locs1 c1 s1 Q (F0 m 780 ls [])) : W p l e room_1 s m #[Value.ref b] below meth c H locs cells slots Q (F0 m 365 ls []) := by
  refine lv_aload_n F.1 F.2.1 dL_law_365 rfl (lv_at hl 1 rfl) ?_
  obtain ⟨r, S', M', e1, e2, hR'⟩ := agree.2.2.2.2.2.1 S M hR
  refine lwci (As := []) (rest := []) F (fun A' tx hA' => ⟨tx, c_X10_clear_0 l dC dI t ts aK aV A' h tx H.size hA' _ _ _ e1⟩) (cwV 0 F.2.2.2.2 gL_law_X10_clear rfl rfl rfl (by decide +kernel) ⟨(Nat.le_of_ble_eq_true rfl), (Nat.le_of_ble_eq_true rfl)⟩) rfl hl.1 rfl (Nat.le_of_ble_eq_true rfl) dL_law_366 ⟨Nat.le_trans (Nat.add_le_add_left (show rmX10_clear_0.cells ≤ 201 from by decide) cells) q1, Nat.le_trans (Nat.add_le_add_left (show rmX10_clear_0.slots ≤ 804 from by decide) slots) q2⟩ hE hK hC hS hA (fun H locs hC hS => ?_)
  refine lv_aload_n F.1 F.2.1 dL_law_369 rfl (lv_at hl 2 rfl) ?_
  refine lwmi (As := []) (rest := [.int r]) F (c_X11_clear l dC dI tI tZ h' H.size _ _ _ e2) (cwV 0 F.2.2.2.2 gL_law_X11_clear rfl rfl rfl (by decide +kernel) ⟨(Nat.le_of_ble_eq_true rfl), (Nat.le_of_ble_eq_true rfl)⟩) rfl hl.1 rfl (Nat.le_of_ble_eq_true rfl) dL_law_370 ⟨Nat.le_trans (Nat.add_le_add_left (show rmX10_clear_0.cells ≤ 201 from by decide) cells) q1, Nat.le_trans (Nat.add_le_add_left (show rmX10_clear_0.slots ≤ 804 from by decide) slots) q2⟩ hK hC hS hA (fun H locs hC hS => ?_)
  refine lv_icmp_eq (tgt := 780) F.1 F.2.1 dL_law_373 (by decide) (fun _ => ?_) (fun k => absurd rfl k)
  exact kk H locs _ _ _ _ hC hS hR' (Nat.add_le_add_left (show rmX10_clear_0.cells ≤ 201 from by decide) cells) (Nat.add_le_add_left (show rmX10_clear_0.slots ≤ 804 from by decide) slots)
set_option maxHeartbeats 4000000 in
set_option maxRecDepth 100000 in
theorem lc_read (F : CallFix p m c cL_law 4 s #[Value.ref b] wsL_law RL) (hX : va_X b L xs s s.heap) (hbl : b < s.heap.size) (hbA : ¬ A b) (hA : ∀ q : Nat, s.heap.size ≤ q → A q) (hE : enC ts aK aV A s s.heap) (hK : va_K (dC, dI) vwCl (tyL t tI tZ) s) (v1 : vp_in (x3 + 1) L) (v2 : vp_in (x3 + 2) L) (v3 : vp_in (x3 + 3) L) (v4 : vp_in (x3 + 4) L) (q1 : cells + 201 ≤ 600000) (q2 : slots + 804 ≤ 7302250) (hl : lv_has ls 4 [(0, .ref b), (1, .ref (h 0)), (2, .ref (h' 0)), (3, .int x3)]) (hR : Rel S M) (hC : lwC dC dI t tI tZ A h h' S M H) (hS : va_S A s.heap H locs) (kk : ∀ (H1 : Heap) (locs1 : List Loc) (S' : CS) (M' : MS) (c1 s1 : Nat), lwC dC dI t tI tZ A h h' S' M' H1 → va_S A s.heap H1 locs1 → Rel S' M' → c1 ≤ cells + 201 → s1 ≤ slots + 804 → W p l e room_1 s m #[Value.ref b] below meth c H1 locs1 c1 s1 Q (F0 m 780 ls [])) : W p l e room_1 s m #[Value.ref b] below meth c H locs cells slots Q (F0 m 378 ls []) := by
  refine lv_aload_n F.1 F.2.1 dL_law_378 rfl (lv_at hl 1 rfl) ?_
  obtain ⟨r, S', M', e1, e2, hR'⟩ := agree.2.2.2.2.2.2.1 S M hR
  refine lwci (As := []) (rest := []) F (fun A' tx hA' => ⟨h 8, c_X10_read_0 l dC dI t ts aK aV A' h tx H.size hA' _ _ _ e1⟩) (cwV 0 F.2.2.2.2 gL_law_X10_read rfl rfl rfl (by decide +kernel) ⟨(Nat.le_of_ble_eq_true rfl), (Nat.le_of_ble_eq_true rfl)⟩) rfl hl.1 rfl (Nat.le_of_ble_eq_true rfl) dL_law_379 ⟨Nat.le_trans (Nat.add_le_add_left (show rmX10_read_0.cells ≤ 201 from by decide) cells) q1, Nat.le_trans (Nat.add_le_add_left (show rmX10_read_0.slots ≤ 804 from by decide) slots) q2⟩ hE hK hC hS hA (fun H locs hC hS => ?_)
  refine lv_aload_n F.1 F.2.1 dL_law_382 rfl (lv_at hl 2 rfl) ?_
  refine lwmi (As := []) (rest := [.int r]) F (c_X11_read l dC dI tI tZ h' H.size _ _ _ e2) (cwV 0 F.2.2.2.2 gL_law_X11_read rfl rfl rfl (by decide +kernel) ⟨(Nat.le_of_ble_eq_true rfl), (Nat.le_of_ble_eq_true rfl)⟩) rfl hl.1 rfl (Nat.le_of_ble_eq_true rfl) dL_law_383 ⟨Nat.le_trans (Nat.add_le_add_left (show rmX10_read_0.cells ≤ 201 from by decide) cells) q1, Nat.le_trans (Nat.add_le_add_left (show rmX10_read_0.slots ≤ 804 from by decide) slots) q2⟩ hK hC hS hA (fun H locs hC hS => ?_)
  refine lv_icmp_eq (tgt := 780) F.1 F.2.1 dL_law_386 (by decide) (fun _ => ?_) (fun k => absurd rfl k)
  exact kk H locs _ _ _ _ hC hS hR' (Nat.add_le_add_left (show rmX10_read_0.cells ≤ 201 from by decide) cells) (Nat.add_le_add_left (show rmX10_read_0.slots ≤ 804 from by decide) slots)
set_option maxHeartbeats 4000000 in
set_option maxRecDepth 100000 in
theorem lc_judged (F : CallFix p m c cL_law 4 s #[Value.ref b] wsL_law RL) (hX : va_X b L xs s s.heap) (hbl : b < s.heap.size) (hbA : ¬ A b) (hA : ∀ q : Nat, s.heap.size ≤ q → A q) (hE : enC ts aK aV A s s.heap) (hK : va_K (dC, dI) vwCl (tyL t tI tZ) s) (v1 : vp_in (x3 + 1) L) (v2 : vp_in (x3 + 2) L) (v3 : vp_in (x3 + 3) L) (v4 : vp_in (x3 + 4) L) (q1 : cells + 201 ≤ 600000) (q2 : slots + 804 ≤ 7302250) (hl : lv_has ls 4 [(0, .ref b), (1, .ref (h 0)), (2, .ref (h' 0)), (3, .int x3)]) (hR : Rel S M) (hC : lwC dC dI t tI tZ A h h' S M H) (hS : va_S A s.heap H locs) (kk : ∀ (H1 : Heap) (locs1 : List Loc) (S' : CS) (M' : MS) (c1 s1 : Nat), lwC dC dI t tI tZ A h h' S' M' H1 → va_S A s.heap H1 locs1 → Rel S' M' → c1 ≤ cells + 201 → s1 ≤ slots + 804 → W p l e room_1 s m #[Value.ref b] below meth c H1 locs1 c1 s1 Q (F0 m 780 ls [])) : W p l e room_1 s m #[Value.ref b] below meth c H locs cells slots Q (F0 m 391 ls []) := by
  refine lv_aload_n F.1 F.2.1 dL_law_391 rfl (lv_at hl 1 rfl) ?_
  obtain ⟨r, S', M', e1, e2, hR'⟩ := agree.2.2.2.2.2.2.2.1 S M hR
  obtain ⟨e1, eS⟩ := e1
  subst eS
  refine lwci (As := []) (rest := []) F (fun A' tx hA' => ⟨tx, c_X10_judged_0 l dC dI t ts aK aV A' h tx H.size hA' _ _ e1⟩) (cwV 0 F.2.2.2.2 gL_law_X10_judged rfl rfl rfl (by decide +kernel) ⟨(Nat.le_of_ble_eq_true rfl), (Nat.le_of_ble_eq_true rfl)⟩) rfl hl.1 rfl (Nat.le_of_ble_eq_true rfl) dL_law_392 ⟨Nat.le_trans (Nat.add_le_add_left (show rmX10_judged_0.cells ≤ 201 from by decide) cells) q1, Nat.le_trans (Nat.add_le_add_left (show rmX10_judged_0.slots ≤ 804 from by decide) slots) q2⟩ hE hK hC hS hA (fun H locs hC hS => ?_)
  refine lv_aload_n F.1 F.2.1 dL_law_395 rfl (lv_at hl 2 rfl) ?_
  refine lwmi (As := []) (rest := [.int r]) F (c_X11_judged l dC dI tI tZ h' H.size _ _ _ e2) (cwV 0 F.2.2.2.2 gL_law_X11_judged rfl rfl rfl (by decide +kernel) ⟨(Nat.le_of_ble_eq_true rfl), (Nat.le_of_ble_eq_true rfl)⟩) rfl hl.1 rfl (Nat.le_of_ble_eq_true rfl) dL_law_396 ⟨Nat.le_trans (Nat.add_le_add_left (show rmX10_judged_0.cells ≤ 201 from by decide) cells) q1, Nat.le_trans (Nat.add_le_add_left (show rmX10_judged_0.slots ≤ 804 from by decide) slots) q2⟩ hK hC hS hA (fun H locs hC hS => ?_)
  refine lv_icmp_eq (tgt := 780) F.1 F.2.1 dL_law_399 (by decide) (fun _ => ?_) (fun k => absurd rfl k)
  exact kk H locs _ _ _ _ hC hS hR' (Nat.add_le_add_left (show rmX10_judged_0.cells ≤ 201 from by decide) cells) (Nat.add_le_add_left (show rmX10_judged_0.slots ≤ 804 from by decide) slots)
set_option maxHeartbeats 4000000 in
set_option maxRecDepth 100000 in
theorem lc_there (F : CallFix p m c cL_law 4 s #[Value.ref b] wsL_law RL) (hX : va_X b L xs s s.heap) (hbl : b < s.heap.size) (hbA : ¬ A b) (hA : ∀ q : Nat, s.heap.size ≤ q → A q) (hE : enC ts aK aV A s s.heap) (hK : va_K (dC, dI) vwCl (tyL t tI tZ) s) (v1 : vp_in (x3 + 1) L) (v2 : vp_in (x3 + 2) L) (v3 : vp_in (x3 + 3) L) (v4 : vp_in (x3 + 4) L) (q1 : cells + 201 ≤ 600000) (q2 : slots + 804 ≤ 7302250) (hl : lv_has ls 4 [(0, .ref b), (1, .ref (h 0)), (2, .ref (h' 0)), (3, .int x3)]) (hR : Rel S M) (hC : lwC dC dI t tI tZ A h h' S M H) (hS : va_S A s.heap H locs) (kk : ∀ (H1 : Heap) (locs1 : List Loc) (S' : CS) (M' : MS) (c1 s1 : Nat), lwC dC dI t tI tZ A h h' S' M' H1 → va_S A s.heap H1 locs1 → Rel S' M' → c1 ≤ cells + 201 → s1 ≤ slots + 804 → W p l e room_1 s m #[Value.ref b] below meth c H1 locs1 c1 s1 Q (F0 m 780 ls [])) : W p l e room_1 s m #[Value.ref b] below meth c H locs cells slots Q (F0 m 404 ls []) := by
  refine lv_aload_n F.1 F.2.1 dL_law_404 rfl (lv_at hl 1 rfl) ?_
  obtain ⟨r, S', M', e1, e2, hR'⟩ := agree.2.2.2.2.2.2.2.2.1 S M hR
  obtain ⟨e1, eS⟩ := e1
  subst eS
  refine lwci (As := []) (rest := []) F (fun A' tx hA' => ⟨tx, c_X10_there_0 l dC dI t ts aK aV A' h tx H.size hA' _ _ e1⟩) (cwV 0 F.2.2.2.2 gL_law_X10_there rfl rfl rfl (by decide +kernel) ⟨(Nat.le_of_ble_eq_true rfl), (Nat.le_of_ble_eq_true rfl)⟩) rfl hl.1 rfl (Nat.le_of_ble_eq_true rfl) dL_law_405 ⟨Nat.le_trans (Nat.add_le_add_left (show rmX10_there_0.cells ≤ 201 from by decide) cells) q1, Nat.le_trans (Nat.add_le_add_left (show rmX10_there_0.slots ≤ 804 from by decide) slots) q2⟩ hE hK hC hS hA (fun H locs hC hS => ?_)
  refine lv_aload_n F.1 F.2.1 dL_law_408 rfl (lv_at hl 2 rfl) ?_
  refine lwmi (As := []) (rest := [.int r]) F (c_X11_there l dC dI tI tZ h' H.size _ _ _ e2) (cwV 0 F.2.2.2.2 gL_law_X11_there rfl rfl rfl (by decide +kernel) ⟨(Nat.le_of_ble_eq_true rfl), (Nat.le_of_ble_eq_true rfl)⟩) rfl hl.1 rfl (Nat.le_of_ble_eq_true rfl) dL_law_409 ⟨Nat.le_trans (Nat.add_le_add_left (show rmX10_there_0.cells ≤ 201 from by decide) cells) q1, Nat.le_trans (Nat.add_le_add_left (show rmX10_there_0.slots ≤ 804 from by decide) slots) q2⟩ hK hC hS hA (fun H locs hC hS => ?_)
  refine lv_icmp_eq (tgt := 780) F.1 F.2.1 dL_law_412 (by decide) (fun _ => ?_) (fun k => absurd rfl k)
  exact kk H locs _ _ _ _ hC hS hR' (Nat.add_le_add_left (show rmX10_there_0.cells ≤ 201 from by decide) cells) (Nat.add_le_add_left (show rmX10_there_0.slots ≤ 804 from by decide) slots)
set_option maxHeartbeats 4000000 in
set_option maxRecDepth 100000 in
theorem lc_least (F : CallFix p m c cL_law 4 s #[Value.ref b] wsL_law RL) (hX : va_X b L xs s s.heap) (hbl : b < s.heap.size) (hbA : ¬ A b) (hA : ∀ q : Nat, s.heap.size ≤ q → A q) (hE : enC ts aK aV A s s.heap) (hK : va_K (dC, dI) vwCl (tyL t tI tZ) s) (v1 : vp_in (x3 + 1) L) (v2 : vp_in (x3 + 2) L) (v3 : vp_in (x3 + 3) L) (v4 : vp_in (x3 + 4) L) (q1 : cells + 201 ≤ 600000) (q2 : slots + 804 ≤ 7302250) (hl : lv_has ls 4 [(0, .ref b), (1, .ref (h 0)), (2, .ref (h' 0)), (3, .int x3)]) (hR : Rel S M) (hC : lwC dC dI t tI tZ A h h' S M H) (hS : va_S A s.heap H locs) (kk : ∀ (H1 : Heap) (locs1 : List Loc) (S' : CS) (M' : MS) (c1 s1 : Nat), lwC dC dI t tI tZ A h h' S' M' H1 → va_S A s.heap H1 locs1 → Rel S' M' → c1 ≤ cells + 201 → s1 ≤ slots + 804 → W p l e room_1 s m #[Value.ref b] below meth c H1 locs1 c1 s1 Q (F0 m 780 ls [])) : W p l e room_1 s m #[Value.ref b] below meth c H locs cells slots Q (F0 m 417 ls []) := by
  refine lv_aload_n F.1 F.2.1 dL_law_417 rfl (lv_at hl 1 rfl) ?_
  refine lv_aload_n F.1 F.2.1 dL_law_418 rfl (lv_at hl 0 rfl) ?_
  refine lv_iload_n F.1 F.2.1 dL_law_419 rfl (lv_at hl 3 rfl) ?_
  refine lv_iconst (v := 1) F.1 F.2.1 dL_law_420 (by decide) ?_
  refine lv_iadd F.1 F.2.1 dL_law_421 ?_
  refine va_sld F.1 F.2.1 hX hbl hbA hS v1 dL_law_422 ?_
  refine lv_aload_n F.1 F.2.1 dL_law_423 rfl (lv_at hl 0 rfl) ?_
  refine lv_iload_n F.1 F.2.1 dL_law_424 rfl (lv_at hl 3 rfl) ?_
  refine lv_iconst (v := 2) F.1 F.2.1 dL_law_425 (by decide) ?_
  refine lv_iadd F.1 F.2.1 dL_law_426 ?_
  refine va_sld F.1 F.2.1 hX hbl hbA hS v2 dL_law_427 ?_
  obtain ⟨r, S', M', e1, e2, hR'⟩ := agree.2.2.2.2.2.2.2.2.2.1 S M hR (xs (x3 + 1).toNatClampNeg) (xs (x3 + 2).toNatClampNeg)
  refine lwci (As := [.int (xs (x3 + 1).toNatClampNeg), .int (xs (x3 + 2).toNatClampNeg)]) (rest := []) F (fun A' tx hA' => ⟨tx, c_X10_least_0 l dC dI t ts aK aV A' h tx H.size hA' _ _ _ _ _ e1⟩) (cwV 2 F.2.2.2.2 gL_law_X10_least rfl rfl rfl (by decide +kernel) ⟨(Nat.le_of_ble_eq_true rfl), (Nat.le_of_ble_eq_true rfl)⟩) rfl hl.1 rfl (Nat.le_of_ble_eq_true rfl) dL_law_428 ⟨Nat.le_trans (Nat.add_le_add_left (show rmX10_least_0.cells ≤ 201 from by decide) cells) q1, Nat.le_trans (Nat.add_le_add_left (show rmX10_least_0.slots ≤ 804 from by decide) slots) q2⟩ hE hK hC hS hA (fun H locs hC hS => ?_)
  refine lv_aload_n F.1 F.2.1 dL_law_431 rfl (lv_at hl 2 rfl) ?_
  refine lv_aload_n F.1 F.2.1 dL_law_432 rfl (lv_at hl 0 rfl) ?_
  refine lv_iload_n F.1 F.2.1 dL_law_433 rfl (lv_at hl 3 rfl) ?_
  refine lv_iconst (v := 1) F.1 F.2.1 dL_law_434 (by decide) ?_
  refine lv_iadd F.1 F.2.1 dL_law_435 ?_
  refine va_sld F.1 F.2.1 hX hbl hbA hS v1 dL_law_436 ?_
  refine lv_aload_n F.1 F.2.1 dL_law_437 rfl (lv_at hl 0 rfl) ?_
  refine lv_iload_n F.1 F.2.1 dL_law_438 rfl (lv_at hl 3 rfl) ?_
  refine lv_iconst (v := 2) F.1 F.2.1 dL_law_439 (by decide) ?_
  refine lv_iadd F.1 F.2.1 dL_law_440 ?_
  refine va_sld F.1 F.2.1 hX hbl hbA hS v2 dL_law_441 ?_
  refine lwmi (As := [.int (xs (x3 + 1).toNatClampNeg), .int (xs (x3 + 2).toNatClampNeg)]) (rest := [.int r]) F (c_X11_least l dC dI tI tZ h' H.size _ _ _ _ _ e2) (cwV 2 F.2.2.2.2 gL_law_X11_least rfl rfl rfl (by decide +kernel) ⟨(Nat.le_of_ble_eq_true rfl), (Nat.le_of_ble_eq_true rfl)⟩) rfl hl.1 rfl (Nat.le_of_ble_eq_true rfl) dL_law_442 ⟨Nat.le_trans (Nat.add_le_add_left (show rmX10_least_0.cells ≤ 201 from by decide) cells) q1, Nat.le_trans (Nat.add_le_add_left (show rmX10_least_0.slots ≤ 804 from by decide) slots) q2⟩ hK hC hS hA (fun H locs hC hS => ?_)
  refine lv_icmp_eq (tgt := 780) F.1 F.2.1 dL_law_445 (by decide) (fun _ => ?_) (fun k => absurd rfl k)
  exact kk H locs _ _ _ _ hC hS hR' (Nat.add_le_add_left (show rmX10_least_0.cells ≤ 201 from by decide) cells) (Nat.add_le_add_left (show rmX10_least_0.slots ≤ 804 from by decide) slots)
set_option maxHeartbeats 4000000 in
set_option maxRecDepth 100000 in
theorem lc_row (F : CallFix p m c cL_law 4 s #[Value.ref b] wsL_law RL) (hX : va_X b L xs s s.heap) (hbl : b < s.heap.size) (hbA : ¬ A b) (hA : ∀ q : Nat, s.heap.size ≤ q → A q) (hE : enC ts aK aV A s s.heap) (hK : va_K (dC, dI) vwCl (tyL t tI tZ) s) (v1 : vp_in (x3 + 1) L) (v2 : vp_in (x3 + 2) L) (v3 : vp_in (x3 + 3) L) (v4 : vp_in (x3 + 4) L) (q1 : cells + 201 ≤ 600000) (q2 : slots + 804 ≤ 7302250) (hl : lv_has ls 4 [(0, .ref b), (1, .ref (h 0)), (2, .ref (h' 0)), (3, .int x3)]) (hR : Rel S M) (hC : lwC dC dI t tI tZ A h h' S M H) (hS : va_S A s.heap H locs) (kk : ∀ (H1 : Heap) (locs1 : List Loc) (S' : CS) (M' : MS) (c1 s1 : Nat), lwC dC dI t tI tZ A h h' S' M' H1 → va_S A s.heap H1 locs1 → Rel S' M' → c1 ≤ cells + 201 → s1 ≤ slots + 804 → W p l e room_1 s m #[Value.ref b] below meth c H1 locs1 c1 s1 Q (F0 m 780 ls [])) : W p l e room_1 s m #[Value.ref b] below meth c H locs cells slots Q (F0 m 450 ls []) := by
  refine lv_aload_n F.1 F.2.1 dL_law_450 rfl (lv_at hl 1 rfl) ?_
  refine lv_aload_n F.1 F.2.1 dL_law_451 rfl (lv_at hl 0 rfl) ?_
  refine lv_iload_n F.1 F.2.1 dL_law_452 rfl (lv_at hl 3 rfl) ?_
  refine lv_iconst (v := 1) F.1 F.2.1 dL_law_453 (by decide) ?_
  refine lv_iadd F.1 F.2.1 dL_law_454 ?_
  refine va_sld F.1 F.2.1 hX hbl hbA hS v1 dL_law_455 ?_
  refine lv_aload_n F.1 F.2.1 dL_law_456 rfl (lv_at hl 0 rfl) ?_
  refine lv_iload_n F.1 F.2.1 dL_law_457 rfl (lv_at hl 3 rfl) ?_
  refine lv_iconst (v := 2) F.1 F.2.1 dL_law_458 (by decide) ?_
  refine lv_iadd F.1 F.2.1 dL_law_459 ?_
  refine va_sld F.1 F.2.1 hX hbl hbA hS v2 dL_law_460 ?_
  obtain ⟨r, S', M', e1, e2, hR'⟩ := agree.2.2.2.2.2.2.2.2.2.2.1 S M hR (xs (x3 + 1).toNatClampNeg) (xs (x3 + 2).toNatClampNeg)
  refine lwci (As := [.int (xs (x3 + 1).toNatClampNeg), .int (xs (x3 + 2).toNatClampNeg)]) (rest := []) F (fun A' tx hA' => ⟨tx, c_X10_row_0 l dC dI t ts aK aV A' h tx H.size hA' _ _ _ _ _ e1⟩) (cwV 2 F.2.2.2.2 gL_law_X10_row rfl rfl rfl (by decide +kernel) ⟨(Nat.le_of_ble_eq_true rfl), (Nat.le_of_ble_eq_true rfl)⟩) rfl hl.1 rfl (Nat.le_of_ble_eq_true rfl) dL_law_461 ⟨Nat.le_trans (Nat.add_le_add_left (show rmX10_row_0.cells ≤ 201 from by decide) cells) q1, Nat.le_trans (Nat.add_le_add_left (show rmX10_row_0.slots ≤ 804 from by decide) slots) q2⟩ hE hK hC hS hA (fun H locs hC hS => ?_)
  refine lv_aload_n F.1 F.2.1 dL_law_464 rfl (lv_at hl 2 rfl) ?_
  refine lv_aload_n F.1 F.2.1 dL_law_465 rfl (lv_at hl 0 rfl) ?_
  refine lv_iload_n F.1 F.2.1 dL_law_466 rfl (lv_at hl 3 rfl) ?_
  refine lv_iconst (v := 1) F.1 F.2.1 dL_law_467 (by decide) ?_
  refine lv_iadd F.1 F.2.1 dL_law_468 ?_
  refine va_sld F.1 F.2.1 hX hbl hbA hS v1 dL_law_469 ?_
  refine lv_aload_n F.1 F.2.1 dL_law_470 rfl (lv_at hl 0 rfl) ?_
  refine lv_iload_n F.1 F.2.1 dL_law_471 rfl (lv_at hl 3 rfl) ?_
  refine lv_iconst (v := 2) F.1 F.2.1 dL_law_472 (by decide) ?_
  refine lv_iadd F.1 F.2.1 dL_law_473 ?_
  refine va_sld F.1 F.2.1 hX hbl hbA hS v2 dL_law_474 ?_
  refine lwmi (As := [.int (xs (x3 + 1).toNatClampNeg), .int (xs (x3 + 2).toNatClampNeg)]) (rest := [.int r]) F (c_X11_row l dC dI tI tZ h' H.size _ _ _ _ _ e2) (cwV 2 F.2.2.2.2 gL_law_X11_row rfl rfl rfl (by decide +kernel) ⟨(Nat.le_of_ble_eq_true rfl), (Nat.le_of_ble_eq_true rfl)⟩) rfl hl.1 rfl (Nat.le_of_ble_eq_true rfl) dL_law_475 ⟨Nat.le_trans (Nat.add_le_add_left (show rmX10_row_0.cells ≤ 201 from by decide) cells) q1, Nat.le_trans (Nat.add_le_add_left (show rmX10_row_0.slots ≤ 804 from by decide) slots) q2⟩ hK hC hS hA (fun H locs hC hS => ?_)
  refine lv_icmp_eq (tgt := 780) F.1 F.2.1 dL_law_478 (by decide) (fun _ => ?_) (fun k => absurd rfl k)
  exact kk H locs _ _ _ _ hC hS hR' (Nat.add_le_add_left (show rmX10_row_0.cells ≤ 201 from by decide) cells) (Nat.add_le_add_left (show rmX10_row_0.slots ≤ 804 from by decide) slots)
set_option maxHeartbeats 4000000 in
set_option maxRecDepth 100000 in
theorem lc_worth (F : CallFix p m c cL_law 4 s #[Value.ref b] wsL_law RL) (hX : va_X b L xs s s.heap) (hbl : b < s.heap.size) (hbA : ¬ A b) (hA : ∀ q : Nat, s.heap.size ≤ q → A q) (hE : enC ts aK aV A s s.heap) (hK : va_K (dC, dI) vwCl (tyL t tI tZ) s) (v1 : vp_in (x3 + 1) L) (v2 : vp_in (x3 + 2) L) (v3 : vp_in (x3 + 3) L) (v4 : vp_in (x3 + 4) L) (q1 : cells + 201 ≤ 600000) (q2 : slots + 804 ≤ 7302250) (hl : lv_has ls 4 [(0, .ref b), (1, .ref (h 0)), (2, .ref (h' 0)), (3, .int x3)]) (hR : Rel S M) (hC : lwC dC dI t tI tZ A h h' S M H) (hS : va_S A s.heap H locs) (kk : ∀ (H1 : Heap) (locs1 : List Loc) (S' : CS) (M' : MS) (c1 s1 : Nat), lwC dC dI t tI tZ A h h' S' M' H1 → va_S A s.heap H1 locs1 → Rel S' M' → c1 ≤ cells + 201 → s1 ≤ slots + 804 → W p l e room_1 s m #[Value.ref b] below meth c H1 locs1 c1 s1 Q (F0 m 780 ls [])) : W p l e room_1 s m #[Value.ref b] below meth c H locs cells slots Q (F0 m 483 ls []) := by
  refine lv_aload_n F.1 F.2.1 dL_law_483 rfl (lv_at hl 1 rfl) ?_
  refine lv_aload_n F.1 F.2.1 dL_law_484 rfl (lv_at hl 0 rfl) ?_
  refine lv_iload_n F.1 F.2.1 dL_law_485 rfl (lv_at hl 3 rfl) ?_
  refine lv_iconst (v := 1) F.1 F.2.1 dL_law_486 (by decide) ?_
  refine lv_iadd F.1 F.2.1 dL_law_487 ?_
  refine va_sld F.1 F.2.1 hX hbl hbA hS v1 dL_law_488 ?_
  refine lv_aload_n F.1 F.2.1 dL_law_489 rfl (lv_at hl 0 rfl) ?_
  refine lv_iload_n F.1 F.2.1 dL_law_490 rfl (lv_at hl 3 rfl) ?_
  refine lv_iconst (v := 2) F.1 F.2.1 dL_law_491 (by decide) ?_
  refine lv_iadd F.1 F.2.1 dL_law_492 ?_
  refine va_sld F.1 F.2.1 hX hbl hbA hS v2 dL_law_493 ?_
  obtain ⟨r, S', M', e1, e2, hR'⟩ := agree.2.2.2.2.2.2.2.2.2.2.2.1 S M hR (xs (x3 + 1).toNatClampNeg) (xs (x3 + 2).toNatClampNeg)
  refine lwci (As := [.int (xs (x3 + 1).toNatClampNeg), .int (xs (x3 + 2).toNatClampNeg)]) (rest := []) F (fun A' tx hA' => ⟨tx, c_X10_worth_0 l dC dI t ts aK aV A' h tx H.size hA' _ _ _ _ _ e1⟩) (cwV 2 F.2.2.2.2 gL_law_X10_worth rfl rfl rfl (by decide +kernel) ⟨(Nat.le_of_ble_eq_true rfl), (Nat.le_of_ble_eq_true rfl)⟩) rfl hl.1 rfl (Nat.le_of_ble_eq_true rfl) dL_law_494 ⟨Nat.le_trans (Nat.add_le_add_left (show rmX10_worth_0.cells ≤ 201 from by decide) cells) q1, Nat.le_trans (Nat.add_le_add_left (show rmX10_worth_0.slots ≤ 804 from by decide) slots) q2⟩ hE hK hC hS hA (fun H locs hC hS => ?_)
  refine lv_aload_n F.1 F.2.1 dL_law_497 rfl (lv_at hl 2 rfl) ?_
  refine lv_aload_n F.1 F.2.1 dL_law_498 rfl (lv_at hl 0 rfl) ?_
  refine lv_iload_n F.1 F.2.1 dL_law_499 rfl (lv_at hl 3 rfl) ?_
  refine lv_iconst (v := 1) F.1 F.2.1 dL_law_500 (by decide) ?_
  refine lv_iadd F.1 F.2.1 dL_law_501 ?_
  refine va_sld F.1 F.2.1 hX hbl hbA hS v1 dL_law_502 ?_
  refine lv_aload_n F.1 F.2.1 dL_law_503 rfl (lv_at hl 0 rfl) ?_
  refine lv_iload_n F.1 F.2.1 dL_law_504 rfl (lv_at hl 3 rfl) ?_
  refine lv_iconst (v := 2) F.1 F.2.1 dL_law_505 (by decide) ?_
  refine lv_iadd F.1 F.2.1 dL_law_506 ?_
  refine va_sld F.1 F.2.1 hX hbl hbA hS v2 dL_law_507 ?_
  refine lwmi (As := [.int (xs (x3 + 1).toNatClampNeg), .int (xs (x3 + 2).toNatClampNeg)]) (rest := [.int r]) F (c_X11_worth l dC dI tI tZ h' H.size _ _ _ _ _ e2) (cwV 2 F.2.2.2.2 gL_law_X11_worth rfl rfl rfl (by decide +kernel) ⟨(Nat.le_of_ble_eq_true rfl), (Nat.le_of_ble_eq_true rfl)⟩) rfl hl.1 rfl (Nat.le_of_ble_eq_true rfl) dL_law_508 ⟨Nat.le_trans (Nat.add_le_add_left (show rmX10_worth_0.cells ≤ 201 from by decide) cells) q1, Nat.le_trans (Nat.add_le_add_left (show rmX10_worth_0.slots ≤ 804 from by decide) slots) q2⟩ hK hC hS hA (fun H locs hC hS => ?_)
  refine lv_icmp_eq (tgt := 780) F.1 F.2.1 dL_law_511 (by decide) (fun _ => ?_) (fun k => absurd rfl k)
  exact kk H locs _ _ _ _ hC hS hR' (Nat.add_le_add_left (show rmX10_worth_0.cells ≤ 201 from by decide) cells) (Nat.add_le_add_left (show rmX10_worth_0.slots ≤ 804 from by decide) slots)
set_option maxHeartbeats 4000000 in
set_option maxRecDepth 100000 in
theorem lc_turns (F : CallFix p m c cL_law 4 s #[Value.ref b] wsL_law RL) (hX : va_X b L xs s s.heap) (hbl : b < s.heap.size) (hbA : ¬ A b) (hA : ∀ q : Nat, s.heap.size ≤ q → A q) (hE : enC ts aK aV A s s.heap) (hK : va_K (dC, dI) vwCl (tyL t tI tZ) s) (v1 : vp_in (x3 + 1) L) (v2 : vp_in (x3 + 2) L) (v3 : vp_in (x3 + 3) L) (v4 : vp_in (x3 + 4) L) (q1 : cells + 201 ≤ 600000) (q2 : slots + 804 ≤ 7302250) (hl : lv_has ls 4 [(0, .ref b), (1, .ref (h 0)), (2, .ref (h' 0)), (3, .int x3)]) (hR : Rel S M) (hC : lwC dC dI t tI tZ A h h' S M H) (hS : va_S A s.heap H locs) (kk : ∀ (H1 : Heap) (locs1 : List Loc) (S' : CS) (M' : MS) (c1 s1 : Nat), lwC dC dI t tI tZ A h h' S' M' H1 → va_S A s.heap H1 locs1 → Rel S' M' → c1 ≤ cells + 201 → s1 ≤ slots + 804 → W p l e room_1 s m #[Value.ref b] below meth c H1 locs1 c1 s1 Q (F0 m 780 ls [])) : W p l e room_1 s m #[Value.ref b] below meth c H locs cells slots Q (F0 m 516 ls []) := by
  refine lv_aload_n F.1 F.2.1 dL_law_516 rfl (lv_at hl 1 rfl) ?_
  refine lv_aload_n F.1 F.2.1 dL_law_517 rfl (lv_at hl 0 rfl) ?_
  refine lv_iload_n F.1 F.2.1 dL_law_518 rfl (lv_at hl 3 rfl) ?_
  refine lv_iconst (v := 1) F.1 F.2.1 dL_law_519 (by decide) ?_
  refine lv_iadd F.1 F.2.1 dL_law_520 ?_
  refine va_sld F.1 F.2.1 hX hbl hbA hS v1 dL_law_521 ?_
  refine lv_aload_n F.1 F.2.1 dL_law_522 rfl (lv_at hl 0 rfl) ?_
  refine lv_iload_n F.1 F.2.1 dL_law_523 rfl (lv_at hl 3 rfl) ?_
  refine lv_iconst (v := 2) F.1 F.2.1 dL_law_524 (by decide) ?_
  refine lv_iadd F.1 F.2.1 dL_law_525 ?_
  refine va_sld F.1 F.2.1 hX hbl hbA hS v2 dL_law_526 ?_
  obtain ⟨r, S', M', e1, e2, hR'⟩ := agree.2.2.2.2.2.2.2.2.2.2.2.2.1 S M hR (xs (x3 + 1).toNatClampNeg) (xs (x3 + 2).toNatClampNeg)
  refine lwci (As := [.int (xs (x3 + 1).toNatClampNeg), .int (xs (x3 + 2).toNatClampNeg)]) (rest := []) F (fun A' tx hA' => ⟨tx, c_X10_turns_0 l dC dI t ts aK aV A' h tx H.size hA' _ _ _ _ _ e1⟩) (cwV 2 F.2.2.2.2 gL_law_X10_turns rfl rfl rfl (by decide +kernel) ⟨(Nat.le_of_ble_eq_true rfl), (Nat.le_of_ble_eq_true rfl)⟩) rfl hl.1 rfl (Nat.le_of_ble_eq_true rfl) dL_law_527 ⟨Nat.le_trans (Nat.add_le_add_left (show rmX10_turns_0.cells ≤ 201 from by decide) cells) q1, Nat.le_trans (Nat.add_le_add_left (show rmX10_turns_0.slots ≤ 804 from by decide) slots) q2⟩ hE hK hC hS hA (fun H locs hC hS => ?_)
  refine lv_aload_n F.1 F.2.1 dL_law_530 rfl (lv_at hl 2 rfl) ?_
  refine lv_aload_n F.1 F.2.1 dL_law_531 rfl (lv_at hl 0 rfl) ?_
  refine lv_iload_n F.1 F.2.1 dL_law_532 rfl (lv_at hl 3 rfl) ?_
  refine lv_iconst (v := 1) F.1 F.2.1 dL_law_533 (by decide) ?_
  refine lv_iadd F.1 F.2.1 dL_law_534 ?_
  refine va_sld F.1 F.2.1 hX hbl hbA hS v1 dL_law_535 ?_
  refine lv_aload_n F.1 F.2.1 dL_law_536 rfl (lv_at hl 0 rfl) ?_
  refine lv_iload_n F.1 F.2.1 dL_law_537 rfl (lv_at hl 3 rfl) ?_
  refine lv_iconst (v := 2) F.1 F.2.1 dL_law_538 (by decide) ?_
  refine lv_iadd F.1 F.2.1 dL_law_539 ?_
  refine va_sld F.1 F.2.1 hX hbl hbA hS v2 dL_law_540 ?_
  refine lwmi (As := [.int (xs (x3 + 1).toNatClampNeg), .int (xs (x3 + 2).toNatClampNeg)]) (rest := [.int r]) F (c_X11_turns l dC dI tI tZ h' H.size _ _ _ _ _ e2) (cwV 2 F.2.2.2.2 gL_law_X11_turns rfl rfl rfl (by decide +kernel) ⟨(Nat.le_of_ble_eq_true rfl), (Nat.le_of_ble_eq_true rfl)⟩) rfl hl.1 rfl (Nat.le_of_ble_eq_true rfl) dL_law_541 ⟨Nat.le_trans (Nat.add_le_add_left (show rmX10_turns_0.cells ≤ 201 from by decide) cells) q1, Nat.le_trans (Nat.add_le_add_left (show rmX10_turns_0.slots ≤ 804 from by decide) slots) q2⟩ hK hC hS hA (fun H locs hC hS => ?_)
  refine lv_icmp_eq (tgt := 780) F.1 F.2.1 dL_law_544 (by decide) (fun _ => ?_) (fun k => absurd rfl k)
  exact kk H locs _ _ _ _ hC hS hR' (Nat.add_le_add_left (show rmX10_turns_0.cells ≤ 201 from by decide) cells) (Nat.add_le_add_left (show rmX10_turns_0.slots ≤ 804 from by decide) slots)
set_option maxHeartbeats 4000000 in
set_option maxRecDepth 100000 in
theorem lc_load (F : CallFix p m c cL_law 4 s #[Value.ref b] wsL_law RL) (hX : va_X b L xs s s.heap) (hbl : b < s.heap.size) (hbA : ¬ A b) (hA : ∀ q : Nat, s.heap.size ≤ q → A q) (hE : enC ts aK aV A s s.heap) (hK : va_K (dC, dI) vwCl (tyL t tI tZ) s) (v1 : vp_in (x3 + 1) L) (v2 : vp_in (x3 + 2) L) (v3 : vp_in (x3 + 3) L) (v4 : vp_in (x3 + 4) L) (q1 : cells + 201 ≤ 600000) (q2 : slots + 804 ≤ 7302250) (hl : lv_has ls 4 [(0, .ref b), (1, .ref (h 0)), (2, .ref (h' 0)), (3, .int x3)]) (hR : Rel S M) (hC : lwC dC dI t tI tZ A h h' S M H) (hS : va_S A s.heap H locs) (kk : ∀ (H1 : Heap) (locs1 : List Loc) (S' : CS) (M' : MS) (c1 s1 : Nat), lwC dC dI t tI tZ A h h' S' M' H1 → va_S A s.heap H1 locs1 → Rel S' M' → c1 ≤ cells + 201 → s1 ≤ slots + 804 → W p l e room_1 s m #[Value.ref b] below meth c H1 locs1 c1 s1 Q (F0 m 780 ls [])) : W p l e room_1 s m #[Value.ref b] below meth c H locs cells slots Q (F0 m 549 ls []) := by
  refine lv_aload_n F.1 F.2.1 dL_law_549 rfl (lv_at hl 1 rfl) ?_
  refine lv_aload_n F.1 F.2.1 dL_law_550 rfl (lv_at hl 0 rfl) ?_
  refine lv_iload_n F.1 F.2.1 dL_law_551 rfl (lv_at hl 3 rfl) ?_
  refine lv_iconst (v := 1) F.1 F.2.1 dL_law_552 (by decide) ?_
  refine lv_iadd F.1 F.2.1 dL_law_553 ?_
  refine va_sld F.1 F.2.1 hX hbl hbA hS v1 dL_law_554 ?_
  obtain ⟨r, S', M', e1, e2, hR'⟩ := agree.2.2.2.2.2.2.2.2.2.2.2.2.2.1 S M hR (xs (x3 + 1).toNatClampNeg)
  refine lwci (As := [.int (xs (x3 + 1).toNatClampNeg)]) (rest := []) F (fun A' tx hA' => ⟨tx, c_X10_load_0 l dC dI t ts aK aV A' h tx H.size hA' _ _ _ _ e1⟩) (cwV 1 F.2.2.2.2 gL_law_X10_load rfl rfl rfl (by decide +kernel) ⟨(Nat.le_of_ble_eq_true rfl), (Nat.le_of_ble_eq_true rfl)⟩) rfl hl.1 rfl (Nat.le_of_ble_eq_true rfl) dL_law_555 ⟨Nat.le_trans (Nat.add_le_add_left (show rmX10_load_0.cells ≤ 201 from by decide) cells) q1, Nat.le_trans (Nat.add_le_add_left (show rmX10_load_0.slots ≤ 804 from by decide) slots) q2⟩ hE hK hC hS hA (fun H locs hC hS => ?_)
  refine lv_aload_n F.1 F.2.1 dL_law_558 rfl (lv_at hl 2 rfl) ?_
  refine lv_aload_n F.1 F.2.1 dL_law_559 rfl (lv_at hl 0 rfl) ?_
  refine lv_iload_n F.1 F.2.1 dL_law_560 rfl (lv_at hl 3 rfl) ?_
  refine lv_iconst (v := 1) F.1 F.2.1 dL_law_561 (by decide) ?_
  refine lv_iadd F.1 F.2.1 dL_law_562 ?_
  refine va_sld F.1 F.2.1 hX hbl hbA hS v1 dL_law_563 ?_
  refine lwmi (As := [.int (xs (x3 + 1).toNatClampNeg)]) (rest := [.int r]) F (c_X11_load l dC dI tI tZ h' H.size _ _ _ _ e2) (cwV 1 F.2.2.2.2 gL_law_X11_load rfl rfl rfl (by decide +kernel) ⟨(Nat.le_of_ble_eq_true rfl), (Nat.le_of_ble_eq_true rfl)⟩) rfl hl.1 rfl (Nat.le_of_ble_eq_true rfl) dL_law_564 ⟨Nat.le_trans (Nat.add_le_add_left (show rmX10_load_0.cells ≤ 201 from by decide) cells) q1, Nat.le_trans (Nat.add_le_add_left (show rmX10_load_0.slots ≤ 804 from by decide) slots) q2⟩ hK hC hS hA (fun H locs hC hS => ?_)
  refine lv_icmp_eq (tgt := 780) F.1 F.2.1 dL_law_567 (by decide) (fun _ => ?_) (fun k => absurd rfl k)
  exact kk H locs _ _ _ _ hC hS hR' (Nat.add_le_add_left (show rmX10_load_0.cells ≤ 201 from by decide) cells) (Nat.add_le_add_left (show rmX10_load_0.slots ≤ 804 from by decide) slots)
set_option maxHeartbeats 4000000 in
set_option maxRecDepth 100000 in
theorem lc_unload (F : CallFix p m c cL_law 4 s #[Value.ref b] wsL_law RL) (hX : va_X b L xs s s.heap) (hbl : b < s.heap.size) (hbA : ¬ A b) (hA : ∀ q : Nat, s.heap.size ≤ q → A q) (hE : enC ts aK aV A s s.heap) (hK : va_K (dC, dI) vwCl (tyL t tI tZ) s) (v1 : vp_in (x3 + 1) L) (v2 : vp_in (x3 + 2) L) (v3 : vp_in (x3 + 3) L) (v4 : vp_in (x3 + 4) L) (q1 : cells + 201 ≤ 600000) (q2 : slots + 804 ≤ 7302250) (hl : lv_has ls 4 [(0, .ref b), (1, .ref (h 0)), (2, .ref (h' 0)), (3, .int x3)]) (hR : Rel S M) (hC : lwC dC dI t tI tZ A h h' S M H) (hS : va_S A s.heap H locs) (kk : ∀ (H1 : Heap) (locs1 : List Loc) (S' : CS) (M' : MS) (c1 s1 : Nat), lwC dC dI t tI tZ A h h' S' M' H1 → va_S A s.heap H1 locs1 → Rel S' M' → c1 ≤ cells + 201 → s1 ≤ slots + 804 → W p l e room_1 s m #[Value.ref b] below meth c H1 locs1 c1 s1 Q (F0 m 780 ls [])) : W p l e room_1 s m #[Value.ref b] below meth c H locs cells slots Q (F0 m 572 ls []) := by
  refine lv_aload_n F.1 F.2.1 dL_law_572 rfl (lv_at hl 1 rfl) ?_
  obtain ⟨r, S', M', e1, e2, hR'⟩ := agree.2.2.2.2.2.2.2.2.2.2.2.2.2.2.1 S M hR
  refine lwci (As := []) (rest := []) F (fun A' tx hA' => ⟨tx, c_X10_unload_0 l dC dI t ts aK aV A' h tx H.size hA' _ _ _ e1⟩) (cwV 0 F.2.2.2.2 gL_law_X10_unload rfl rfl rfl (by decide +kernel) ⟨(Nat.le_of_ble_eq_true rfl), (Nat.le_of_ble_eq_true rfl)⟩) rfl hl.1 rfl (Nat.le_of_ble_eq_true rfl) dL_law_573 ⟨Nat.le_trans (Nat.add_le_add_left (show rmX10_unload_0.cells ≤ 201 from by decide) cells) q1, Nat.le_trans (Nat.add_le_add_left (show rmX10_unload_0.slots ≤ 804 from by decide) slots) q2⟩ hE hK hC hS hA (fun H locs hC hS => ?_)
  refine lv_aload_n F.1 F.2.1 dL_law_576 rfl (lv_at hl 2 rfl) ?_
  refine lwmi (As := []) (rest := [.int r]) F (c_X11_unload l dC dI tI tZ h' H.size _ _ _ e2) (cwV 0 F.2.2.2.2 gL_law_X11_unload rfl rfl rfl (by decide +kernel) ⟨(Nat.le_of_ble_eq_true rfl), (Nat.le_of_ble_eq_true rfl)⟩) rfl hl.1 rfl (Nat.le_of_ble_eq_true rfl) dL_law_577 ⟨Nat.le_trans (Nat.add_le_add_left (show rmX10_unload_0.cells ≤ 201 from by decide) cells) q1, Nat.le_trans (Nat.add_le_add_left (show rmX10_unload_0.slots ≤ 804 from by decide) slots) q2⟩ hK hC hS hA (fun H locs hC hS => ?_)
  refine lv_icmp_eq (tgt := 780) F.1 F.2.1 dL_law_580 (by decide) (fun _ => ?_) (fun k => absurd rfl k)
  exact kk H locs _ _ _ _ hC hS hR' (Nat.add_le_add_left (show rmX10_unload_0.cells ≤ 201 from by decide) cells) (Nat.add_le_add_left (show rmX10_unload_0.slots ≤ 804 from by decide) slots)
set_option maxHeartbeats 4000000 in
set_option maxRecDepth 100000 in
theorem lc_carries (F : CallFix p m c cL_law 4 s #[Value.ref b] wsL_law RL) (hX : va_X b L xs s s.heap) (hbl : b < s.heap.size) (hbA : ¬ A b) (hA : ∀ q : Nat, s.heap.size ≤ q → A q) (hE : enC ts aK aV A s s.heap) (hK : va_K (dC, dI) vwCl (tyL t tI tZ) s) (v1 : vp_in (x3 + 1) L) (v2 : vp_in (x3 + 2) L) (v3 : vp_in (x3 + 3) L) (v4 : vp_in (x3 + 4) L) (q1 : cells + 201 ≤ 600000) (q2 : slots + 804 ≤ 7302250) (hl : lv_has ls 4 [(0, .ref b), (1, .ref (h 0)), (2, .ref (h' 0)), (3, .int x3)]) (hR : Rel S M) (hC : lwC dC dI t tI tZ A h h' S M H) (hS : va_S A s.heap H locs) (kk : ∀ (H1 : Heap) (locs1 : List Loc) (S' : CS) (M' : MS) (c1 s1 : Nat), lwC dC dI t tI tZ A h h' S' M' H1 → va_S A s.heap H1 locs1 → Rel S' M' → c1 ≤ cells + 201 → s1 ≤ slots + 804 → W p l e room_1 s m #[Value.ref b] below meth c H1 locs1 c1 s1 Q (F0 m 780 ls [])) : W p l e room_1 s m #[Value.ref b] below meth c H locs cells slots Q (F0 m 585 ls []) := by
  refine lv_aload_n F.1 F.2.1 dL_law_585 rfl (lv_at hl 1 rfl) ?_
  refine lv_aload_n F.1 F.2.1 dL_law_586 rfl (lv_at hl 0 rfl) ?_
  refine lv_iload_n F.1 F.2.1 dL_law_587 rfl (lv_at hl 3 rfl) ?_
  refine lv_iconst (v := 1) F.1 F.2.1 dL_law_588 (by decide) ?_
  refine lv_iadd F.1 F.2.1 dL_law_589 ?_
  refine va_sld F.1 F.2.1 hX hbl hbA hS v1 dL_law_590 ?_
  obtain ⟨r, S', M', e1, e2, hR'⟩ := agree.2.2.2.2.2.2.2.2.2.2.2.2.2.2.2.1 S M hR (xs (x3 + 1).toNatClampNeg)
  refine lwci (As := [.int (xs (x3 + 1).toNatClampNeg)]) (rest := []) F (fun A' tx hA' => ⟨tx, c_X10_carries_0 l dC dI t ts aK aV A' h tx H.size hA' _ _ _ _ e1⟩) (cwV 1 F.2.2.2.2 gL_law_X10_carries rfl rfl rfl (by decide +kernel) ⟨(Nat.le_of_ble_eq_true rfl), (Nat.le_of_ble_eq_true rfl)⟩) rfl hl.1 rfl (Nat.le_of_ble_eq_true rfl) dL_law_591 ⟨Nat.le_trans (Nat.add_le_add_left (show rmX10_carries_0.cells ≤ 201 from by decide) cells) q1, Nat.le_trans (Nat.add_le_add_left (show rmX10_carries_0.slots ≤ 804 from by decide) slots) q2⟩ hE hK hC hS hA (fun H locs hC hS => ?_)
  refine lv_aload_n F.1 F.2.1 dL_law_594 rfl (lv_at hl 2 rfl) ?_
  refine lv_aload_n F.1 F.2.1 dL_law_595 rfl (lv_at hl 0 rfl) ?_
  refine lv_iload_n F.1 F.2.1 dL_law_596 rfl (lv_at hl 3 rfl) ?_
  refine lv_iconst (v := 1) F.1 F.2.1 dL_law_597 (by decide) ?_
  refine lv_iadd F.1 F.2.1 dL_law_598 ?_
  refine va_sld F.1 F.2.1 hX hbl hbA hS v1 dL_law_599 ?_
  refine lwmi (As := [.int (xs (x3 + 1).toNatClampNeg)]) (rest := [.int r]) F (c_X11_carries l dC dI tI tZ h' H.size _ _ _ _ e2) (cwV 1 F.2.2.2.2 gL_law_X11_carries rfl rfl rfl (by decide +kernel) ⟨(Nat.le_of_ble_eq_true rfl), (Nat.le_of_ble_eq_true rfl)⟩) rfl hl.1 rfl (Nat.le_of_ble_eq_true rfl) dL_law_600 ⟨Nat.le_trans (Nat.add_le_add_left (show rmX10_carries_0.cells ≤ 201 from by decide) cells) q1, Nat.le_trans (Nat.add_le_add_left (show rmX10_carries_0.slots ≤ 804 from by decide) slots) q2⟩ hK hC hS hA (fun H locs hC hS => ?_)
  refine lv_icmp_eq (tgt := 780) F.1 F.2.1 dL_law_603 (by decide) (fun _ => ?_) (fun k => absurd rfl k)
  exact kk H locs _ _ _ _ hC hS hR' (Nat.add_le_add_left (show rmX10_carries_0.cells ≤ 201 from by decide) cells) (Nat.add_le_add_left (show rmX10_carries_0.slots ≤ 804 from by decide) slots)
set_option maxHeartbeats 4000000 in
set_option maxRecDepth 100000 in
theorem lc_fell (F : CallFix p m c cL_law 4 s #[Value.ref b] wsL_law RL) (hX : va_X b L xs s s.heap) (hbl : b < s.heap.size) (hbA : ¬ A b) (hA : ∀ q : Nat, s.heap.size ≤ q → A q) (hE : enC ts aK aV A s s.heap) (hK : va_K (dC, dI) vwCl (tyL t tI tZ) s) (v1 : vp_in (x3 + 1) L) (v2 : vp_in (x3 + 2) L) (v3 : vp_in (x3 + 3) L) (v4 : vp_in (x3 + 4) L) (q1 : cells + 201 ≤ 600000) (q2 : slots + 804 ≤ 7302250) (hl : lv_has ls 4 [(0, .ref b), (1, .ref (h 0)), (2, .ref (h' 0)), (3, .int x3)]) (hR : Rel S M) (hC : lwC dC dI t tI tZ A h h' S M H) (hS : va_S A s.heap H locs) (kk : ∀ (H1 : Heap) (locs1 : List Loc) (S' : CS) (M' : MS) (c1 s1 : Nat), lwC dC dI t tI tZ A h h' S' M' H1 → va_S A s.heap H1 locs1 → Rel S' M' → c1 ≤ cells + 201 → s1 ≤ slots + 804 → W p l e room_1 s m #[Value.ref b] below meth c H1 locs1 c1 s1 Q (F0 m 780 ls [])) : W p l e room_1 s m #[Value.ref b] below meth c H locs cells slots Q (F0 m 608 ls []) := by
  refine lv_aload_n F.1 F.2.1 dL_law_608 rfl (lv_at hl 1 rfl) ?_
  refine lv_aload_n F.1 F.2.1 dL_law_609 rfl (lv_at hl 0 rfl) ?_
  refine lv_iload_n F.1 F.2.1 dL_law_610 rfl (lv_at hl 3 rfl) ?_
  refine lv_iconst (v := 1) F.1 F.2.1 dL_law_611 (by decide) ?_
  refine lv_iadd F.1 F.2.1 dL_law_612 ?_
  refine va_sld F.1 F.2.1 hX hbl hbA hS v1 dL_law_613 ?_
  refine lv_aload_n F.1 F.2.1 dL_law_614 rfl (lv_at hl 0 rfl) ?_
  refine lv_iload_n F.1 F.2.1 dL_law_615 rfl (lv_at hl 3 rfl) ?_
  refine lv_iconst (v := 2) F.1 F.2.1 dL_law_616 (by decide) ?_
  refine lv_iadd F.1 F.2.1 dL_law_617 ?_
  refine va_sld F.1 F.2.1 hX hbl hbA hS v2 dL_law_618 ?_
  refine lv_aload_n F.1 F.2.1 dL_law_619 rfl (lv_at hl 0 rfl) ?_
  refine lv_iload_n F.1 F.2.1 dL_law_620 rfl (lv_at hl 3 rfl) ?_
  refine lv_iconst (v := 3) F.1 F.2.1 dL_law_621 (by decide) ?_
  refine lv_iadd F.1 F.2.1 dL_law_622 ?_
  refine va_sld F.1 F.2.1 hX hbl hbA hS v3 dL_law_623 ?_
  obtain ⟨r, S', M', e1, e2, hR'⟩ := agree.2.2.2.2.2.2.2.2.2.2.2.2.2.2.2.2.1 S M hR (xs (x3 + 1).toNatClampNeg) (xs (x3 + 2).toNatClampNeg) (xs (x3 + 3).toNatClampNeg)
  refine lwci (As := [.int (xs (x3 + 1).toNatClampNeg), .int (xs (x3 + 2).toNatClampNeg), .int (xs (x3 + 3).toNatClampNeg)]) (rest := []) F (fun A' tx hA' => ⟨tx, c_X10_fell_0 l dC dI t ts aK aV A' h tx H.size hA' _ _ _ _ _ _ e1⟩) (cwV 3 F.2.2.2.2 gL_law_X10_fell rfl rfl rfl (by decide +kernel) ⟨(Nat.le_of_ble_eq_true rfl), (Nat.le_of_ble_eq_true rfl)⟩) rfl hl.1 rfl (Nat.le_of_ble_eq_true rfl) dL_law_624 ⟨Nat.le_trans (Nat.add_le_add_left (show rmX10_fell_0.cells ≤ 201 from by decide) cells) q1, Nat.le_trans (Nat.add_le_add_left (show rmX10_fell_0.slots ≤ 804 from by decide) slots) q2⟩ hE hK hC hS hA (fun H locs hC hS => ?_)
  refine lv_aload_n F.1 F.2.1 dL_law_627 rfl (lv_at hl 2 rfl) ?_
  refine lv_aload_n F.1 F.2.1 dL_law_628 rfl (lv_at hl 0 rfl) ?_
  refine lv_iload_n F.1 F.2.1 dL_law_629 rfl (lv_at hl 3 rfl) ?_
  refine lv_iconst (v := 1) F.1 F.2.1 dL_law_630 (by decide) ?_
  refine lv_iadd F.1 F.2.1 dL_law_631 ?_
  refine va_sld F.1 F.2.1 hX hbl hbA hS v1 dL_law_632 ?_
  refine lv_aload_n F.1 F.2.1 dL_law_633 rfl (lv_at hl 0 rfl) ?_
  refine lv_iload_n F.1 F.2.1 dL_law_634 rfl (lv_at hl 3 rfl) ?_
  refine lv_iconst (v := 2) F.1 F.2.1 dL_law_635 (by decide) ?_
  refine lv_iadd F.1 F.2.1 dL_law_636 ?_
  refine va_sld F.1 F.2.1 hX hbl hbA hS v2 dL_law_637 ?_
  refine lv_aload_n F.1 F.2.1 dL_law_638 rfl (lv_at hl 0 rfl) ?_
  refine lv_iload_n F.1 F.2.1 dL_law_639 rfl (lv_at hl 3 rfl) ?_
  refine lv_iconst (v := 3) F.1 F.2.1 dL_law_640 (by decide) ?_
  refine lv_iadd F.1 F.2.1 dL_law_641 ?_
  refine va_sld F.1 F.2.1 hX hbl hbA hS v3 dL_law_642 ?_
  refine lwmi (As := [.int (xs (x3 + 1).toNatClampNeg), .int (xs (x3 + 2).toNatClampNeg), .int (xs (x3 + 3).toNatClampNeg)]) (rest := [.int r]) F (c_X11_fell l dC dI tI tZ h' H.size _ _ _ _ _ _ e2) (cwV 3 F.2.2.2.2 gL_law_X11_fell rfl rfl rfl (by decide +kernel) ⟨(Nat.le_of_ble_eq_true rfl), (Nat.le_of_ble_eq_true rfl)⟩) rfl hl.1 rfl (Nat.le_of_ble_eq_true rfl) dL_law_643 ⟨Nat.le_trans (Nat.add_le_add_left (show rmX10_fell_0.cells ≤ 201 from by decide) cells) q1, Nat.le_trans (Nat.add_le_add_left (show rmX10_fell_0.slots ≤ 804 from by decide) slots) q2⟩ hK hC hS hA (fun H locs hC hS => ?_)
  refine lv_icmp_eq (tgt := 780) F.1 F.2.1 dL_law_646 (by decide) (fun _ => ?_) (fun k => absurd rfl k)
  exact kk H locs _ _ _ _ hC hS hR' (Nat.add_le_add_left (show rmX10_fell_0.cells ≤ 201 from by decide) cells) (Nat.add_le_add_left (show rmX10_fell_0.slots ≤ 804 from by decide) slots)
set_option maxHeartbeats 4000000 in
set_option maxRecDepth 100000 in
theorem lc_ropes (F : CallFix p m c cL_law 4 s #[Value.ref b] wsL_law RL) (hX : va_X b L xs s s.heap) (hbl : b < s.heap.size) (hbA : ¬ A b) (hA : ∀ q : Nat, s.heap.size ≤ q → A q) (hE : enC ts aK aV A s s.heap) (hK : va_K (dC, dI) vwCl (tyL t tI tZ) s) (v1 : vp_in (x3 + 1) L) (v2 : vp_in (x3 + 2) L) (v3 : vp_in (x3 + 3) L) (v4 : vp_in (x3 + 4) L) (q1 : cells + 201 ≤ 600000) (q2 : slots + 804 ≤ 7302250) (hl : lv_has ls 4 [(0, .ref b), (1, .ref (h 0)), (2, .ref (h' 0)), (3, .int x3)]) (hR : Rel S M) (hC : lwC dC dI t tI tZ A h h' S M H) (hS : va_S A s.heap H locs) (kk : ∀ (H1 : Heap) (locs1 : List Loc) (S' : CS) (M' : MS) (c1 s1 : Nat), lwC dC dI t tI tZ A h h' S' M' H1 → va_S A s.heap H1 locs1 → Rel S' M' → c1 ≤ cells + 201 → s1 ≤ slots + 804 → W p l e room_1 s m #[Value.ref b] below meth c H1 locs1 c1 s1 Q (F0 m 780 ls [])) : W p l e room_1 s m #[Value.ref b] below meth c H locs cells slots Q (F0 m 651 ls []) := by
  refine lv_aload_n F.1 F.2.1 dL_law_651 rfl (lv_at hl 1 rfl) ?_
  refine lv_aload_n F.1 F.2.1 dL_law_652 rfl (lv_at hl 0 rfl) ?_
  refine lv_iload_n F.1 F.2.1 dL_law_653 rfl (lv_at hl 3 rfl) ?_
  refine lv_iconst (v := 1) F.1 F.2.1 dL_law_654 (by decide) ?_
  refine lv_iadd F.1 F.2.1 dL_law_655 ?_
  refine va_sld F.1 F.2.1 hX hbl hbA hS v1 dL_law_656 ?_
  obtain ⟨r, S', M', e1, e2, hR'⟩ := agree.2.2.2.2.2.2.2.2.2.2.2.2.2.2.2.2.2.1 S M hR (xs (x3 + 1).toNatClampNeg)
  refine lwci (As := [.int (xs (x3 + 1).toNatClampNeg)]) (rest := []) F (fun A' tx hA' => ⟨tx, c_X10_ropes_0 l dC dI t ts aK aV A' h tx H.size hA' _ _ _ _ e1⟩) (cwV 1 F.2.2.2.2 gL_law_X10_ropes rfl rfl rfl (by decide +kernel) ⟨(Nat.le_of_ble_eq_true rfl), (Nat.le_of_ble_eq_true rfl)⟩) rfl hl.1 rfl (Nat.le_of_ble_eq_true rfl) dL_law_657 ⟨Nat.le_trans (Nat.add_le_add_left (show rmX10_ropes_0.cells ≤ 201 from by decide) cells) q1, Nat.le_trans (Nat.add_le_add_left (show rmX10_ropes_0.slots ≤ 804 from by decide) slots) q2⟩ hE hK hC hS hA (fun H locs hC hS => ?_)
  refine lv_aload_n F.1 F.2.1 dL_law_660 rfl (lv_at hl 2 rfl) ?_
  refine lv_aload_n F.1 F.2.1 dL_law_661 rfl (lv_at hl 0 rfl) ?_
  refine lv_iload_n F.1 F.2.1 dL_law_662 rfl (lv_at hl 3 rfl) ?_
  refine lv_iconst (v := 1) F.1 F.2.1 dL_law_663 (by decide) ?_
  refine lv_iadd F.1 F.2.1 dL_law_664 ?_
  refine va_sld F.1 F.2.1 hX hbl hbA hS v1 dL_law_665 ?_
  refine lwmi (As := [.int (xs (x3 + 1).toNatClampNeg)]) (rest := [.int r]) F (c_X11_ropes l dC dI tI tZ h' H.size _ _ _ _ e2) (cwV 1 F.2.2.2.2 gL_law_X11_ropes rfl rfl rfl (by decide +kernel) ⟨(Nat.le_of_ble_eq_true rfl), (Nat.le_of_ble_eq_true rfl)⟩) rfl hl.1 rfl (Nat.le_of_ble_eq_true rfl) dL_law_666 ⟨Nat.le_trans (Nat.add_le_add_left (show rmX10_ropes_0.cells ≤ 201 from by decide) cells) q1, Nat.le_trans (Nat.add_le_add_left (show rmX10_ropes_0.slots ≤ 804 from by decide) slots) q2⟩ hK hC hS hA (fun H locs hC hS => ?_)
  refine lv_icmp_eq (tgt := 780) F.1 F.2.1 dL_law_669 (by decide) (fun _ => ?_) (fun k => absurd rfl k)
  exact kk H locs _ _ _ _ hC hS hR' (Nat.add_le_add_left (show rmX10_ropes_0.cells ≤ 201 from by decide) cells) (Nat.add_le_add_left (show rmX10_ropes_0.slots ≤ 804 from by decide) slots)
set_option maxHeartbeats 4000000 in
set_option maxRecDepth 100000 in
theorem lc_image (F : CallFix p m c cL_law 4 s #[Value.ref b] wsL_law RL) (hX : va_X b L xs s s.heap) (hbl : b < s.heap.size) (hbA : ¬ A b) (hA : ∀ q : Nat, s.heap.size ≤ q → A q) (hE : enC ts aK aV A s s.heap) (hK : va_K (dC, dI) vwCl (tyL t tI tZ) s) (v1 : vp_in (x3 + 1) L) (v2 : vp_in (x3 + 2) L) (v3 : vp_in (x3 + 3) L) (v4 : vp_in (x3 + 4) L) (q1 : cells + 201 ≤ 600000) (q2 : slots + 804 ≤ 7302250) (hl : lv_has ls 4 [(0, .ref b), (1, .ref (h 0)), (2, .ref (h' 0)), (3, .int x3)]) (hR : Rel S M) (hC : lwC dC dI t tI tZ A h h' S M H) (hS : va_S A s.heap H locs) (kk : ∀ (H1 : Heap) (locs1 : List Loc) (S' : CS) (M' : MS) (c1 s1 : Nat), lwC dC dI t tI tZ A h h' S' M' H1 → va_S A s.heap H1 locs1 → Rel S' M' → c1 ≤ cells + 201 → s1 ≤ slots + 804 → W p l e room_1 s m #[Value.ref b] below meth c H1 locs1 c1 s1 Q (F0 m 780 ls [])) : W p l e room_1 s m #[Value.ref b] below meth c H locs cells slots Q (F0 m 674 ls []) := by
  refine lv_aload_n F.1 F.2.1 dL_law_674 rfl (lv_at hl 1 rfl) ?_
  refine lv_aload_n F.1 F.2.1 dL_law_675 rfl (lv_at hl 0 rfl) ?_
  refine lv_iload_n F.1 F.2.1 dL_law_676 rfl (lv_at hl 3 rfl) ?_
  refine lv_iconst (v := 1) F.1 F.2.1 dL_law_677 (by decide) ?_
  refine lv_iadd F.1 F.2.1 dL_law_678 ?_
  refine va_sld F.1 F.2.1 hX hbl hbA hS v1 dL_law_679 ?_
  obtain ⟨r, S', M', e1, e2, hR'⟩ := agree.2.2.2.2.2.2.2.2.2.2.2.2.2.2.2.2.2.2.1 S M hR (xs (x3 + 1).toNatClampNeg)
  refine lwci (As := [.int (xs (x3 + 1).toNatClampNeg)]) (rest := []) F (fun A' tx hA' => ⟨tx, c_X10_image_0 l dC dI t ts aK aV A' h tx H.size hA' _ _ _ _ e1⟩) (cwV 1 F.2.2.2.2 gL_law_X10_image rfl rfl rfl (by decide +kernel) ⟨(Nat.le_of_ble_eq_true rfl), (Nat.le_of_ble_eq_true rfl)⟩) rfl hl.1 rfl (Nat.le_of_ble_eq_true rfl) dL_law_680 ⟨Nat.le_trans (Nat.add_le_add_left (show rmX10_image_0.cells ≤ 201 from by decide) cells) q1, Nat.le_trans (Nat.add_le_add_left (show rmX10_image_0.slots ≤ 804 from by decide) slots) q2⟩ hE hK hC hS hA (fun H locs hC hS => ?_)
  refine lv_aload_n F.1 F.2.1 dL_law_683 rfl (lv_at hl 2 rfl) ?_
  refine lv_aload_n F.1 F.2.1 dL_law_684 rfl (lv_at hl 0 rfl) ?_
  refine lv_iload_n F.1 F.2.1 dL_law_685 rfl (lv_at hl 3 rfl) ?_
  refine lv_iconst (v := 1) F.1 F.2.1 dL_law_686 (by decide) ?_
  refine lv_iadd F.1 F.2.1 dL_law_687 ?_
  refine va_sld F.1 F.2.1 hX hbl hbA hS v1 dL_law_688 ?_
  refine lwmi (As := [.int (xs (x3 + 1).toNatClampNeg)]) (rest := [.int r]) F (c_X11_image l dC dI tI tZ h' H.size _ _ _ _ e2) (cwV 1 F.2.2.2.2 gL_law_X11_image rfl rfl rfl (by decide +kernel) ⟨(Nat.le_of_ble_eq_true rfl), (Nat.le_of_ble_eq_true rfl)⟩) rfl hl.1 rfl (Nat.le_of_ble_eq_true rfl) dL_law_689 ⟨Nat.le_trans (Nat.add_le_add_left (show rmX10_image_0.cells ≤ 201 from by decide) cells) q1, Nat.le_trans (Nat.add_le_add_left (show rmX10_image_0.slots ≤ 804 from by decide) slots) q2⟩ hK hC hS hA (fun H locs hC hS => ?_)
  refine lv_icmp_eq (tgt := 780) F.1 F.2.1 dL_law_692 (by decide) (fun _ => ?_) (fun k => absurd rfl k)
  exact kk H locs _ _ _ _ hC hS hR' (Nat.add_le_add_left (show rmX10_image_0.cells ≤ 201 from by decide) cells) (Nat.add_le_add_left (show rmX10_image_0.slots ≤ 804 from by decide) slots)
set_option maxHeartbeats 4000000 in
set_option maxRecDepth 100000 in
theorem lc_from (F : CallFix p m c cL_law 4 s #[Value.ref b] wsL_law RL) (hX : va_X b L xs s s.heap) (hbl : b < s.heap.size) (hbA : ¬ A b) (hA : ∀ q : Nat, s.heap.size ≤ q → A q) (hE : enC ts aK aV A s s.heap) (hK : va_K (dC, dI) vwCl (tyL t tI tZ) s) (v1 : vp_in (x3 + 1) L) (v2 : vp_in (x3 + 2) L) (v3 : vp_in (x3 + 3) L) (v4 : vp_in (x3 + 4) L) (q1 : cells + 201 ≤ 600000) (q2 : slots + 804 ≤ 7302250) (hl : lv_has ls 4 [(0, .ref b), (1, .ref (h 0)), (2, .ref (h' 0)), (3, .int x3)]) (hR : Rel S M) (hC : lwC dC dI t tI tZ A h h' S M H) (hS : va_S A s.heap H locs) (kk : ∀ (H1 : Heap) (locs1 : List Loc) (S' : CS) (M' : MS) (c1 s1 : Nat), lwC dC dI t tI tZ A h h' S' M' H1 → va_S A s.heap H1 locs1 → Rel S' M' → c1 ≤ cells + 201 → s1 ≤ slots + 804 → W p l e room_1 s m #[Value.ref b] below meth c H1 locs1 c1 s1 Q (F0 m 780 ls [])) : W p l e room_1 s m #[Value.ref b] below meth c H locs cells slots Q (F0 m 697 ls []) := by
  refine lv_aload_n F.1 F.2.1 dL_law_697 rfl (lv_at hl 1 rfl) ?_
  refine lv_aload_n F.1 F.2.1 dL_law_698 rfl (lv_at hl 0 rfl) ?_
  refine lv_iload_n F.1 F.2.1 dL_law_699 rfl (lv_at hl 3 rfl) ?_
  refine lv_iconst (v := 1) F.1 F.2.1 dL_law_700 (by decide) ?_
  refine lv_iadd F.1 F.2.1 dL_law_701 ?_
  refine va_sld F.1 F.2.1 hX hbl hbA hS v1 dL_law_702 ?_
  obtain ⟨r, S', M', e1, e2, hR'⟩ := agree.2.2.2.2.2.2.2.2.2.2.2.2.2.2.2.2.2.2.2.1 S M hR (xs (x3 + 1).toNatClampNeg)
  refine lwci (As := [.int (xs (x3 + 1).toNatClampNeg)]) (rest := []) F (fun A' tx hA' => ⟨tx, c_X10_from_0 l dC dI t ts aK aV A' h tx H.size hA' _ _ _ _ e1⟩) (cwV 1 F.2.2.2.2 gL_law_X10_from rfl rfl rfl (by decide +kernel) ⟨(Nat.le_of_ble_eq_true rfl), (Nat.le_of_ble_eq_true rfl)⟩) rfl hl.1 rfl (Nat.le_of_ble_eq_true rfl) dL_law_703 ⟨Nat.le_trans (Nat.add_le_add_left (show rmX10_from_0.cells ≤ 201 from by decide) cells) q1, Nat.le_trans (Nat.add_le_add_left (show rmX10_from_0.slots ≤ 804 from by decide) slots) q2⟩ hE hK hC hS hA (fun H locs hC hS => ?_)
  refine lv_aload_n F.1 F.2.1 dL_law_706 rfl (lv_at hl 2 rfl) ?_
  refine lv_aload_n F.1 F.2.1 dL_law_707 rfl (lv_at hl 0 rfl) ?_
  refine lv_iload_n F.1 F.2.1 dL_law_708 rfl (lv_at hl 3 rfl) ?_
  refine lv_iconst (v := 1) F.1 F.2.1 dL_law_709 (by decide) ?_
  refine lv_iadd F.1 F.2.1 dL_law_710 ?_
  refine va_sld F.1 F.2.1 hX hbl hbA hS v1 dL_law_711 ?_
  refine lwmi (As := [.int (xs (x3 + 1).toNatClampNeg)]) (rest := [.int r]) F (c_X11_from l dC dI tI tZ h' H.size _ _ _ _ e2) (cwV 1 F.2.2.2.2 gL_law_X11_from rfl rfl rfl (by decide +kernel) ⟨(Nat.le_of_ble_eq_true rfl), (Nat.le_of_ble_eq_true rfl)⟩) rfl hl.1 rfl (Nat.le_of_ble_eq_true rfl) dL_law_712 ⟨Nat.le_trans (Nat.add_le_add_left (show rmX10_from_0.cells ≤ 201 from by decide) cells) q1, Nat.le_trans (Nat.add_le_add_left (show rmX10_from_0.slots ≤ 804 from by decide) slots) q2⟩ hK hC hS hA (fun H locs hC hS => ?_)
  refine lv_icmp_eq (tgt := 780) F.1 F.2.1 dL_law_715 (by decide) (fun _ => ?_) (fun k => absurd rfl k)
  exact kk H locs _ _ _ _ hC hS hR' (Nat.add_le_add_left (show rmX10_from_0.cells ≤ 201 from by decide) cells) (Nat.add_le_add_left (show rmX10_from_0.slots ≤ 804 from by decide) slots)
set_option maxHeartbeats 4000000 in
set_option maxRecDepth 100000 in
theorem lc_status (F : CallFix p m c cL_law 4 s #[Value.ref b] wsL_law RL) (hX : va_X b L xs s s.heap) (hbl : b < s.heap.size) (hbA : ¬ A b) (hA : ∀ q : Nat, s.heap.size ≤ q → A q) (hE : enC ts aK aV A s s.heap) (hK : va_K (dC, dI) vwCl (tyL t tI tZ) s) (v1 : vp_in (x3 + 1) L) (v2 : vp_in (x3 + 2) L) (v3 : vp_in (x3 + 3) L) (v4 : vp_in (x3 + 4) L) (q1 : cells + 201 ≤ 600000) (q2 : slots + 804 ≤ 7302250) (hl : lv_has ls 4 [(0, .ref b), (1, .ref (h 0)), (2, .ref (h' 0)), (3, .int x3)]) (hR : Rel S M) (hC : lwC dC dI t tI tZ A h h' S M H) (hS : va_S A s.heap H locs) (kk : ∀ (H1 : Heap) (locs1 : List Loc) (S' : CS) (M' : MS) (c1 s1 : Nat), lwC dC dI t tI tZ A h h' S' M' H1 → va_S A s.heap H1 locs1 → Rel S' M' → c1 ≤ cells + 201 → s1 ≤ slots + 804 → W p l e room_1 s m #[Value.ref b] below meth c H1 locs1 c1 s1 Q (F0 m 780 ls [])) : W p l e room_1 s m #[Value.ref b] below meth c H locs cells slots Q (F0 m 720 ls []) := by
  refine lv_aload_n F.1 F.2.1 dL_law_720 rfl (lv_at hl 1 rfl) ?_
  refine lv_aload_n F.1 F.2.1 dL_law_721 rfl (lv_at hl 0 rfl) ?_
  refine lv_iload_n F.1 F.2.1 dL_law_722 rfl (lv_at hl 3 rfl) ?_
  refine lv_iconst (v := 1) F.1 F.2.1 dL_law_723 (by decide) ?_
  refine lv_iadd F.1 F.2.1 dL_law_724 ?_
  refine va_sld F.1 F.2.1 hX hbl hbA hS v1 dL_law_725 ?_
  obtain ⟨r, S', M', e1, e2, hR'⟩ := agree.2.2.2.2.2.2.2.2.2.2.2.2.2.2.2.2.2.2.2.2.1 S M hR (xs (x3 + 1).toNatClampNeg)
  refine lwci (As := [.int (xs (x3 + 1).toNatClampNeg)]) (rest := []) F (fun A' tx hA' => ⟨tx, c_X10_status_0 l dC dI t ts aK aV A' h tx H.size hA' _ _ _ _ e1⟩) (cwV 1 F.2.2.2.2 gL_law_X10_status rfl rfl rfl (by decide +kernel) ⟨(Nat.le_of_ble_eq_true rfl), (Nat.le_of_ble_eq_true rfl)⟩) rfl hl.1 rfl (Nat.le_of_ble_eq_true rfl) dL_law_726 ⟨Nat.le_trans (Nat.add_le_add_left (show rmX10_status_0.cells ≤ 201 from by decide) cells) q1, Nat.le_trans (Nat.add_le_add_left (show rmX10_status_0.slots ≤ 804 from by decide) slots) q2⟩ hE hK hC hS hA (fun H locs hC hS => ?_)
  refine lv_aload_n F.1 F.2.1 dL_law_729 rfl (lv_at hl 2 rfl) ?_
  refine lv_aload_n F.1 F.2.1 dL_law_730 rfl (lv_at hl 0 rfl) ?_
  refine lv_iload_n F.1 F.2.1 dL_law_731 rfl (lv_at hl 3 rfl) ?_
  refine lv_iconst (v := 1) F.1 F.2.1 dL_law_732 (by decide) ?_
  refine lv_iadd F.1 F.2.1 dL_law_733 ?_
  refine va_sld F.1 F.2.1 hX hbl hbA hS v1 dL_law_734 ?_
  refine lwmi (As := [.int (xs (x3 + 1).toNatClampNeg)]) (rest := [.int r]) F (c_X11_status l dC dI tI tZ h' H.size _ _ _ _ e2) (cwV 1 F.2.2.2.2 gL_law_X11_status rfl rfl rfl (by decide +kernel) ⟨(Nat.le_of_ble_eq_true rfl), (Nat.le_of_ble_eq_true rfl)⟩) rfl hl.1 rfl (Nat.le_of_ble_eq_true rfl) dL_law_735 ⟨Nat.le_trans (Nat.add_le_add_left (show rmX10_status_0.cells ≤ 201 from by decide) cells) q1, Nat.le_trans (Nat.add_le_add_left (show rmX10_status_0.slots ≤ 804 from by decide) slots) q2⟩ hK hC hS hA (fun H locs hC hS => ?_)
  refine lv_icmp_eq (tgt := 780) F.1 F.2.1 dL_law_738 (by decide) (fun _ => ?_) (fun k => absurd rfl k)
  exact kk H locs _ _ _ _ hC hS hR' (Nat.add_le_add_left (show rmX10_status_0.cells ≤ 201 from by decide) cells) (Nat.add_le_add_left (show rmX10_status_0.slots ≤ 804 from by decide) slots)
set_option maxHeartbeats 4000000 in
set_option maxRecDepth 100000 in
theorem lc_count (F : CallFix p m c cL_law 4 s #[Value.ref b] wsL_law RL) (hX : va_X b L xs s s.heap) (hbl : b < s.heap.size) (hbA : ¬ A b) (hA : ∀ q : Nat, s.heap.size ≤ q → A q) (hE : enC ts aK aV A s s.heap) (hK : va_K (dC, dI) vwCl (tyL t tI tZ) s) (v1 : vp_in (x3 + 1) L) (v2 : vp_in (x3 + 2) L) (v3 : vp_in (x3 + 3) L) (v4 : vp_in (x3 + 4) L) (q1 : cells + 201 ≤ 600000) (q2 : slots + 804 ≤ 7302250) (hl : lv_has ls 4 [(0, .ref b), (1, .ref (h 0)), (2, .ref (h' 0)), (3, .int x3)]) (hR : Rel S M) (hC : lwC dC dI t tI tZ A h h' S M H) (hS : va_S A s.heap H locs) (kk : ∀ (H1 : Heap) (locs1 : List Loc) (S' : CS) (M' : MS) (c1 s1 : Nat), lwC dC dI t tI tZ A h h' S' M' H1 → va_S A s.heap H1 locs1 → Rel S' M' → c1 ≤ cells + 201 → s1 ≤ slots + 804 → W p l e room_1 s m #[Value.ref b] below meth c H1 locs1 c1 s1 Q (F0 m 780 ls [])) : W p l e room_1 s m #[Value.ref b] below meth c H locs cells slots Q (F0 m 743 ls []) := by
  refine lv_aload_n F.1 F.2.1 dL_law_743 rfl (lv_at hl 1 rfl) ?_
  refine lv_aload_n F.1 F.2.1 dL_law_744 rfl (lv_at hl 0 rfl) ?_
  refine lv_iload_n F.1 F.2.1 dL_law_745 rfl (lv_at hl 3 rfl) ?_
  refine lv_iconst (v := 1) F.1 F.2.1 dL_law_746 (by decide) ?_
  refine lv_iadd F.1 F.2.1 dL_law_747 ?_
  refine va_sld F.1 F.2.1 hX hbl hbA hS v1 dL_law_748 ?_
  obtain ⟨r, S', M', e1, e2, hR'⟩ := agree.2.2.2.2.2.2.2.2.2.2.2.2.2.2.2.2.2.2.2.2.2.1 S M hR (xs (x3 + 1).toNatClampNeg)
  refine lwci (As := [.int (xs (x3 + 1).toNatClampNeg)]) (rest := []) F (fun A' tx hA' => ⟨tx, c_X10_count_0 l dC dI t ts aK aV A' h tx H.size hA' _ _ _ _ e1⟩) (cwV 1 F.2.2.2.2 gL_law_X10_count rfl rfl rfl (by decide +kernel) ⟨(Nat.le_of_ble_eq_true rfl), (Nat.le_of_ble_eq_true rfl)⟩) rfl hl.1 rfl (Nat.le_of_ble_eq_true rfl) dL_law_749 ⟨Nat.le_trans (Nat.add_le_add_left (show rmX10_count_0.cells ≤ 201 from by decide) cells) q1, Nat.le_trans (Nat.add_le_add_left (show rmX10_count_0.slots ≤ 804 from by decide) slots) q2⟩ hE hK hC hS hA (fun H locs hC hS => ?_)
  refine lv_aload_n F.1 F.2.1 dL_law_752 rfl (lv_at hl 2 rfl) ?_
  refine lv_aload_n F.1 F.2.1 dL_law_753 rfl (lv_at hl 0 rfl) ?_
  refine lv_iload_n F.1 F.2.1 dL_law_754 rfl (lv_at hl 3 rfl) ?_
  refine lv_iconst (v := 1) F.1 F.2.1 dL_law_755 (by decide) ?_
  refine lv_iadd F.1 F.2.1 dL_law_756 ?_
  refine va_sld F.1 F.2.1 hX hbl hbA hS v1 dL_law_757 ?_
  refine lwmi (As := [.int (xs (x3 + 1).toNatClampNeg)]) (rest := [.int r]) F (c_X11_count l dC dI tI tZ h' H.size _ _ _ _ e2) (cwV 1 F.2.2.2.2 gL_law_X11_count rfl rfl rfl (by decide +kernel) ⟨(Nat.le_of_ble_eq_true rfl), (Nat.le_of_ble_eq_true rfl)⟩) rfl hl.1 rfl (Nat.le_of_ble_eq_true rfl) dL_law_758 ⟨Nat.le_trans (Nat.add_le_add_left (show rmX10_count_0.cells ≤ 201 from by decide) cells) q1, Nat.le_trans (Nat.add_le_add_left (show rmX10_count_0.slots ≤ 804 from by decide) slots) q2⟩ hK hC hS hA (fun H locs hC hS => ?_)
  refine lv_icmp_eq (tgt := 780) F.1 F.2.1 dL_law_761 (by decide) (fun _ => ?_) (fun k => absurd rfl k)
  exact kk H locs _ _ _ _ hC hS hR' (Nat.add_le_add_left (show rmX10_count_0.cells ≤ 201 from by decide) cells) (Nat.add_le_add_left (show rmX10_count_0.slots ≤ 804 from by decide) slots)
theorem lw_cmp (r : Int64) : lg_cmp r r = 0 := by
  unfold lg_cmp
  simp
set_option maxHeartbeats 4000000 in
set_option maxRecDepth 100000 in
theorem lc_digest (F : CallFix p m c cL_law 4 s #[Value.ref b] wsL_law RL) (hX : va_X b L xs s s.heap) (hbl : b < s.heap.size) (hbA : ¬ A b) (hA : ∀ q : Nat, s.heap.size ≤ q → A q) (hE : enC ts aK aV A s s.heap) (hK : va_K (dC, dI) vwCl (tyL t tI tZ) s) (v1 : vp_in (x3 + 1) L) (v2 : vp_in (x3 + 2) L) (v3 : vp_in (x3 + 3) L) (v4 : vp_in (x3 + 4) L) (q1 : cells + 201 ≤ 600000) (q2 : slots + 804 ≤ 7302250) (hl : lv_has ls 4 [(0, .ref b), (1, .ref (h 0)), (2, .ref (h' 0)), (3, .int x3)]) (hR : Rel S M) (hC : lwC dC dI t tI tZ A h h' S M H) (hS : va_S A s.heap H locs) (kk : ∀ (H1 : Heap) (locs1 : List Loc) (S' : CS) (M' : MS) (c1 s1 : Nat), lwC dC dI t tI tZ A h h' S' M' H1 → va_S A s.heap H1 locs1 → Rel S' M' → c1 ≤ cells + 201 → s1 ≤ slots + 804 → W p l e room_1 s m #[Value.ref b] below meth c H1 locs1 c1 s1 Q (F0 m 780 ls [])) : W p l e room_1 s m #[Value.ref b] below meth c H locs cells slots Q (F0 m 766 ls []) := by
  refine lv_aload_n F.1 F.2.1 dL_law_766 rfl (lv_at hl 1 rfl) ?_
  obtain ⟨r, S', M', e1, e2, hR'⟩ := agree.2.2.2.2.2.2.2.2.2.2.2.2.2.2.2.2.2.2.2.2.2.2 S M hR
  obtain ⟨e1, eS⟩ := e1
  subst eS
  obtain ⟨e2, eM⟩ := e2
  subst eM
  refine lwcl (As := []) (rest := []) F (fun A' tx hA' => ⟨tx, c_X10_digest_0 l dC dI t ts aK aV A' h tx H.size hA' _ _ e1⟩) (cwV 0 F.2.2.2.2 gL_law_X10_digest rfl rfl rfl (by decide +kernel) ⟨(Nat.le_of_ble_eq_true rfl), (Nat.le_of_ble_eq_true rfl)⟩) rfl hl.1 rfl (Nat.le_of_ble_eq_true rfl) dL_law_767 ⟨Nat.le_trans (Nat.add_le_add_left (show rmX10_digest_0.cells ≤ 201 from by decide) cells) q1, Nat.le_trans (Nat.add_le_add_left (show rmX10_digest_0.slots ≤ 804 from by decide) slots) q2⟩ hE hK hC hS hA (fun H locs hC hS => ?_)
  refine lv_aload_n F.1 F.2.1 dL_law_770 rfl (lv_at hl 2 rfl) ?_
  refine lwml (As := []) (rest := [.long r]) F (c_X11_digest l dC dI tI tZ h' H.size _ _ e2) (cwV 0 F.2.2.2.2 gL_law_X11_digest rfl rfl rfl (by decide +kernel) ⟨(Nat.le_of_ble_eq_true rfl), (Nat.le_of_ble_eq_true rfl)⟩) rfl hl.1 rfl (Nat.le_of_ble_eq_true rfl) dL_law_771 ⟨Nat.le_trans (Nat.add_le_add_left (show rmX10_digest_0.cells ≤ 201 from by decide) cells) q1, Nat.le_trans (Nat.add_le_add_left (show rmX10_digest_0.slots ≤ 804 from by decide) slots) q2⟩ hK hC hS hA (fun H locs hC hS => ?_)
  refine W.lcmp F.1 F.2.1 dL_law_774 ?_
  refine lv_if_eq (tgt := 780) F.1 F.2.1 dL_law_775 (by decide) (fun _ => ?_) (fun k => absurd (lw_cmp r) k)
  exact kk H locs _ _ _ _ hC hS hR' (Nat.add_le_add_left (show rmX10_digest_0.cells ≤ 201 from by decide) cells) (Nat.add_le_add_left (show rmX10_digest_0.slots ≤ 804 from by decide) slots)
end LC
