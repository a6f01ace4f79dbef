set_option maxHeartbeats 400000 in
set_option maxRecDepth 100000 in
theorem lc_begin (l : Launch) {p : Program} {e : Env} {s : State} {m : MethodId} {args : Array Value} {below : List Frame} {meth : Method} {c : Code} {H : Heap} {locs : List Loc} {cells slots : Nat} {Q : State → Prop} {D : va_G} {ka : Nat → ClassId} {Z : HS} {A : Nat → Prop} {ls : Array Slot} (X : Cx p s m meth c cL_law 4 RL D ka Z A) {b L g o i N : Nat} {R : Nat → Nat} {T : TS} {xs : Nat → Int32} (hX : va_X b L xs s s.heap) (hbl : b < s.heap.size) (hbA : ¬ A b) (hi : i + 5 ≤ L) (hL : L ≤ 2560) (I : Inv D ka Z s A g o R T N H locs) (hN : N < 2 ^ 31) (hl : lv_has ls 4 [(3, .int (nI i)), (2, .ref o), (1, .ref g), (0, .ref b)]) (hc : cells + 44 ≤ 600000) (hs : slots + 2247 ≤ 7302250) (kk : ∀ (T' : TS) (H1 : Heap) (locs1 : List Loc), Inv D ka Z s A g o R T' (N + 1) H1 locs1 → W p l e room_1 s m args below meth c H1 locs1 (cells + 44) (slots + 2247) Q (F0 m 813 ls [])) : W p l e room_1 s m args below meth c H locs cells slots Q (F0 m 136 ls []) := by
  obtain ⟨Sc, Sr, G, Vc, Vr, hap, hC, hV, hT⟩ := I
  refine lv_aload_n X.1.1 X.1.2.1 dL_law_136 rfl (lv_at hl 2 rfl) ?_
  refine l_arg X hX hbl hbA Vc.2.1 hl (k := 1) (kv := 1) (by omega) hL (by decide) (by decide) dL_law_137 dL_law_138 dL_law_139 dL_law_140 dL_law_141 ?_
  refine r_callV2 (k := 7) (n := 1) (As := [.int (xs (i + 1))]) X Vc Vr hap (sd_X6_begin l D ka _ Sc (fun r S' => r = (s_begin T (xs (i + 1))).1 ∧ RC S' g G (s_begin T (xs (i + 1))).2) g (xs (i + 1)) (c_begin hC (fun S' h' => ⟨rfl, h'⟩))) hC.k (by decide) (by decide) rfl wl_0 wl_1 wl_2 wl_3 wl_4 rfl rfl (by decide +kernel) ⟨Nat.le_of_ble_eq_true rfl, Nat.le_of_ble_eq_true rfl⟩ rfl hl.1 rfl (Nat.le_of_ble_eq_true rfl) dL_law_142 ⟨show cells + 0 ≤ 600000 by omega, show slots + 0 ≤ 7302250 by omega⟩ (fun r1 S1 H locs h V V2 hap => ?_)
  obtain ⟨e1, hC⟩ := h
  have Vc := V; have Vr := V2
  clear V V2
  refine lv_aload_n X.1.1 X.1.2.1 dL_law_145 rfl (lv_at hl 1 rfl) ?_
  refine l_arg X hX hbl hbA Vc.2.1 hl (k := 1) (kv := 1) (by omega) hL (by decide) (by decide) dL_law_146 dL_law_147 dL_law_148 dL_law_149 dL_law_150 ?_
  refine r_callV2 (k := 8) (n := 1) (As := [.int (xs (i + 1))]) X Vr Vc hap.sym (sd_X7_begin l D ka _ Sr (fun r S' => r = (s_begin T (xs (i + 1))).1 ∧ RV S' o R (s_begin T (xs (i + 1))).2) o (xs (i + 1)) (wr_X7_begin hV.1 (v_begin hV (post := fun r S' => r = (s_begin T (xs (i + 1))).1 ∧ RV S' o R (s_begin T (xs (i + 1))).2) (fun S' h' => ⟨rfl, h'⟩)) (fun _ _ _ q => q))) hV.1.1 (by decide) (by decide) rfl wl_5 wl_6 wl_7 wl_8 wl_9 rfl rfl (by decide +kernel) ⟨Nat.le_of_ble_eq_true rfl, Nat.le_of_ble_eq_true rfl⟩ rfl hl.1 rfl (Nat.le_of_ble_eq_true rfl) dL_law_151 ⟨show cells + 0 + 0 ≤ 600000 by omega, show slots + 0 + 0 ≤ 7302250 by omega⟩ (fun r2 S1 H locs h V V2 hap => ?_)
  obtain ⟨e2, hV⟩ := h
  have Vr := V; have Vc := V2; have hap := hap.sym
  refine lv_icmp_eq (tgt := 813) X.1.1 X.1.2.1 dL_law_154 (by decide) (fun _ => ?_) (fun cq => absurd (e1.trans e2.symm) cq)
  refine W.widen (k := cells + 44) (n := slots + 2247) (by omega) (by omega) ?_
  exact kk _ H locs ⟨_, _, G, Vc, Vr, hap, hC, hV, ok_begin hT _⟩
set_option maxHeartbeats 400000 in
set_option maxRecDepth 100000 in
theorem lc_station (l : Launch) {p : Program} {e : Env} {s : State} {m : MethodId} {args : Array Value} {below : List Frame} {meth : Method} {c : Code} {H : Heap} {locs : List Loc} {cells slots : Nat} {Q : State → Prop} {D : va_G} {ka : Nat → ClassId} {Z : HS} {A : Nat → Prop} {ls : Array Slot} (X : Cx p s m meth c cL_law 4 RL D ka Z A) {b L g o i N : Nat} {R : Nat → Nat} {T : TS} {xs : Nat → Int32} (hX : va_X b L xs s s.heap) (hbl : b < s.heap.size) (hbA : ¬ A b) (hi : i + 5 ≤ L) (hL : L ≤ 2560) (I : Inv D ka Z s A g o R T N H locs) (hN : N < 2 ^ 31) (hl : lv_has ls 4 [(3, .int (nI i)), (2, .ref o), (1, .ref g), (0, .ref b)]) (hc : cells + 44 ≤ 600000) (hs : slots + 2247 ≤ 7302250) (kk : ∀ (T' : TS) (H1 : Heap) (locs1 : List Loc), Inv D ka Z s A g o R T' (N + 1) H1 locs1 → W p l e room_1 s m args below meth c H1 locs1 (cells + 44) (slots + 2247) Q (F0 m 813 ls [])) : W p l e room_1 s m args below meth c H locs cells slots Q (F0 m 159 ls []) := by
  obtain ⟨Sc, Sr, G, Vc, Vr, hap, hC, hV, hT⟩ := I
  refine lv_aload_n X.1.1 X.1.2.1 dL_law_159 rfl (lv_at hl 2 rfl) ?_
  refine l_arg X hX hbl hbA Vc.2.1 hl (k := 1) (kv := 1) (by omega) hL (by decide) (by decide) dL_law_160 dL_law_161 dL_law_162 dL_law_163 dL_law_164 ?_
  refine l_arg X hX hbl hbA Vc.2.1 hl (k := 2) (kv := 2) (by omega) hL (by decide) (by decide) dL_law_165 dL_law_166 dL_law_167 dL_law_168 dL_law_169 ?_
  refine l_arg X hX hbl hbA Vc.2.1 hl (k := 3) (kv := 3) (by omega) hL (by decide) (by decide) dL_law_170 dL_law_171 dL_law_172 dL_law_173 dL_law_174 ?_
  refine r_callV2 (k := 7) (n := 3) (As := [.int (xs (i + 1)), .int (xs (i + 2)), .int (xs (i + 3))]) X Vc Vr hap (sd_X6_station l D ka _ Sc (fun r S' => r = (s_station T (xs (i + 1)) (xs (i + 2)) (xs (i + 3))).1 ∧ RC S' g G (s_station T (xs (i + 1)) (xs (i + 2)) (xs (i + 3))).2) g (xs (i + 1)) (xs (i + 2)) (xs (i + 3)) (c_station hC hT (fun S' h' => ⟨rfl, h'⟩))) hC.k (by decide) (by decide) rfl wl_10 wl_11 wl_2 wl_12 wl_13 rfl rfl (by decide +kernel) ⟨Nat.le_of_ble_eq_true rfl, Nat.le_of_ble_eq_true rfl⟩ rfl hl.1 rfl (Nat.le_of_ble_eq_true rfl) dL_law_175 ⟨show cells + 3 ≤ 600000 by omega, show slots + 91 ≤ 7302250 by omega⟩ (fun r1 S1 H locs h V V2 hap => ?_)
  obtain ⟨e1, hC⟩ := h
  have Vc := V; have Vr := V2
  clear V V2
  refine lv_aload_n X.1.1 X.1.2.1 dL_law_178 rfl (lv_at hl 1 rfl) ?_
  refine l_arg X hX hbl hbA Vc.2.1 hl (k := 1) (kv := 1) (by omega) hL (by decide) (by decide) dL_law_179 dL_law_180 dL_law_181 dL_law_182 dL_law_183 ?_
  refine l_arg X hX hbl hbA Vc.2.1 hl (k := 2) (kv := 2) (by omega) hL (by decide) (by decide) dL_law_184 dL_law_185 dL_law_186 dL_law_187 dL_law_188 ?_
  refine l_arg X hX hbl hbA Vc.2.1 hl (k := 3) (kv := 3) (by omega) hL (by decide) (by decide) dL_law_189 dL_law_190 dL_law_191 dL_law_192 dL_law_193 ?_
  refine r_callV2 (k := 8) (n := 3) (As := [.int (xs (i + 1)), .int (xs (i + 2)), .int (xs (i + 3))]) X Vr Vc hap.sym (sd_X7_station l D ka _ Sr (fun r S' => r = (s_station T (xs (i + 1)) (xs (i + 2)) (xs (i + 3))).1 ∧ RV S' o R (s_station T (xs (i + 1)) (xs (i + 2)) (xs (i + 3))).2) o (xs (i + 1)) (xs (i + 2)) (xs (i + 3)) (wr_X7_station hV.1 (v_station hV hT (post := fun r S' => r = (s_station T (xs (i + 1)) (xs (i + 2)) (xs (i + 3))).1 ∧ RV S' o R (s_station T (xs (i + 1)) (xs (i + 2)) (xs (i + 3))).2) (fun S' h' => ⟨rfl, h'⟩)) (fun _ _ _ q => q))) hV.1.1 (by decide) (by decide) rfl wl_14 wl_15 wl_7 wl_16 wl_17 rfl rfl (by decide +kernel) ⟨Nat.le_of_ble_eq_true rfl, Nat.le_of_ble_eq_true rfl⟩ rfl hl.1 rfl (Nat.le_of_ble_eq_true rfl) dL_law_194 ⟨show cells + 3 + 0 ≤ 600000 by omega, show slots + 91 + 0 ≤ 7302250 by omega⟩ (fun r2 S1 H locs h V V2 hap => ?_)
  obtain ⟨e2, hV⟩ := h
  have Vr := V; have Vc := V2; have hap := hap.sym
  refine lv_icmp_eq (tgt := 813) X.1.1 X.1.2.1 dL_law_197 (by decide) (fun _ => ?_) (fun cq => absurd (e1.trans e2.symm) cq)
  refine W.widen (k := cells + 44) (n := slots + 2247) (by omega) (by omega) ?_
  exact kk _ H locs ⟨_, _, G, Vc, Vr, hap, hC, hV, ok_station hT _ _ _⟩
set_option maxHeartbeats 400000 in
set_option maxRecDepth 100000 in
theorem lc_move (l : Launch) {p : Program} {e : Env} {s : State} {m : MethodId} {args : Array Value} {below : List Frame} {meth : Method} {c : Code} {H : Heap} {locs : List Loc} {cells slots : Nat} {Q : State → Prop} {D : va_G} {ka : Nat → ClassId} {Z : HS} {A : Nat → Prop} {ls : Array Slot} (X : Cx p s m meth c cL_law 4 RL D ka Z A) {b L g o i N : Nat} {R : Nat → Nat} {T : TS} {xs : Nat → Int32} (hX : va_X b L xs s s.heap) (hbl : b < s.heap.size) (hbA : ¬ A b) (hi : i + 5 ≤ L) (hL : L ≤ 2560) (I : Inv D ka Z s A g o R T N H locs) (hN : N < 2 ^ 31) (hl : lv_has ls 4 [(3, .int (nI i)), (2, .ref o), (1, .ref g), (0, .ref b)]) (hc : cells + 44 ≤ 600000) (hs : slots + 2247 ≤ 7302250) (kk : ∀ (T' : TS) (H1 : Heap) (locs1 : List Loc), Inv D ka Z s A g o R T' (N + 1) H1 locs1 → W p l e room_1 s m args below meth c H1 locs1 (cells + 44) (slots + 2247) Q (F0 m 813 ls [])) : W p l e room_1 s m args below meth c H locs cells slots Q (F0 m 202 ls []) := by
  obtain ⟨Sc, Sr, G, Vc, Vr, hap, hC, hV, hT⟩ := I
  refine lv_aload_n X.1.1 X.1.2.1 dL_law_202 rfl (lv_at hl 2 rfl) ?_
  refine l_arg X hX hbl hbA Vc.2.1 hl (k := 1) (kv := 1) (by omega) hL (by decide) (by decide) dL_law_203 dL_law_204 dL_law_205 dL_law_206 dL_law_207 ?_
  refine l_arg X hX hbl hbA Vc.2.1 hl (k := 2) (kv := 2) (by omega) hL (by decide) (by decide) dL_law_208 dL_law_209 dL_law_210 dL_law_211 dL_law_212 ?_
  refine r_callV2 (k := 7) (n := 2) (As := [.int (xs (i + 1)), .int (xs (i + 2))]) X Vc Vr hap (sd_X6_move l D ka _ Sc (fun r S' => r = (s_move T (xs (i + 1)) (xs (i + 2))).1 ∧ RC S' g G (s_move T (xs (i + 1)) (xs (i + 2))).2) g (xs (i + 1)) (xs (i + 2)) (c_move hC hT (fun S' h' => ⟨rfl, h'⟩))) hC.k (by decide) (by decide) rfl wl_18 wl_19 wl_2 wl_20 wl_21 rfl rfl (by decide +kernel) ⟨Nat.le_of_ble_eq_true rfl, Nat.le_of_ble_eq_true rfl⟩ rfl hl.1 rfl (Nat.le_of_ble_eq_true rfl) dL_law_213 ⟨show cells + 0 ≤ 600000 by omega, show slots + 0 ≤ 7302250 by omega⟩ (fun r1 S1 H locs h V V2 hap => ?_)
  obtain ⟨e1, hC⟩ := h
  have Vc := V; have Vr := V2
  clear V V2
  refine lv_aload_n X.1.1 X.1.2.1 dL_law_216 rfl (lv_at hl 1 rfl) ?_
  refine l_arg X hX hbl hbA Vc.2.1 hl (k := 1) (kv := 1) (by omega) hL (by decide) (by decide) dL_law_217 dL_law_218 dL_law_219 dL_law_220 dL_law_221 ?_
  refine l_arg X hX hbl hbA Vc.2.1 hl (k := 2) (kv := 2) (by omega) hL (by decide) (by decide) dL_law_222 dL_law_223 dL_law_224 dL_law_225 dL_law_226 ?_
  refine r_callV2 (k := 8) (n := 2) (As := [.int (xs (i + 1)), .int (xs (i + 2))]) X Vr Vc hap.sym (sd_X7_move l D ka _ Sr (fun r S' => r = (s_move T (xs (i + 1)) (xs (i + 2))).1 ∧ RV S' o R (s_move T (xs (i + 1)) (xs (i + 2))).2) o (xs (i + 1)) (xs (i + 2)) (wr_X7_move hV.1 (v_move hV hT (post := fun r S' => r = (s_move T (xs (i + 1)) (xs (i + 2))).1 ∧ RV S' o R (s_move T (xs (i + 1)) (xs (i + 2))).2) (fun S' h' => ⟨rfl, h'⟩)) (fun _ _ _ q => q))) hV.1.1 (by decide) (by decide) rfl wl_22 wl_23 wl_7 wl_24 wl_25 rfl rfl (by decide +kernel) ⟨Nat.le_of_ble_eq_true rfl, Nat.le_of_ble_eq_true rfl⟩ rfl hl.1 rfl (Nat.le_of_ble_eq_true rfl) dL_law_227 ⟨show cells + 0 + 0 ≤ 600000 by omega, show slots + 0 + 0 ≤ 7302250 by omega⟩ (fun r2 S1 H locs h V V2 hap => ?_)
  obtain ⟨e2, hV⟩ := h
  have Vr := V; have Vc := V2; have hap := hap.sym
  refine lv_icmp_eq (tgt := 813) X.1.1 X.1.2.1 dL_law_230 (by decide) (fun _ => ?_) (fun cq => absurd (e1.trans e2.symm) cq)
  refine W.widen (k := cells + 44) (n := slots + 2247) (by omega) (by omega) ?_
  exact kk _ H locs ⟨_, _, G, Vc, Vr, hap, hC, hV, ok_move hT _ _⟩
set_option maxHeartbeats 400000 in
set_option maxRecDepth 100000 in
theorem lc_way (l : Launch) {p : Program} {e : Env} {s : State} {m : MethodId} {args : Array Value} {below : List Frame} {meth : Method} {c : Code} {H : Heap} {locs : List Loc} {cells slots : Nat} {Q : State → Prop} {D : va_G} {ka : Nat → ClassId} {Z : HS} {A : Nat → Prop} {ls : Array Slot} (X : Cx p s m meth c cL_law 4 RL D ka Z A) {b L g o i N : Nat} {R : Nat → Nat} {T : TS} {xs : Nat → Int32} (hX : va_X b L xs s s.heap) (hbl : b < s.heap.size) (hbA : ¬ A b) (hi : i + 5 ≤ L) (hL : L ≤ 2560) (I : Inv D ka Z s A g o R T N H locs) (hN : N < 2 ^ 31) (hl : lv_has ls 4 [(3, .int (nI i)), (2, .ref o), (1, .ref g), (0, .ref b)]) (hc : cells + 44 ≤ 600000) (hs : slots + 2247 ≤ 7302250) (kk : ∀ (T' : TS) (H1 : Heap) (locs1 : List Loc), Inv D ka Z s A g o R T' (N + 1) H1 locs1 → W p l e room_1 s m args below meth c H1 locs1 (cells + 44) (slots + 2247) Q (F0 m 813 ls [])) : W p l e room_1 s m args below meth c H locs cells slots Q (F0 m 235 ls []) := by
  obtain ⟨Sc, Sr, G, Vc, Vr, hap, hC, hV, hT⟩ := I
  refine lv_aload_n X.1.1 X.1.2.1 dL_law_235 rfl (lv_at hl 2 rfl) ?_
  refine l_arg X hX hbl hbA Vc.2.1 hl (k := 1) (kv := 1) (by omega) hL (by decide) (by decide) dL_law_236 dL_law_237 dL_law_238 dL_law_239 dL_law_240 ?_
  refine l_arg X hX hbl hbA Vc.2.1 hl (k := 2) (kv := 2) (by omega) hL (by decide) (by decide) dL_law_241 dL_law_242 dL_law_243 dL_law_244 dL_law_245 ?_
  refine l_arg X hX hbl hbA Vc.2.1 hl (k := 3) (kv := 3) (by omega) hL (by decide) (by decide) dL_law_246 dL_law_247 dL_law_248 dL_law_249 dL_law_250 ?_
  refine r_callV2 (k := 7) (n := 3) (As := [.int (xs (i + 1)), .int (xs (i + 2)), .int (xs (i + 3))]) X Vc Vr hap (sd_X6_way l D ka _ Sc (fun r S' => r = (s_way T (xs (i + 1)) (xs (i + 2)) (xs (i + 3))).1 ∧ RC S' g G (s_way T (xs (i + 1)) (xs (i + 2)) (xs (i + 3))).2) g (xs (i + 1)) (xs (i + 2)) (xs (i + 3)) (c_way hC hT (fun S' h' => ⟨rfl, h'⟩))) hC.k (by decide) (by decide) rfl wl_26 wl_27 wl_2 wl_28 wl_29 rfl rfl (by decide +kernel) ⟨Nat.le_of_ble_eq_true rfl, Nat.le_of_ble_eq_true rfl⟩ rfl hl.1 rfl (Nat.le_of_ble_eq_true rfl) dL_law_251 ⟨show cells + 0 ≤ 600000 by omega, show slots + 0 ≤ 7302250 by omega⟩ (fun r1 S1 H locs h V V2 hap => ?_)
  obtain ⟨e1, hC⟩ := h
  have Vc := V; have Vr := V2
  clear V V2
  refine lv_aload_n X.1.1 X.1.2.1 dL_law_254 rfl (lv_at hl 1 rfl) ?_
  refine l_arg X hX hbl hbA Vc.2.1 hl (k := 1) (kv := 1) (by omega) hL (by decide) (by decide) dL_law_255 dL_law_256 dL_law_257 dL_law_258 dL_law_259 ?_
  refine l_arg X hX hbl hbA Vc.2.1 hl (k := 2) (kv := 2) (by omega) hL (by decide) (by decide) dL_law_260 dL_law_261 dL_law_262 dL_law_263 dL_law_264 ?_
  refine l_arg X hX hbl hbA Vc.2.1 hl (k := 3) (kv := 3) (by omega) hL (by decide) (by decide) dL_law_265 dL_law_266 dL_law_267 dL_law_268 dL_law_269 ?_
  refine r_callV2 (k := 8) (n := 3) (As := [.int (xs (i + 1)), .int (xs (i + 2)), .int (xs (i + 3))]) X Vr Vc hap.sym (sd_X7_way l D ka _ Sr (fun r S' => r = (s_way T (xs (i + 1)) (xs (i + 2)) (xs (i + 3))).1 ∧ RV S' o R (s_way T (xs (i + 1)) (xs (i + 2)) (xs (i + 3))).2) o (xs (i + 1)) (xs (i + 2)) (xs (i + 3)) (wr_X7_way hV.1 (v_way hV hT (post := fun r S' => r = (s_way T (xs (i + 1)) (xs (i + 2)) (xs (i + 3))).1 ∧ RV S' o R (s_way T (xs (i + 1)) (xs (i + 2)) (xs (i + 3))).2) (fun S' h' => ⟨rfl, h'⟩)) (fun _ _ _ q => q))) hV.1.1 (by decide) (by decide) rfl wl_30 wl_31 wl_7 wl_32 wl_33 rfl rfl (by decide +kernel) ⟨Nat.le_of_ble_eq_true rfl, Nat.le_of_ble_eq_true rfl⟩ rfl hl.1 rfl (Nat.le_of_ble_eq_true rfl) dL_law_270 ⟨show cells + 0 + 0 ≤ 600000 by omega, show slots + 0 + 0 ≤ 7302250 by omega⟩ (fun r2 S1 H locs h V V2 hap => ?_)
  obtain ⟨e2, hV⟩ := h
  have Vr := V; have Vc := V2; have hap := hap.sym
  refine lv_icmp_eq (tgt := 813) X.1.1 X.1.2.1 dL_law_273 (by decide) (fun _ => ?_) (fun cq => absurd (e1.trans e2.symm) cq)
  refine W.widen (k := cells + 44) (n := slots + 2247) (by omega) (by omega) ?_
  exact kk _ H locs ⟨_, _, G, Vc, Vr, hap, hC, hV, ok_way hT _ _ _⟩
set_option maxHeartbeats 400000 in
set_option maxRecDepth 100000 in
theorem lc_feed (l : Launch) {p : Program} {e : Env} {s : State} {m : MethodId} {args : Array Value} {below : List Frame} {meth : Method} {c : Code} {H : Heap} {locs : List Loc} {cells slots : Nat} {Q : State → Prop} {D : va_G} {ka : Nat → ClassId} {Z : HS} {A : Nat → Prop} {ls : Array Slot} (X : Cx p s m meth c cL_law 4 RL D ka Z A) {b L g o i N : Nat} {R : Nat → Nat} {T : TS} {xs : Nat → Int32} (hX : va_X b L xs s s.heap) (hbl : b < s.heap.size) (hbA : ¬ A b) (hi : i + 5 ≤ L) (hL : L ≤ 2560) (I : Inv D ka Z s A g o R T N H locs) (hN : N < 2 ^ 31) (hl : lv_has ls 4 [(3, .int (nI i)), (2, .ref o), (1, .ref g), (0, .ref b)]) (hc : cells + 44 ≤ 600000) (hs : slots + 2247 ≤ 7302250) (kk : ∀ (T' : TS) (H1 : Heap) (locs1 : List Loc), Inv D ka Z s A g o R T' (N + 1) H1 locs1 → W p l e room_1 s m args below meth c H1 locs1 (cells + 44) (slots + 2247) Q (F0 m 813 ls [])) : W p l e room_1 s m args below meth c H locs cells slots Q (F0 m 278 ls []) := by
  obtain ⟨Sc, Sr, G, Vc, Vr, hap, hC, hV, hT⟩ := I
  refine lv_aload_n X.1.1 X.1.2.1 dL_law_278 rfl (lv_at hl 2 rfl) ?_
  refine l_arg X hX hbl hbA Vc.2.1 hl (k := 1) (kv := 1) (by omega) hL (by decide) (by decide) dL_law_279 dL_law_280 dL_law_281 dL_law_282 dL_law_283 ?_
  refine r_callV2 (k := 7) (n := 1) (As := [.int (xs (i + 1))]) X Vc Vr hap (sd_X6_feed l D ka _ Sc (fun r S' => r = (s_feed T (xs (i + 1))).1 ∧ RC S' g G (s_feed T (xs (i + 1))).2) g (xs (i + 1)) (c_feed hC hT (fun S' h' => ⟨rfl, h'⟩))) hC.k (by decide) (by decide) rfl wl_34 wl_35 wl_2 wl_36 wl_37 rfl rfl (by decide +kernel) ⟨Nat.le_of_ble_eq_true rfl, Nat.le_of_ble_eq_true rfl⟩ rfl hl.1 rfl (Nat.le_of_ble_eq_true rfl) dL_law_284 ⟨show cells + 0 ≤ 600000 by omega, show slots + 0 ≤ 7302250 by omega⟩ (fun r1 S1 H locs h V V2 hap => ?_)
  obtain ⟨e1, hC⟩ := h
  have Vc := V; have Vr := V2
  clear V V2
  refine lv_aload_n X.1.1 X.1.2.1 dL_law_287 rfl (lv_at hl 1 rfl) ?_
  refine l_arg X hX hbl hbA Vc.2.1 hl (k := 1) (kv := 1) (by omega) hL (by decide) (by decide) dL_law_288 dL_law_289 dL_law_290 dL_law_291 dL_law_292 ?_
  refine r_callV2 (k := 8) (n := 1) (As := [.int (xs (i + 1))]) X Vr Vc hap.sym (sd_X7_feed l D ka _ Sr (fun r S' => r = (s_feed T (xs (i + 1))).1 ∧ RV S' o R (s_feed T (xs (i + 1))).2) o (xs (i + 1)) (wr_X7_feed hV.1 (v_feed hV hT (post := fun r S' => r = (s_feed T (xs (i + 1))).1 ∧ RV S' o R (s_feed T (xs (i + 1))).2) (fun S' h' => ⟨rfl, h'⟩)) (fun _ _ _ q => q))) hV.1.1 (by decide) (by decide) rfl wl_38 wl_39 wl_7 wl_40 wl_41 rfl rfl (by decide +kernel) ⟨Nat.le_of_ble_eq_true rfl, Nat.le_of_ble_eq_true rfl⟩ rfl hl.1 rfl (Nat.le_of_ble_eq_true rfl) dL_law_293 ⟨show cells + 0 + 0 ≤ 600000 by omega, show slots + 0 + 0 ≤ 7302250 by omega⟩ (fun r2 S1 H locs h V V2 hap => ?_)
  obtain ⟨e2, hV⟩ := h
  have Vr := V; have Vc := V2; have hap := hap.sym
  refine lv_icmp_eq (tgt := 813) X.1.1 X.1.2.1 dL_law_296 (by decide) (fun _ => ?_) (fun cq => absurd (e1.trans e2.symm) cq)
  refine W.widen (k := cells + 44) (n := slots + 2247) (by omega) (by omega) ?_
  exact kk _ H locs ⟨_, _, G, Vc, Vr, hap, hC, hV, ok_feed hT _⟩
set_option maxHeartbeats 400000 in
set_option maxRecDepth 100000 in
theorem lc_send (l : Launch) {p : Program} {e : Env} {s : State} {m : MethodId} {args : Array Value} {below : List Frame} {meth : Method} {c : Code} {H : Heap} {locs : List Loc} {cells slots : Nat} {Q : State → Prop} {D : va_G} {ka : Nat → ClassId} {Z : HS} {A : Nat → Prop} {ls : Array Slot} (X : Cx p s m meth c cL_law 4 RL D ka Z A) {b L g o i N : Nat} {R : Nat → Nat} {T : TS} {xs : Nat → Int32} (hX : va_X b L xs s s.heap) (hbl : b < s.heap.size) (hbA : ¬ A b) (hi : i + 5 ≤ L) (hL : L ≤ 2560) (I : Inv D ka Z s A g o R T N H locs) (hN : N < 2 ^ 31) (hl : lv_has ls 4 [(3, .int (nI i)), (2, .ref o), (1, .ref g), (0, .ref b)]) (hc : cells + 44 ≤ 600000) (hs : slots + 2247 ≤ 7302250) (kk : ∀ (T' : TS) (H1 : Heap) (locs1 : List Loc), Inv D ka Z s A g o R T' (N + 1) H1 locs1 → W p l e room_1 s m args below meth c H1 locs1 (cells + 44) (slots + 2247) Q (F0 m 813 ls [])) : W p l e room_1 s m args below meth c H locs cells slots Q (F0 m 301 ls []) := by
  obtain ⟨Sc, Sr, G, Vc, Vr, hap, hC, hV, hT⟩ := I
  refine lv_aload_n X.1.1 X.1.2.1 dL_law_301 rfl (lv_at hl 2 rfl) ?_
  refine l_arg X hX hbl hbA Vc.2.1 hl (k := 1) (kv := 1) (by omega) hL (by decide) (by decide) dL_law_302 dL_law_303 dL_law_304 dL_law_305 dL_law_306 ?_
  refine l_arg X hX hbl hbA Vc.2.1 hl (k := 2) (kv := 2) (by omega) hL (by decide) (by decide) dL_law_307 dL_law_308 dL_law_309 dL_law_310 dL_law_311 ?_
  refine lv_i2l X.1.1 X.1.2.1 dL_law_312 rfl ?_
  refine lv_bipush (v := 32) X.1.1 X.1.2.1 dL_law_313 (by decide) ?_
  refine lv_lshl X.1.1 X.1.2.1 dL_law_315 rfl ?_
  refine l_arg X hX hbl hbA Vc.2.1 hl (k := 3) (kv := 3) (by omega) hL (by decide) (by decide) dL_law_316 dL_law_317 dL_law_318 dL_law_319 dL_law_320 ?_
  refine lv_i2l X.1.1 X.1.2.1 dL_law_321 rfl ?_
  refine lv_ldc2 X.1.1 X.1.2.1 X.1.2.2.2.1 (X.w wl_42 rfl _) dL_law_322 ?_
  refine lv_land X.1.1 X.1.2.1 dL_law_325 ?_
  refine lv_lor X.1.1 X.1.2.1 dL_law_326 ?_
  refine l_arg X hX hbl hbA Vc.2.1 hl (k := 4) (kv := 4) (by omega) hL (by decide) (by decide) dL_law_327 dL_law_328 dL_law_329 dL_law_330 dL_law_331 ?_
  refine r_callV2 (k := 7) (n := 3) (As := [.int (xs (i + 1)), .long ((((xs (i + 2)).toInt64) <<< ((32 : Int32).toInt64 &&& 63)) ||| (((xs (i + 3)).toInt64) &&& (4294967295 : Int64))), .int (xs (i + 4))]) X Vc Vr hap (sd_X6_send l D ka _ Sc (fun r S' => r = (s_send T (xs (i + 1)) ((((xs (i + 2)).toInt64) <<< ((32 : Int32).toInt64 &&& 63)) ||| (((xs (i + 3)).toInt64) &&& (4294967295 : Int64))) (xs (i + 4))).1 ∧ RC S' g G (s_send T (xs (i + 1)) ((((xs (i + 2)).toInt64) <<< ((32 : Int32).toInt64 &&& 63)) ||| (((xs (i + 3)).toInt64) &&& (4294967295 : Int64))) (xs (i + 4))).2) g (xs (i + 1)) ((((xs (i + 2)).toInt64) <<< ((32 : Int32).toInt64 &&& 63)) ||| (((xs (i + 3)).toInt64) &&& (4294967295 : Int64))) (xs (i + 4)) (c_send hC hT (fun S' h' => ⟨rfl, h'⟩))) hC.k (by decide) (by decide) rfl wl_43 wl_44 wl_2 wl_45 wl_46 rfl rfl (by decide +kernel) ⟨Nat.le_of_ble_eq_true rfl, Nat.le_of_ble_eq_true rfl⟩ rfl hl.1 rfl (Nat.le_of_ble_eq_true rfl) dL_law_332 ⟨show cells + 44 ≤ 600000 by omega, show slots + 2247 ≤ 7302250 by omega⟩ (fun r1 S1 H locs h V V2 hap => ?_)
  obtain ⟨e1, hC⟩ := h
  have Vc := V; have Vr := V2
  clear V V2
  refine lv_aload_n X.1.1 X.1.2.1 dL_law_335 rfl (lv_at hl 1 rfl) ?_
  refine l_arg X hX hbl hbA Vc.2.1 hl (k := 1) (kv := 1) (by omega) hL (by decide) (by decide) dL_law_336 dL_law_337 dL_law_338 dL_law_339 dL_law_340 ?_
  refine l_arg X hX hbl hbA Vc.2.1 hl (k := 2) (kv := 2) (by omega) hL (by decide) (by decide) dL_law_341 dL_law_342 dL_law_343 dL_law_344 dL_law_345 ?_
  refine lv_i2l X.1.1 X.1.2.1 dL_law_346 rfl ?_
  refine lv_bipush (v := 32) X.1.1 X.1.2.1 dL_law_347 (by decide) ?_
  refine lv_lshl X.1.1 X.1.2.1 dL_law_349 rfl ?_
  refine l_arg X hX hbl hbA Vc.2.1 hl (k := 3) (kv := 3) (by omega) hL (by decide) (by decide) dL_law_350 dL_law_351 dL_law_352 dL_law_353 dL_law_354 ?_
  refine lv_i2l X.1.1 X.1.2.1 dL_law_355 rfl ?_
  refine lv_ldc2 X.1.1 X.1.2.1 X.1.2.2.2.1 (X.w wl_42 rfl _) dL_law_356 ?_
  refine lv_land X.1.1 X.1.2.1 dL_law_359 ?_
  refine lv_lor X.1.1 X.1.2.1 dL_law_360 ?_
  refine l_arg X hX hbl hbA Vc.2.1 hl (k := 4) (kv := 4) (by omega) hL (by decide) (by decide) dL_law_361 dL_law_362 dL_law_363 dL_law_364 dL_law_365 ?_
  refine r_callV2 (k := 8) (n := 3) (As := [.int (xs (i + 1)), .long ((((xs (i + 2)).toInt64) <<< ((32 : Int32).toInt64 &&& 63)) ||| (((xs (i + 3)).toInt64) &&& (4294967295 : Int64))), .int (xs (i + 4))]) X Vr Vc hap.sym (sd_X7_send l D ka _ Sr (fun r S' => r = (s_send T (xs (i + 1)) ((((xs (i + 2)).toInt64) <<< ((32 : Int32).toInt64 &&& 63)) ||| (((xs (i + 3)).toInt64) &&& (4294967295 : Int64))) (xs (i + 4))).1 ∧ RV S' o R (s_send T (xs (i + 1)) ((((xs (i + 2)).toInt64) <<< ((32 : Int32).toInt64 &&& 63)) ||| (((xs (i + 3)).toInt64) &&& (4294967295 : Int64))) (xs (i + 4))).2) o (xs (i + 1)) ((((xs (i + 2)).toInt64) <<< ((32 : Int32).toInt64 &&& 63)) ||| (((xs (i + 3)).toInt64) &&& (4294967295 : Int64))) (xs (i + 4)) (wr_X7_send hV.1 (v_send hV hT (post := fun r S' => r = (s_send T (xs (i + 1)) ((((xs (i + 2)).toInt64) <<< ((32 : Int32).toInt64 &&& 63)) ||| (((xs (i + 3)).toInt64) &&& (4294967295 : Int64))) (xs (i + 4))).1 ∧ RV S' o R (s_send T (xs (i + 1)) ((((xs (i + 2)).toInt64) <<< ((32 : Int32).toInt64 &&& 63)) ||| (((xs (i + 3)).toInt64) &&& (4294967295 : Int64))) (xs (i + 4))).2) (fun S' h' => ⟨rfl, h'⟩)) (fun _ _ _ q => q))) hV.1.1 (by decide) (by decide) rfl wl_47 wl_48 wl_7 wl_49 wl_50 rfl rfl (by decide +kernel) ⟨Nat.le_of_ble_eq_true rfl, Nat.le_of_ble_eq_true rfl⟩ rfl hl.1 rfl (Nat.le_of_ble_eq_true rfl) dL_law_366 ⟨show cells + 44 + 0 ≤ 600000 by omega, show slots + 2247 + 0 ≤ 7302250 by omega⟩ (fun r2 S1 H locs h V V2 hap => ?_)
  obtain ⟨e2, hV⟩ := h
  have Vr := V; have Vc := V2; have hap := hap.sym
  refine lv_icmp_eq (tgt := 813) X.1.1 X.1.2.1 dL_law_369 (by decide) (fun _ => ?_) (fun cq => absurd (e1.trans e2.symm) cq)
  refine W.widen (k := cells + 44) (n := slots + 2247) (by omega) (by omega) ?_
  exact kk _ H locs ⟨_, _, G, Vc, Vr, hap, hC, hV, ok_send hT _ _ _⟩
set_option maxHeartbeats 400000 in
set_option maxRecDepth 100000 in
theorem lc_deliver (l : Launch) {p : Program} {e : Env} {s : State} {m : MethodId} {args : Array Value} {below : List Frame} {meth : Method} {c : Code} {H : Heap} {locs : List Loc} {cells slots : Nat} {Q : State → Prop} {D : va_G} {ka : Nat → ClassId} {Z : HS} {A : Nat → Prop} {ls : Array Slot} (X : Cx p s m meth c cL_law 4 RL D ka Z A) {b L g o i N : Nat} {R : Nat → Nat} {T : TS} {xs : Nat → Int32} (hX : va_X b L xs s s.heap) (hbl : b < s.heap.size) (hbA : ¬ A b) (hi : i + 5 ≤ L) (hL : L ≤ 2560) (I : Inv D ka Z s A g o R T N H locs) (hN : N < 2 ^ 31) (hl : lv_has ls 4 [(3, .int (nI i)), (2, .ref o), (1, .ref g), (0, .ref b)]) (hc : cells + 44 ≤ 600000) (hs : slots + 2247 ≤ 7302250) (kk : ∀ (T' : TS) (H1 : Heap) (locs1 : List Loc), Inv D ka Z s A g o R T' (N + 1) H1 locs1 → W p l e room_1 s m args below meth c H1 locs1 (cells + 44) (slots + 2247) Q (F0 m 813 ls [])) : W p l e room_1 s m args below meth c H locs cells slots Q (F0 m 374 ls []) := by
  obtain ⟨Sc, Sr, G, Vc, Vr, hap, hC, hV, hT⟩ := I
  refine lv_aload_n X.1.1 X.1.2.1 dL_law_374 rfl (lv_at hl 2 rfl) ?_
  refine l_arg X hX hbl hbA Vc.2.1 hl (k := 1) (kv := 1) (by omega) hL (by decide) (by decide) dL_law_375 dL_law_376 dL_law_377 dL_law_378 dL_law_379 ?_
  refine r_callV2 (k := 7) (n := 1) (As := [.int (xs (i + 1))]) X Vc Vr hap (sd_X6_deliver l D ka _ Sc (fun r S' => r = (s_deliver T (xs (i + 1))).1 ∧ RC S' g G (s_deliver T (xs (i + 1))).2) g (xs (i + 1)) (c_deliver hC hT (fun S' h' => ⟨rfl, h'⟩))) hC.k (by decide) (by decide) rfl wl_51 wl_52 wl_2 wl_53 wl_54 rfl rfl (by decide +kernel) ⟨Nat.le_of_ble_eq_true rfl, Nat.le_of_ble_eq_true rfl⟩ rfl hl.1 rfl (Nat.le_of_ble_eq_true rfl) dL_law_380 ⟨show cells + 4 ≤ 600000 by omega, show slots + 207 ≤ 7302250 by omega⟩ (fun r1 S1 H locs h V V2 hap => ?_)
  obtain ⟨e1, hC⟩ := h
  have Vc := V; have Vr := V2
  clear V V2
  refine lv_aload_n X.1.1 X.1.2.1 dL_law_383 rfl (lv_at hl 1 rfl) ?_
  refine l_arg X hX hbl hbA Vc.2.1 hl (k := 1) (kv := 1) (by omega) hL (by decide) (by decide) dL_law_384 dL_law_385 dL_law_386 dL_law_387 dL_law_388 ?_
  refine r_callV2 (k := 8) (n := 1) (As := [.int (xs (i + 1))]) X Vr Vc hap.sym (sd_X7_deliver l D ka _ Sr (fun r S' => r = (s_deliver T (xs (i + 1))).1 ∧ RV S' o R (s_deliver T (xs (i + 1))).2) o (xs (i + 1)) (wr_X7_deliver hV.1 (v_deliver hV hT (post := fun r S' => r = (s_deliver T (xs (i + 1))).1 ∧ RV S' o R (s_deliver T (xs (i + 1))).2) (fun S' h' => ⟨rfl, h'⟩)) (fun _ _ _ q => q))) hV.1.1 (by decide) (by decide) rfl wl_55 wl_56 wl_7 wl_57 wl_58 rfl rfl (by decide +kernel) ⟨Nat.le_of_ble_eq_true rfl, Nat.le_of_ble_eq_true rfl⟩ rfl hl.1 rfl (Nat.le_of_ble_eq_true rfl) dL_law_389 ⟨show cells + 4 + 0 ≤ 600000 by omega, show slots + 207 + 0 ≤ 7302250 by omega⟩ (fun r2 S1 H locs h V V2 hap => ?_)
  obtain ⟨e2, hV⟩ := h
  have Vr := V; have Vc := V2; have hap := hap.sym
  refine lv_icmp_eq (tgt := 813) X.1.1 X.1.2.1 dL_law_392 (by decide) (fun _ => ?_) (fun cq => absurd (e1.trans e2.symm) cq)
  refine W.widen (k := cells + 44) (n := slots + 2247) (by omega) (by omega) ?_
  exact kk _ H locs ⟨_, _, G, Vc, Vr, hap, hC, hV, ok_deliver hT _⟩
set_option maxHeartbeats 400000 in
set_option maxRecDepth 100000 in
theorem lc_twice (l : Launch) {p : Program} {e : Env} {s : State} {m : MethodId} {args : Array Value} {below : List Frame} {meth : Method} {c : Code} {H : Heap} {locs : List Loc} {cells slots : Nat} {Q : State → Prop} {D : va_G} {ka : Nat → ClassId} {Z : HS} {A : Nat → Prop} {ls : Array Slot} (X : Cx p s m meth c cL_law 4 RL D ka Z A) {b L g o i N : Nat} {R : Nat → Nat} {T : TS} {xs : Nat → Int32} (hX : va_X b L xs s s.heap) (hbl : b < s.heap.size) (hbA : ¬ A b) (hi : i + 5 ≤ L) (hL : L ≤ 2560) (I : Inv D ka Z s A g o R T N H locs) (hN : N < 2 ^ 31) (hl : lv_has ls 4 [(3, .int (nI i)), (2, .ref o), (1, .ref g), (0, .ref b)]) (hc : cells + 44 ≤ 600000) (hs : slots + 2247 ≤ 7302250) (kk : ∀ (T' : TS) (H1 : Heap) (locs1 : List Loc), Inv D ka Z s A g o R T' (N + 1) H1 locs1 → W p l e room_1 s m args below meth c H1 locs1 (cells + 44) (slots + 2247) Q (F0 m 813 ls [])) : W p l e room_1 s m args below meth c H locs cells slots Q (F0 m 397 ls []) := by
  obtain ⟨Sc, Sr, G, Vc, Vr, hap, hC, hV, hT⟩ := I
  refine lv_aload_n X.1.1 X.1.2.1 dL_law_397 rfl (lv_at hl 2 rfl) ?_
  refine l_arg X hX hbl hbA Vc.2.1 hl (k := 1) (kv := 1) (by omega) hL (by decide) (by decide) dL_law_398 dL_law_399 dL_law_400 dL_law_401 dL_law_402 ?_
  refine r_callV2 (k := 7) (n := 1) (As := [.int (xs (i + 1))]) X Vc Vr hap (sd_X6_twice l D ka _ Sc (fun r S' => r = (s_twice T (xs (i + 1))).1 ∧ RC S' g G (s_twice T (xs (i + 1))).2) g (xs (i + 1)) (c_twice hC hT (fun S' h' => ⟨rfl, h'⟩))) hC.k (by decide) (by decide) rfl wl_59 wl_60 wl_2 wl_61 wl_62 rfl rfl (by decide +kernel) ⟨Nat.le_of_ble_eq_true rfl, Nat.le_of_ble_eq_true rfl⟩ rfl hl.1 rfl (Nat.le_of_ble_eq_true rfl) dL_law_403 ⟨show cells + 4 ≤ 600000 by omega, show slots + 207 ≤ 7302250 by omega⟩ (fun r1 S1 H locs h V V2 hap => ?_)
  obtain ⟨e1, hC⟩ := h
  have Vc := V; have Vr := V2
  clear V V2
  refine lv_aload_n X.1.1 X.1.2.1 dL_law_406 rfl (lv_at hl 1 rfl) ?_
  refine l_arg X hX hbl hbA Vc.2.1 hl (k := 1) (kv := 1) (by omega) hL (by decide) (by decide) dL_law_407 dL_law_408 dL_law_409 dL_law_410 dL_law_411 ?_
  refine r_callV2 (k := 8) (n := 1) (As := [.int (xs (i + 1))]) X Vr Vc hap.sym (sd_X7_twice l D ka _ Sr (fun r S' => r = (s_twice T (xs (i + 1))).1 ∧ RV S' o R (s_twice T (xs (i + 1))).2) o (xs (i + 1)) (wr_X7_twice hV.1 (v_twice hV hT (post := fun r S' => r = (s_twice T (xs (i + 1))).1 ∧ RV S' o R (s_twice T (xs (i + 1))).2) (fun S' h' => ⟨rfl, h'⟩)) (fun _ _ _ q => q))) hV.1.1 (by decide) (by decide) rfl wl_63 wl_64 wl_7 wl_65 wl_66 rfl rfl (by decide +kernel) ⟨Nat.le_of_ble_eq_true rfl, Nat.le_of_ble_eq_true rfl⟩ rfl hl.1 rfl (Nat.le_of_ble_eq_true rfl) dL_law_412 ⟨show cells + 4 + 0 ≤ 600000 by omega, show slots + 207 + 0 ≤ 7302250 by omega⟩ (fun r2 S1 H locs h V V2 hap => ?_)
  obtain ⟨e2, hV⟩ := h
  have Vr := V; have Vc := V2; have hap := hap.sym
  refine lv_icmp_eq (tgt := 813) X.1.1 X.1.2.1 dL_law_415 (by decide) (fun _ => ?_) (fun cq => absurd (e1.trans e2.symm) cq)
  refine W.widen (k := cells + 44) (n := slots + 2247) (by omega) (by omega) ?_
  exact kk _ H locs ⟨_, _, G, Vc, Vr, hap, hC, hV, ok_twice hT _⟩
set_option maxHeartbeats 400000 in
set_option maxRecDepth 100000 in
theorem lc_lose (l : Launch) {p : Program} {e : Env} {s : State} {m : MethodId} {args : Array Value} {below : List Frame} {meth : Method} {c : Code} {H : Heap} {locs : List Loc} {cells slots : Nat} {Q : State → Prop} {D : va_G} {ka : Nat → ClassId} {Z : HS} {A : Nat → Prop} {ls : Array Slot} (X : Cx p s m meth c cL_law 4 RL D ka Z A) {b L g o i N : Nat} {R : Nat → Nat} {T : TS} {xs : Nat → Int32} (hX : va_X b L xs s s.heap) (hbl : b < s.heap.size) (hbA : ¬ A b) (hi : i + 5 ≤ L) (hL : L ≤ 2560) (I : Inv D ka Z s A g o R T N H locs) (hN : N < 2 ^ 31) (hl : lv_has ls 4 [(3, .int (nI i)), (2, .ref o), (1, .ref g), (0, .ref b)]) (hc : cells + 44 ≤ 600000) (hs : slots + 2247 ≤ 7302250) (kk : ∀ (T' : TS) (H1 : Heap) (locs1 : List Loc), Inv D ka Z s A g o R T' (N + 1) H1 locs1 → W p l e room_1 s m args below meth c H1 locs1 (cells + 44) (slots + 2247) Q (F0 m 813 ls [])) : W p l e room_1 s m args below meth c H locs cells slots Q (F0 m 420 ls []) := by
  obtain ⟨Sc, Sr, G, Vc, Vr, hap, hC, hV, hT⟩ := I
  refine lv_aload_n X.1.1 X.1.2.1 dL_law_420 rfl (lv_at hl 2 rfl) ?_
  refine l_arg X hX hbl hbA Vc.2.1 hl (k := 1) (kv := 1) (by omega) hL (by decide) (by decide) dL_law_421 dL_law_422 dL_law_423 dL_law_424 dL_law_425 ?_
  refine r_callV2 (k := 7) (n := 1) (As := [.int (xs (i + 1))]) X Vc Vr hap (sd_X6_lose l D ka _ Sc (fun r S' => r = (s_lose T (xs (i + 1))).1 ∧ RC S' g G (s_lose T (xs (i + 1))).2) g (xs (i + 1)) (c_lose hC hT (fun S' h' => ⟨rfl, h'⟩))) hC.k (by decide) (by decide) rfl wl_67 wl_68 wl_2 wl_69 wl_70 rfl rfl (by decide +kernel) ⟨Nat.le_of_ble_eq_true rfl, Nat.le_of_ble_eq_true rfl⟩ rfl hl.1 rfl (Nat.le_of_ble_eq_true rfl) dL_law_426 ⟨show cells + 0 ≤ 600000 by omega, show slots + 0 ≤ 7302250 by omega⟩ (fun r1 S1 H locs h V V2 hap => ?_)
  obtain ⟨e1, hC⟩ := h
  have Vc := V; have Vr := V2
  clear V V2
  refine lv_aload_n X.1.1 X.1.2.1 dL_law_429 rfl (lv_at hl 1 rfl) ?_
  refine l_arg X hX hbl hbA Vc.2.1 hl (k := 1) (kv := 1) (by omega) hL (by decide) (by decide) dL_law_430 dL_law_431 dL_law_432 dL_law_433 dL_law_434 ?_
  refine r_callV2 (k := 8) (n := 1) (As := [.int (xs (i + 1))]) X Vr Vc hap.sym (sd_X7_lose l D ka _ Sr (fun r S' => r = (s_lose T (xs (i + 1))).1 ∧ RV S' o R (s_lose T (xs (i + 1))).2) o (xs (i + 1)) (wr_X7_lose hV.1 (v_lose hV hT (post := fun r S' => r = (s_lose T (xs (i + 1))).1 ∧ RV S' o R (s_lose T (xs (i + 1))).2) (fun S' h' => ⟨rfl, h'⟩)) (fun _ _ _ q => q))) hV.1.1 (by decide) (by decide) rfl wl_71 wl_72 wl_7 wl_73 wl_74 rfl rfl (by decide +kernel) ⟨Nat.le_of_ble_eq_true rfl, Nat.le_of_ble_eq_true rfl⟩ rfl hl.1 rfl (Nat.le_of_ble_eq_true rfl) dL_law_435 ⟨show cells + 0 + 0 ≤ 600000 by omega, show slots + 0 + 0 ≤ 7302250 by omega⟩ (fun r2 S1 H locs h V V2 hap => ?_)
  obtain ⟨e2, hV⟩ := h
  have Vr := V; have Vc := V2; have hap := hap.sym
  refine lv_icmp_eq (tgt := 813) X.1.1 X.1.2.1 dL_law_438 (by decide) (fun _ => ?_) (fun cq => absurd (e1.trans e2.symm) cq)
  refine W.widen (k := cells + 44) (n := slots + 2247) (by omega) (by omega) ?_
  exact kk _ H locs ⟨_, _, G, Vc, Vr, hap, hC, hV, ok_lose hT _⟩
set_option maxHeartbeats 400000 in
set_option maxRecDepth 100000 in
theorem lc_inject (l : Launch) {p : Program} {e : Env} {s : State} {m : MethodId} {args : Array Value} {below : List Frame} {meth : Method} {c : Code} {H : Heap} {locs : List Loc} {cells slots : Nat} {Q : State → Prop} {D : va_G} {ka : Nat → ClassId} {Z : HS} {A : Nat → Prop} {ls : Array Slot} (X : Cx p s m meth c cL_law 4 RL D ka Z A) {b L g o i N : Nat} {R : Nat → Nat} {T : TS} {xs : Nat → Int32} (hX : va_X b L xs s s.heap) (hbl : b < s.heap.size) (hbA : ¬ A b) (hi : i + 5 ≤ L) (hL : L ≤ 2560) (I : Inv D ka Z s A g o R T N H locs) (hN : N < 2 ^ 31) (hl : lv_has ls 4 [(3, .int (nI i)), (2, .ref o), (1, .ref g), (0, .ref b)]) (hc : cells + 44 ≤ 600000) (hs : slots + 2247 ≤ 7302250) (kk : ∀ (T' : TS) (H1 : Heap) (locs1 : List Loc), Inv D ka Z s A g o R T' (N + 1) H1 locs1 → W p l e room_1 s m args below meth c H1 locs1 (cells + 44) (slots + 2247) Q (F0 m 813 ls [])) : W p l e room_1 s m args below meth c H locs cells slots Q (F0 m 443 ls []) := by
  obtain ⟨Sc, Sr, G, Vc, Vr, hap, hC, hV, hT⟩ := I
  refine lv_aload_n X.1.1 X.1.2.1 dL_law_443 rfl (lv_at hl 2 rfl) ?_
  refine l_arg X hX hbl hbA Vc.2.1 hl (k := 1) (kv := 1) (by omega) hL (by decide) (by decide) dL_law_444 dL_law_445 dL_law_446 dL_law_447 dL_law_448 ?_
  refine r_callV2 (k := 7) (n := 1) (As := [.int (xs (i + 1))]) X Vc Vr hap (sd_X6_inject l D ka _ Sc (fun r S' => r = (s_inject T (xs (i + 1))).1 ∧ RC S' g G (s_inject T (xs (i + 1))).2) g (xs (i + 1)) (c_inject hC hT (fun S' h' => ⟨rfl, h'⟩))) hC.k (by decide) (by decide) rfl wl_75 wl_76 wl_2 wl_77 wl_78 rfl rfl (by decide +kernel) ⟨Nat.le_of_ble_eq_true rfl, Nat.le_of_ble_eq_true rfl⟩ rfl hl.1 rfl (Nat.le_of_ble_eq_true rfl) dL_law_449 ⟨show cells + 4 ≤ 600000 by omega, show slots + 207 ≤ 7302250 by omega⟩ (fun r1 S1 H locs h V V2 hap => ?_)
  obtain ⟨e1, hC⟩ := h
  have Vc := V; have Vr := V2
  clear V V2
  refine lv_aload_n X.1.1 X.1.2.1 dL_law_452 rfl (lv_at hl 1 rfl) ?_
  refine l_arg X hX hbl hbA Vc.2.1 hl (k := 1) (kv := 1) (by omega) hL (by decide) (by decide) dL_law_453 dL_law_454 dL_law_455 dL_law_456 dL_law_457 ?_
  refine r_callV2 (k := 8) (n := 1) (As := [.int (xs (i + 1))]) X Vr Vc hap.sym (sd_X7_inject l D ka _ Sr (fun r S' => r = (s_inject T (xs (i + 1))).1 ∧ RV S' o R (s_inject T (xs (i + 1))).2) o (xs (i + 1)) (wr_X7_inject hV.1 (v_inject hV hT (post := fun r S' => r = (s_inject T (xs (i + 1))).1 ∧ RV S' o R (s_inject T (xs (i + 1))).2) (fun S' h' => ⟨rfl, h'⟩)) (fun _ _ _ q => q))) hV.1.1 (by decide) (by decide) rfl wl_79 wl_80 wl_7 wl_81 wl_82 rfl rfl (by decide +kernel) ⟨Nat.le_of_ble_eq_true rfl, Nat.le_of_ble_eq_true rfl⟩ rfl hl.1 rfl (Nat.le_of_ble_eq_true rfl) dL_law_458 ⟨show cells + 4 + 0 ≤ 600000 by omega, show slots + 207 + 0 ≤ 7302250 by omega⟩ (fun r2 S1 H locs h V V2 hap => ?_)
  obtain ⟨e2, hV⟩ := h
  have Vr := V; have Vc := V2; have hap := hap.sym
  refine lv_icmp_eq (tgt := 813) X.1.1 X.1.2.1 dL_law_461 (by decide) (fun _ => ?_) (fun cq => absurd (e1.trans e2.symm) cq)
  refine W.widen (k := cells + 44) (n := slots + 2247) (by omega) (by omega) ?_
  exact kk _ H locs ⟨_, _, G, Vc, Vr, hap, hC, hV, ok_inject hT _⟩
set_option maxHeartbeats 400000 in
set_option maxRecDepth 100000 in
theorem lc_poke (l : Launch) {p : Program} {e : Env} {s : State} {m : MethodId} {args : Array Value} {below : List Frame} {meth : Method} {c : Code} {H : Heap} {locs : List Loc} {cells slots : Nat} {Q : State → Prop} {D : va_G} {ka : Nat → ClassId} {Z : HS} {A : Nat → Prop} {ls : Array Slot} (X : Cx p s m meth c cL_law 4 RL D ka Z A) {b L g o i N : Nat} {R : Nat → Nat} {T : TS} {xs : Nat → Int32} (hX : va_X b L xs s s.heap) (hbl : b < s.heap.size) (hbA : ¬ A b) (hi : i + 5 ≤ L) (hL : L ≤ 2560) (I : Inv D ka Z s A g o R T N H locs) (hN : N < 2 ^ 31) (hl : lv_has ls 4 [(3, .int (nI i)), (2, .ref o), (1, .ref g), (0, .ref b)]) (hc : cells + 44 ≤ 600000) (hs : slots + 2247 ≤ 7302250) (kk : ∀ (T' : TS) (H1 : Heap) (locs1 : List Loc), Inv D ka Z s A g o R T' (N + 1) H1 locs1 → W p l e room_1 s m args below meth c H1 locs1 (cells + 44) (slots + 2247) Q (F0 m 813 ls [])) : W p l e room_1 s m args below meth c H locs cells slots Q (F0 m 466 ls []) := by
  obtain ⟨Sc, Sr, G, Vc, Vr, hap, hC, hV, hT⟩ := I
  refine lv_aload_n X.1.1 X.1.2.1 dL_law_466 rfl (lv_at hl 2 rfl) ?_
  refine l_arg X hX hbl hbA Vc.2.1 hl (k := 1) (kv := 1) (by omega) hL (by decide) (by decide) dL_law_467 dL_law_468 dL_law_469 dL_law_470 dL_law_471 ?_
  refine l_arg X hX hbl hbA Vc.2.1 hl (k := 2) (kv := 2) (by omega) hL (by decide) (by decide) dL_law_472 dL_law_473 dL_law_474 dL_law_475 dL_law_476 ?_
  refine l_arg X hX hbl hbA Vc.2.1 hl (k := 3) (kv := 3) (by omega) hL (by decide) (by decide) dL_law_477 dL_law_478 dL_law_479 dL_law_480 dL_law_481 ?_
  refine r_callV2 (k := 7) (n := 3) (As := [.int (xs (i + 1)), .int (xs (i + 2)), .int (xs (i + 3))]) X Vc Vr hap (sd_X6_poke l D ka _ Sc (fun r S' => r = (s_poke T (xs (i + 1)) (xs (i + 2)) (xs (i + 3))).1 ∧ RC S' g G (s_poke T (xs (i + 1)) (xs (i + 2)) (xs (i + 3))).2) g (xs (i + 1)) (xs (i + 2)) (xs (i + 3)) (c_poke hC hT (fun S' h' => ⟨rfl, h'⟩))) hC.k (by decide) (by decide) rfl wl_83 wl_84 wl_2 wl_85 wl_86 rfl rfl (by decide +kernel) ⟨Nat.le_of_ble_eq_true rfl, Nat.le_of_ble_eq_true rfl⟩ rfl hl.1 rfl (Nat.le_of_ble_eq_true rfl) dL_law_482 ⟨show cells + 0 ≤ 600000 by omega, show slots + 0 ≤ 7302250 by omega⟩ (fun r1 S1 H locs h V V2 hap => ?_)
  obtain ⟨e1, hC⟩ := h
  have Vc := V; have Vr := V2
  clear V V2
  refine lv_aload_n X.1.1 X.1.2.1 dL_law_485 rfl (lv_at hl 1 rfl) ?_
  refine l_arg X hX hbl hbA Vc.2.1 hl (k := 1) (kv := 1) (by omega) hL (by decide) (by decide) dL_law_486 dL_law_487 dL_law_488 dL_law_489 dL_law_490 ?_
  refine l_arg X hX hbl hbA Vc.2.1 hl (k := 2) (kv := 2) (by omega) hL (by decide) (by decide) dL_law_491 dL_law_492 dL_law_493 dL_law_494 dL_law_495 ?_
  refine l_arg X hX hbl hbA Vc.2.1 hl (k := 3) (kv := 3) (by omega) hL (by decide) (by decide) dL_law_496 dL_law_497 dL_law_498 dL_law_499 dL_law_500 ?_
  refine r_callV2 (k := 8) (n := 3) (As := [.int (xs (i + 1)), .int (xs (i + 2)), .int (xs (i + 3))]) X Vr Vc hap.sym (sd_X7_poke l D ka _ Sr (fun r S' => r = (s_poke T (xs (i + 1)) (xs (i + 2)) (xs (i + 3))).1 ∧ RV S' o R (s_poke T (xs (i + 1)) (xs (i + 2)) (xs (i + 3))).2) o (xs (i + 1)) (xs (i + 2)) (xs (i + 3)) (wr_X7_poke hV.1 (v_poke hV hT (post := fun r S' => r = (s_poke T (xs (i + 1)) (xs (i + 2)) (xs (i + 3))).1 ∧ RV S' o R (s_poke T (xs (i + 1)) (xs (i + 2)) (xs (i + 3))).2) (fun S' h' => ⟨rfl, h'⟩)) (fun _ _ _ q => q))) hV.1.1 (by decide) (by decide) rfl wl_87 wl_88 wl_7 wl_89 wl_90 rfl rfl (by decide +kernel) ⟨Nat.le_of_ble_eq_true rfl, Nat.le_of_ble_eq_true rfl⟩ rfl hl.1 rfl (Nat.le_of_ble_eq_true rfl) dL_law_501 ⟨show cells + 0 + 0 ≤ 600000 by omega, show slots + 0 + 0 ≤ 7302250 by omega⟩ (fun r2 S1 H locs h V V2 hap => ?_)
  obtain ⟨e2, hV⟩ := h
  have Vr := V; have Vc := V2; have hap := hap.sym
  refine lv_icmp_eq (tgt := 813) X.1.1 X.1.2.1 dL_law_504 (by decide) (fun _ => ?_) (fun cq => absurd (e1.trans e2.symm) cq)
  refine W.widen (k := cells + 44) (n := slots + 2247) (by omega) (by omega) ?_
  exact kk _ H locs ⟨_, _, G, Vc, Vr, hap, hC, hV, ok_poke hT _ _ _⟩
set_option maxHeartbeats 400000 in
set_option maxRecDepth 100000 in
theorem lc_flying (l : Launch) {p : Program} {e : Env} {s : State} {m : MethodId} {args : Array Value} {below : List Frame} {meth : Method} {c : Code} {H : Heap} {locs : List Loc} {cells slots : Nat} {Q : State → Prop} {D : va_G} {ka : Nat → ClassId} {Z : HS} {A : Nat → Prop} {ls : Array Slot} (X : Cx p s m meth c cL_law 4 RL D ka Z A) {b L g o i N : Nat} {R : Nat → Nat} {T : TS} {xs : Nat → Int32} (hX : va_X b L xs s s.heap) (hbl : b < s.heap.size) (hbA : ¬ A b) (hi : i + 5 ≤ L) (hL : L ≤ 2560) (I : Inv D ka Z s A g o R T N H locs) (hN : N < 2 ^ 31) (hl : lv_has ls 4 [(3, .int (nI i)), (2, .ref o), (1, .ref g), (0, .ref b)]) (hc : cells + 44 ≤ 600000) (hs : slots + 2247 ≤ 7302250) (kk : ∀ (T' : TS) (H1 : Heap) (locs1 : List Loc), Inv D ka Z s A g o R T' (N + 1) H1 locs1 → W p l e room_1 s m args below meth c H1 locs1 (cells + 44) (slots + 2247) Q (F0 m 813 ls [])) : W p l e room_1 s m args below meth c H locs cells slots Q (F0 m 509 ls []) := by
  obtain ⟨Sc, Sr, G, Vc, Vr, hap, hC, hV, hT⟩ := I
  refine lv_aload_n X.1.1 X.1.2.1 dL_law_509 rfl (lv_at hl 2 rfl) ?_
  refine r_callV2 (k := 7) (n := 0) (As := []) X Vc Vr hap (sd_X6_flying l D ka _ Sc (fun r S' => r = (s_flying T).1 ∧ RC S' g G (s_flying T).2) g  (c_flying hC (fun S' h' => ⟨rfl, h'⟩))) hC.k (by decide) (by decide) rfl wl_91 wl_92 wl_2 wl_93 wl_94 rfl rfl (by decide +kernel) ⟨Nat.le_of_ble_eq_true rfl, Nat.le_of_ble_eq_true rfl⟩ rfl hl.1 rfl (Nat.le_of_ble_eq_true rfl) dL_law_510 ⟨show cells + 0 ≤ 600000 by omega, show slots + 0 ≤ 7302250 by omega⟩ (fun r1 S1 H locs h V V2 hap => ?_)
  obtain ⟨e1, hC⟩ := h
  have Vc := V; have Vr := V2
  clear V V2
  refine lv_aload_n X.1.1 X.1.2.1 dL_law_513 rfl (lv_at hl 1 rfl) ?_
  refine r_callV2 (k := 8) (n := 0) (As := []) X Vr Vc hap.sym (sd_X7_flying l D ka _ Sr (fun r S' => r = (s_flying T).1 ∧ RV S' o R (s_flying T).2) o  (wr_X7_flying hV.1 (v_flying hV (post := fun r S' => r = (s_flying T).1 ∧ RV S' o R (s_flying T).2) (fun S' h' => ⟨rfl, h'⟩)) (fun _ _ _ q => q))) hV.1.1 (by decide) (by decide) rfl wl_95 wl_96 wl_7 wl_97 wl_98 rfl rfl (by decide +kernel) ⟨Nat.le_of_ble_eq_true rfl, Nat.le_of_ble_eq_true rfl⟩ rfl hl.1 rfl (Nat.le_of_ble_eq_true rfl) dL_law_514 ⟨show cells + 0 + 0 ≤ 600000 by omega, show slots + 0 + 0 ≤ 7302250 by omega⟩ (fun r2 S1 H locs h V V2 hap => ?_)
  obtain ⟨e2, hV⟩ := h
  have Vr := V; have Vc := V2; have hap := hap.sym
  refine lv_icmp_eq (tgt := 813) X.1.1 X.1.2.1 dL_law_517 (by decide) (fun _ => ?_) (fun cq => absurd (e1.trans e2.symm) cq)
  refine W.widen (k := cells + 44) (n := slots + 2247) (by omega) (by omega) ?_
  have eT : (s_flying T).2 = T := (s_same T 0 0 0).1
  rw [eT] at hC hV
  exact kk T H locs ⟨_, _, G, Vc, Vr, hap, hC, hV, hT.up (Nat.le_succ N)⟩
set_option maxHeartbeats 400000 in
set_option maxRecDepth 100000 in
theorem lc_packet (l : Launch) {p : Program} {e : Env} {s : State} {m : MethodId} {args : Array Value} {below : List Frame} {meth : Method} {c : Code} {H : Heap} {locs : List Loc} {cells slots : Nat} {Q : State → Prop} {D : va_G} {ka : Nat → ClassId} {Z : HS} {A : Nat → Prop} {ls : Array Slot} (X : Cx p s m meth c cL_law 4 RL D ka Z A) {b L g o i N : Nat} {R : Nat → Nat} {T : TS} {xs : Nat → Int32} (hX : va_X b L xs s s.heap) (hbl : b < s.heap.size) (hbA : ¬ A b) (hi : i + 5 ≤ L) (hL : L ≤ 2560) (I : Inv D ka Z s A g o R T N H locs) (hN : N < 2 ^ 31) (hl : lv_has ls 4 [(3, .int (nI i)), (2, .ref o), (1, .ref g), (0, .ref b)]) (hc : cells + 44 ≤ 600000) (hs : slots + 2247 ≤ 7302250) (kk : ∀ (T' : TS) (H1 : Heap) (locs1 : List Loc), Inv D ka Z s A g o R T' (N + 1) H1 locs1 → W p l e room_1 s m args below meth c H1 locs1 (cells + 44) (slots + 2247) Q (F0 m 813 ls [])) : W p l e room_1 s m args below meth c H locs cells slots Q (F0 m 522 ls []) := by
  obtain ⟨Sc, Sr, G, Vc, Vr, hap, hC, hV, hT⟩ := I
  refine lv_aload_n X.1.1 X.1.2.1 dL_law_522 rfl (lv_at hl 2 rfl) ?_
  refine l_arg X hX hbl hbA Vc.2.1 hl (k := 1) (kv := 1) (by omega) hL (by decide) (by decide) dL_law_523 dL_law_524 dL_law_525 dL_law_526 dL_law_527 ?_
  refine l_arg X hX hbl hbA Vc.2.1 hl (k := 2) (kv := 2) (by omega) hL (by decide) (by decide) dL_law_528 dL_law_529 dL_law_530 dL_law_531 dL_law_532 ?_
  refine r_callV2 (k := 7) (n := 2) (As := [.int (xs (i + 1)), .int (xs (i + 2))]) X Vc Vr hap (sd_X6_packet l D ka _ Sc (fun r S' => r = (s_packet T (xs (i + 1)) (xs (i + 2))).1 ∧ RC S' g G (s_packet T (xs (i + 1)) (xs (i + 2))).2) g (xs (i + 1)) (xs (i + 2)) (c_packet hC hT (fun S' h' => ⟨rfl, h'⟩))) hC.k (by decide) (by decide) rfl wl_99 wl_100 wl_2 wl_101 wl_102 rfl rfl (by decide +kernel) ⟨Nat.le_of_ble_eq_true rfl, Nat.le_of_ble_eq_true rfl⟩ rfl hl.1 rfl (Nat.le_of_ble_eq_true rfl) dL_law_533 ⟨show cells + 0 ≤ 600000 by omega, show slots + 0 ≤ 7302250 by omega⟩ (fun r1 S1 H locs h V V2 hap => ?_)
  obtain ⟨e1, hC⟩ := h
  have Vc := V; have Vr := V2
  clear V V2
  refine lv_aload_n X.1.1 X.1.2.1 dL_law_536 rfl (lv_at hl 1 rfl) ?_
  refine l_arg X hX hbl hbA Vc.2.1 hl (k := 1) (kv := 1) (by omega) hL (by decide) (by decide) dL_law_537 dL_law_538 dL_law_539 dL_law_540 dL_law_541 ?_
  refine l_arg X hX hbl hbA Vc.2.1 hl (k := 2) (kv := 2) (by omega) hL (by decide) (by decide) dL_law_542 dL_law_543 dL_law_544 dL_law_545 dL_law_546 ?_
  refine r_callV2 (k := 8) (n := 2) (As := [.int (xs (i + 1)), .int (xs (i + 2))]) X Vr Vc hap.sym (sd_X7_packet l D ka _ Sr (fun r S' => r = (s_packet T (xs (i + 1)) (xs (i + 2))).1 ∧ RV S' o R (s_packet T (xs (i + 1)) (xs (i + 2))).2) o (xs (i + 1)) (xs (i + 2)) (wr_X7_packet hV.1 (v_packet hV hT (post := fun r S' => r = (s_packet T (xs (i + 1)) (xs (i + 2))).1 ∧ RV S' o R (s_packet T (xs (i + 1)) (xs (i + 2))).2) (fun S' h' => ⟨rfl, h'⟩)) (fun _ _ _ q => q))) hV.1.1 (by decide) (by decide) rfl wl_103 wl_104 wl_7 wl_105 wl_106 rfl rfl (by decide +kernel) ⟨Nat.le_of_ble_eq_true rfl, Nat.le_of_ble_eq_true rfl⟩ rfl hl.1 rfl (Nat.le_of_ble_eq_true rfl) dL_law_547 ⟨show cells + 0 + 0 ≤ 600000 by omega, show slots + 0 + 0 ≤ 7302250 by omega⟩ (fun r2 S1 H locs h V V2 hap => ?_)
  obtain ⟨e2, hV⟩ := h
  have Vr := V; have Vc := V2; have hap := hap.sym
  refine lv_icmp_eq (tgt := 813) X.1.1 X.1.2.1 dL_law_550 (by decide) (fun _ => ?_) (fun cq => absurd (e1.trans e2.symm) cq)
  refine W.widen (k := cells + 44) (n := slots + 2247) (by omega) (by omega) ?_
  have eT : (s_packet T (xs (i + 1)) (xs (i + 2))).2 = T := (s_same T (xs (i + 1)) (xs (i + 2)) 0).2.1
  rw [eT] at hC hV
  exact kk T H locs ⟨_, _, G, Vc, Vr, hap, hC, hV, hT.up (Nat.le_succ N)⟩
set_option maxHeartbeats 400000 in
set_option maxRecDepth 100000 in
theorem lc_size (l : Launch) {p : Program} {e : Env} {s : State} {m : MethodId} {args : Array Value} {below : List Frame} {meth : Method} {c : Code} {H : Heap} {locs : List Loc} {cells slots : Nat} {Q : State → Prop} {D : va_G} {ka : Nat → ClassId} {Z : HS} {A : Nat → Prop} {ls : Array Slot} (X : Cx p s m meth c cL_law 4 RL D ka Z A) {b L g o i N : Nat} {R : Nat → Nat} {T : TS} {xs : Nat → Int32} (hX : va_X b L xs s s.heap) (hbl : b < s.heap.size) (hbA : ¬ A b) (hi : i + 5 ≤ L) (hL : L ≤ 2560) (I : Inv D ka Z s A g o R T N H locs) (hN : N < 2 ^ 31) (hl : lv_has ls 4 [(3, .int (nI i)), (2, .ref o), (1, .ref g), (0, .ref b)]) (hc : cells + 44 ≤ 600000) (hs : slots + 2247 ≤ 7302250) (kk : ∀ (T' : TS) (H1 : Heap) (locs1 : List Loc), Inv D ka Z s A g o R T' (N + 1) H1 locs1 → W p l e room_1 s m args below meth c H1 locs1 (cells + 44) (slots + 2247) Q (F0 m 813 ls [])) : W p l e room_1 s m args below meth c H locs cells slots Q (F0 m 555 ls []) := by
  obtain ⟨Sc, Sr, G, Vc, Vr, hap, hC, hV, hT⟩ := I
  refine lv_aload_n X.1.1 X.1.2.1 dL_law_555 rfl (lv_at hl 2 rfl) ?_
  refine l_arg X hX hbl hbA Vc.2.1 hl (k := 1) (kv := 1) (by omega) hL (by decide) (by decide) dL_law_556 dL_law_557 dL_law_558 dL_law_559 dL_law_560 ?_
  refine r_callV2 (k := 7) (n := 1) (As := [.int (xs (i + 1))]) X Vc Vr hap (sd_X6_size l D ka _ Sc (fun r S' => r = (s_size T (xs (i + 1))).1 ∧ RC S' g G (s_size T (xs (i + 1))).2) g (xs (i + 1)) (c_size hC hT (fun S' h' => ⟨rfl, h'⟩))) hC.k (by decide) (by decide) rfl wl_107 wl_108 wl_2 wl_109 wl_110 rfl rfl (by decide +kernel) ⟨Nat.le_of_ble_eq_true rfl, Nat.le_of_ble_eq_true rfl⟩ rfl hl.1 rfl (Nat.le_of_ble_eq_true rfl) dL_law_561 ⟨show cells + 0 ≤ 600000 by omega, show slots + 0 ≤ 7302250 by omega⟩ (fun r1 S1 H locs h V V2 hap => ?_)
  obtain ⟨e1, hC⟩ := h
  have Vc := V; have Vr := V2
  clear V V2
  refine lv_aload_n X.1.1 X.1.2.1 dL_law_564 rfl (lv_at hl 1 rfl) ?_
  refine l_arg X hX hbl hbA Vc.2.1 hl (k := 1) (kv := 1) (by omega) hL (by decide) (by decide) dL_law_565 dL_law_566 dL_law_567 dL_law_568 dL_law_569 ?_
  refine r_callV2 (k := 8) (n := 1) (As := [.int (xs (i + 1))]) X Vr Vc hap.sym (sd_X7_size l D ka _ Sr (fun r S' => r = (s_size T (xs (i + 1))).1 ∧ RV S' o R (s_size T (xs (i + 1))).2) o (xs (i + 1)) (wr_X7_size hV.1 (v_size hV hT (post := fun r S' => r = (s_size T (xs (i + 1))).1 ∧ RV S' o R (s_size T (xs (i + 1))).2) (fun S' h' => ⟨rfl, h'⟩)) (fun _ _ _ q => q))) hV.1.1 (by decide) (by decide) rfl wl_111 wl_112 wl_7 wl_113 wl_114 rfl rfl (by decide +kernel) ⟨Nat.le_of_ble_eq_true rfl, Nat.le_of_ble_eq_true rfl⟩ rfl hl.1 rfl (Nat.le_of_ble_eq_true rfl) dL_law_570 ⟨show cells + 0 + 0 ≤ 600000 by omega, show slots + 0 + 0 ≤ 7302250 by omega⟩ (fun r2 S1 H locs h V V2 hap => ?_)
  obtain ⟨e2, hV⟩ := h
  have Vr := V; have Vc := V2; have hap := hap.sym
  refine lv_icmp_eq (tgt := 813) X.1.1 X.1.2.1 dL_law_573 (by decide) (fun _ => ?_) (fun cq => absurd (e1.trans e2.symm) cq)
  refine W.widen (k := cells + 44) (n := slots + 2247) (by omega) (by omega) ?_
  have eT : (s_size T (xs (i + 1))).2 = T := (s_same T (xs (i + 1)) 0 0).2.2.1
  rw [eT] at hC hV
  exact kk T H locs ⟨_, _, G, Vc, Vr, hap, hC, hV, hT.up (Nat.le_succ N)⟩
set_option maxHeartbeats 400000 in
set_option maxRecDepth 100000 in
theorem lc_tick (l : Launch) {p : Program} {e : Env} {s : State} {m : MethodId} {args : Array Value} {below : List Frame} {meth : Method} {c : Code} {H : Heap} {locs : List Loc} {cells slots : Nat} {Q : State → Prop} {D : va_G} {ka : Nat → ClassId} {Z : HS} {A : Nat → Prop} {ls : Array Slot} (X : Cx p s m meth c cL_law 4 RL D ka Z A) {b L g o i N : Nat} {R : Nat → Nat} {T : TS} {xs : Nat → Int32} (hX : va_X b L xs s s.heap) (hbl : b < s.heap.size) (hbA : ¬ A b) (hi : i + 5 ≤ L) (hL : L ≤ 2560) (I : Inv D ka Z s A g o R T N H locs) (hN : N < 2 ^ 31) (hl : lv_has ls 4 [(3, .int (nI i)), (2, .ref o), (1, .ref g), (0, .ref b)]) (hc : cells + 44 ≤ 600000) (hs : slots + 2247 ≤ 7302250) (kk : ∀ (T' : TS) (H1 : Heap) (locs1 : List Loc), Inv D ka Z s A g o R T' (N + 1) H1 locs1 → W p l e room_1 s m args below meth c H1 locs1 (cells + 44) (slots + 2247) Q (F0 m 813 ls [])) : W p l e room_1 s m args below meth c H locs cells slots Q (F0 m 578 ls []) := by
  obtain ⟨Sc, Sr, G, Vc, Vr, hap, hC, hV, hT⟩ := I
  refine lv_aload_n X.1.1 X.1.2.1 dL_law_578 rfl (lv_at hl 2 rfl) ?_
  refine l_arg X hX hbl hbA Vc.2.1 hl (k := 1) (kv := 1) (by omega) hL (by decide) (by decide) dL_law_579 dL_law_580 dL_law_581 dL_law_582 dL_law_583 ?_
  refine r_callV2 (k := 7) (n := 1) (As := [.int (xs (i + 1))]) X Vc Vr hap (sd_X6_tick l D ka _ Sc (fun r S' => r = (s_tick T (xs (i + 1))).1 ∧ RC S' g G (s_tick T (xs (i + 1))).2) g (xs (i + 1)) (c_tick hC hT (fun S' h' => ⟨rfl, h'⟩))) hC.k (by decide) (by decide) rfl wl_115 wl_116 wl_2 wl_117 wl_118 rfl rfl (by decide +kernel) ⟨Nat.le_of_ble_eq_true rfl, Nat.le_of_ble_eq_true rfl⟩ rfl hl.1 rfl (Nat.le_of_ble_eq_true rfl) dL_law_584 ⟨show cells + 0 ≤ 600000 by omega, show slots + 0 ≤ 7302250 by omega⟩ (fun r1 S1 H locs h V V2 hap => ?_)
  obtain ⟨e1, hC⟩ := h
  have Vc := V; have Vr := V2
  clear V V2
  refine lv_aload_n X.1.1 X.1.2.1 dL_law_587 rfl (lv_at hl 1 rfl) ?_
  refine l_arg X hX hbl hbA Vc.2.1 hl (k := 1) (kv := 1) (by omega) hL (by decide) (by decide) dL_law_588 dL_law_589 dL_law_590 dL_law_591 dL_law_592 ?_
  refine r_callV2 (k := 8) (n := 1) (As := [.int (xs (i + 1))]) X Vr Vc hap.sym (sd_X7_tick l D ka _ Sr (fun r S' => r = (s_tick T (xs (i + 1))).1 ∧ RV S' o R (s_tick T (xs (i + 1))).2) o (xs (i + 1)) (wr_X7_tick hV.1 (v_tick hV hT (post := fun r S' => r = (s_tick T (xs (i + 1))).1 ∧ RV S' o R (s_tick T (xs (i + 1))).2) (fun S' h' => ⟨rfl, h'⟩)) (fun _ _ _ q => q))) hV.1.1 (by decide) (by decide) rfl wl_119 wl_120 wl_7 wl_121 wl_122 rfl rfl (by decide +kernel) ⟨Nat.le_of_ble_eq_true rfl, Nat.le_of_ble_eq_true rfl⟩ rfl hl.1 rfl (Nat.le_of_ble_eq_true rfl) dL_law_593 ⟨show cells + 0 + 0 ≤ 600000 by omega, show slots + 0 + 0 ≤ 7302250 by omega⟩ (fun r2 S1 H locs h V V2 hap => ?_)
  obtain ⟨e2, hV⟩ := h
  have Vr := V; have Vc := V2; have hap := hap.sym
  refine lv_icmp_eq (tgt := 813) X.1.1 X.1.2.1 dL_law_596 (by decide) (fun _ => ?_) (fun cq => absurd (e1.trans e2.symm) cq)
  refine W.widen (k := cells + 44) (n := slots + 2247) (by omega) (by omega) ?_
  exact kk _ H locs ⟨_, _, G, Vc, Vr, hap, hC, hV, ok_tick hT _⟩
set_option maxHeartbeats 400000 in
set_option maxRecDepth 100000 in
theorem lc_forget (l : Launch) {p : Program} {e : Env} {s : State} {m : MethodId} {args : Array Value} {below : List Frame} {meth : Method} {c : Code} {H : Heap} {locs : List Loc} {cells slots : Nat} {Q : State → Prop} {D : va_G} {ka : Nat → ClassId} {Z : HS} {A : Nat → Prop} {ls : Array Slot} (X : Cx p s m meth c cL_law 4 RL D ka Z A) {b L g o i N : Nat} {R : Nat → Nat} {T : TS} {xs : Nat → Int32} (hX : va_X b L xs s s.heap) (hbl : b < s.heap.size) (hbA : ¬ A b) (hi : i + 5 ≤ L) (hL : L ≤ 2560) (I : Inv D ka Z s A g o R T N H locs) (hN : N < 2 ^ 31) (hl : lv_has ls 4 [(3, .int (nI i)), (2, .ref o), (1, .ref g), (0, .ref b)]) (hc : cells + 44 ≤ 600000) (hs : slots + 2247 ≤ 7302250) (kk : ∀ (T' : TS) (H1 : Heap) (locs1 : List Loc), Inv D ka Z s A g o R T' (N + 1) H1 locs1 → W p l e room_1 s m args below meth c H1 locs1 (cells + 44) (slots + 2247) Q (F0 m 813 ls [])) : W p l e room_1 s m args below meth c H locs cells slots Q (F0 m 601 ls []) := by
  obtain ⟨Sc, Sr, G, Vc, Vr, hap, hC, hV, hT⟩ := I
  refine lv_aload_n X.1.1 X.1.2.1 dL_law_601 rfl (lv_at hl 2 rfl) ?_
  refine l_arg X hX hbl hbA Vc.2.1 hl (k := 1) (kv := 1) (by omega) hL (by decide) (by decide) dL_law_602 dL_law_603 dL_law_604 dL_law_605 dL_law_606 ?_
  refine r_callV2 (k := 7) (n := 1) (As := [.int (xs (i + 1))]) X Vc Vr hap (sd_X6_forget l D ka _ Sc (fun r S' => r = (s_forget T (xs (i + 1))).1 ∧ RC S' g G (s_forget T (xs (i + 1))).2) g (xs (i + 1)) (c_forget hC hT (fun S' h' => ⟨rfl, h'⟩))) hC.k (by decide) (by decide) rfl wl_123 wl_124 wl_2 wl_125 wl_126 rfl rfl (by decide +kernel) ⟨Nat.le_of_ble_eq_true rfl, Nat.le_of_ble_eq_true rfl⟩ rfl hl.1 rfl (Nat.le_of_ble_eq_true rfl) dL_law_607 ⟨show cells + 0 ≤ 600000 by omega, show slots + 0 ≤ 7302250 by omega⟩ (fun r1 S1 H locs h V V2 hap => ?_)
  obtain ⟨e1, hC⟩ := h
  have Vc := V; have Vr := V2
  clear V V2
  refine lv_aload_n X.1.1 X.1.2.1 dL_law_610 rfl (lv_at hl 1 rfl) ?_
  refine l_arg X hX hbl hbA Vc.2.1 hl (k := 1) (kv := 1) (by omega) hL (by decide) (by decide) dL_law_611 dL_law_612 dL_law_613 dL_law_614 dL_law_615 ?_
  refine r_callV2 (k := 8) (n := 1) (As := [.int (xs (i + 1))]) X Vr Vc hap.sym (sd_X7_forget l D ka _ Sr (fun r S' => r = (s_forget T (xs (i + 1))).1 ∧ RV S' o R (s_forget T (xs (i + 1))).2) o (xs (i + 1)) (wr_X7_forget hV.1 (v_forget hV hT (post := fun r S' => r = (s_forget T (xs (i + 1))).1 ∧ RV S' o R (s_forget T (xs (i + 1))).2) (fun S' h' => ⟨rfl, h'⟩)) (fun _ _ _ q => q))) hV.1.1 (by decide) (by decide) rfl wl_127 wl_128 wl_7 wl_129 wl_130 rfl rfl (by decide +kernel) ⟨Nat.le_of_ble_eq_true rfl, Nat.le_of_ble_eq_true rfl⟩ rfl hl.1 rfl (Nat.le_of_ble_eq_true rfl) dL_law_616 ⟨show cells + 0 + 0 ≤ 600000 by omega, show slots + 0 + 0 ≤ 7302250 by omega⟩ (fun r2 S1 H locs h V V2 hap => ?_)
  obtain ⟨e2, hV⟩ := h
  have Vr := V; have Vc := V2; have hap := hap.sym
  refine lv_icmp_eq (tgt := 813) X.1.1 X.1.2.1 dL_law_619 (by decide) (fun _ => ?_) (fun cq => absurd (e1.trans e2.symm) cq)
  refine W.widen (k := cells + 44) (n := slots + 2247) (by omega) (by omega) ?_
  exact kk _ H locs ⟨_, _, G, Vc, Vr, hap, hC, hV, ok_forget hT _⟩
set_option maxHeartbeats 400000 in
set_option maxRecDepth 100000 in
theorem lc_known (l : Launch) {p : Program} {e : Env} {s : State} {m : MethodId} {args : Array Value} {below : List Frame} {meth : Method} {c : Code} {H : Heap} {locs : List Loc} {cells slots : Nat} {Q : State → Prop} {D : va_G} {ka : Nat → ClassId} {Z : HS} {A : Nat → Prop} {ls : Array Slot} (X : Cx p s m meth c cL_law 4 RL D ka Z A) {b L g o i N : Nat} {R : Nat → Nat} {T : TS} {xs : Nat → Int32} (hX : va_X b L xs s s.heap) (hbl : b < s.heap.size) (hbA : ¬ A b) (hi : i + 5 ≤ L) (hL : L ≤ 2560) (I : Inv D ka Z s A g o R T N H locs) (hN : N < 2 ^ 31) (hl : lv_has ls 4 [(3, .int (nI i)), (2, .ref o), (1, .ref g), (0, .ref b)]) (hc : cells + 44 ≤ 600000) (hs : slots + 2247 ≤ 7302250) (kk : ∀ (T' : TS) (H1 : Heap) (locs1 : List Loc), Inv D ka Z s A g o R T' (N + 1) H1 locs1 → W p l e room_1 s m args below meth c H1 locs1 (cells + 44) (slots + 2247) Q (F0 m 813 ls [])) : W p l e room_1 s m args below meth c H locs cells slots Q (F0 m 624 ls []) := by
  obtain ⟨Sc, Sr, G, Vc, Vr, hap, hC, hV, hT⟩ := I
  refine lv_aload_n X.1.1 X.1.2.1 dL_law_624 rfl (lv_at hl 2 rfl) ?_
  refine l_arg X hX hbl hbA Vc.2.1 hl (k := 1) (kv := 1) (by omega) hL (by decide) (by decide) dL_law_625 dL_law_626 dL_law_627 dL_law_628 dL_law_629 ?_
  refine r_callV2 (k := 7) (n := 1) (As := [.int (xs (i + 1))]) X Vc Vr hap (sd_X6_known l D ka _ Sc (fun r S' => r = (s_known T (xs (i + 1))).1 ∧ RC S' g G (s_known T (xs (i + 1))).2) g (xs (i + 1)) (c_known hC hT (fun S' h' => ⟨rfl, h'⟩))) hC.k (by decide) (by decide) rfl wl_131 wl_132 wl_2 wl_133 wl_134 rfl rfl (by decide +kernel) ⟨Nat.le_of_ble_eq_true rfl, Nat.le_of_ble_eq_true rfl⟩ rfl hl.1 rfl (Nat.le_of_ble_eq_true rfl) dL_law_630 ⟨show cells + 0 ≤ 600000 by omega, show slots + 0 ≤ 7302250 by omega⟩ (fun r1 S1 H locs h V V2 hap => ?_)
  obtain ⟨e1, hC⟩ := h
  have Vc := V; have Vr := V2
  clear V V2
  refine lv_aload_n X.1.1 X.1.2.1 dL_law_633 rfl (lv_at hl 1 rfl) ?_
  refine l_arg X hX hbl hbA Vc.2.1 hl (k := 1) (kv := 1) (by omega) hL (by decide) (by decide) dL_law_634 dL_law_635 dL_law_636 dL_law_637 dL_law_638 ?_
  refine r_callV2 (k := 8) (n := 1) (As := [.int (xs (i + 1))]) X Vr Vc hap.sym (sd_X7_known l D ka _ Sr (fun r S' => r = (s_known T (xs (i + 1))).1 ∧ RV S' o R (s_known T (xs (i + 1))).2) o (xs (i + 1)) (wr_X7_known hV.1 (v_known hV hT (post := fun r S' => r = (s_known T (xs (i + 1))).1 ∧ RV S' o R (s_known T (xs (i + 1))).2) (fun S' h' => ⟨rfl, h'⟩)) (fun _ _ _ q => q))) hV.1.1 (by decide) (by decide) rfl wl_135 wl_136 wl_7 wl_137 wl_138 rfl rfl (by decide +kernel) ⟨Nat.le_of_ble_eq_true rfl, Nat.le_of_ble_eq_true rfl⟩ rfl hl.1 rfl (Nat.le_of_ble_eq_true rfl) dL_law_639 ⟨show cells + 0 + 0 ≤ 600000 by omega, show slots + 0 + 0 ≤ 7302250 by omega⟩ (fun r2 S1 H locs h V V2 hap => ?_)
  obtain ⟨e2, hV⟩ := h
  have Vr := V; have Vc := V2; have hap := hap.sym
  refine lv_icmp_eq (tgt := 813) X.1.1 X.1.2.1 dL_law_642 (by decide) (fun _ => ?_) (fun cq => absurd (e1.trans e2.symm) cq)
  refine W.widen (k := cells + 44) (n := slots + 2247) (by omega) (by omega) ?_
  have eT : (s_known T (xs (i + 1))).2 = T := (s_same T (xs (i + 1)) 0 0).2.2.2.1
  rw [eT] at hC hV
  exact kk T H locs ⟨_, _, G, Vc, Vr, hap, hC, hV, hT.up (Nat.le_succ N)⟩
set_option maxHeartbeats 400000 in
set_option maxRecDepth 100000 in
theorem lc_knows (l : Launch) {p : Program} {e : Env} {s : State} {m : MethodId} {args : Array Value} {below : List Frame} {meth : Method} {c : Code} {H : Heap} {locs : List Loc} {cells slots : Nat} {Q : State → Prop} {D : va_G} {ka : Nat → ClassId} {Z : HS} {A : Nat → Prop} {ls : Array Slot} (X : Cx p s m meth c cL_law 4 RL D ka Z A) {b L g o i N : Nat} {R : Nat → Nat} {T : TS} {xs : Nat → Int32} (hX : va_X b L xs s s.heap) (hbl : b < s.heap.size) (hbA : ¬ A b) (hi : i + 5 ≤ L) (hL : L ≤ 2560) (I : Inv D ka Z s A g o R T N H locs) (hN : N < 2 ^ 31) (hl : lv_has ls 4 [(3, .int (nI i)), (2, .ref o), (1, .ref g), (0, .ref b)]) (hc : cells + 44 ≤ 600000) (hs : slots + 2247 ≤ 7302250) (kk : ∀ (T' : TS) (H1 : Heap) (locs1 : List Loc), Inv D ka Z s A g o R T' (N + 1) H1 locs1 → W p l e room_1 s m args below meth c H1 locs1 (cells + 44) (slots + 2247) Q (F0 m 813 ls [])) : W p l e room_1 s m args below meth c H locs cells slots Q (F0 m 647 ls []) := by
  obtain ⟨Sc, Sr, G, Vc, Vr, hap, hC, hV, hT⟩ := I
  refine lv_aload_n X.1.1 X.1.2.1 dL_law_647 rfl (lv_at hl 2 rfl) ?_
  refine l_arg X hX hbl hbA Vc.2.1 hl (k := 1) (kv := 1) (by omega) hL (by decide) (by decide) dL_law_648 dL_law_649 dL_law_650 dL_law_651 dL_law_652 ?_
  refine l_arg X hX hbl hbA Vc.2.1 hl (k := 2) (kv := 2) (by omega) hL (by decide) (by decide) dL_law_653 dL_law_654 dL_law_655 dL_law_656 dL_law_657 ?_
  refine l_arg X hX hbl hbA Vc.2.1 hl (k := 3) (kv := 3) (by omega) hL (by decide) (by decide) dL_law_658 dL_law_659 dL_law_660 dL_law_661 dL_law_662 ?_
  refine r_callV2 (k := 7) (n := 3) (As := [.int (xs (i + 1)), .int (xs (i + 2)), .int (xs (i + 3))]) X Vc Vr hap (sd_X6_knows l D ka _ Sc (fun r S' => r = (s_knows T (xs (i + 1)) (xs (i + 2)) (xs (i + 3))).1 ∧ RC S' g G (s_knows T (xs (i + 1)) (xs (i + 2)) (xs (i + 3))).2) g (xs (i + 1)) (xs (i + 2)) (xs (i + 3)) (c_knows hC hT (fun S' h' => ⟨rfl, h'⟩))) hC.k (by decide) (by decide) rfl wl_139 wl_140 wl_2 wl_141 wl_142 rfl rfl (by decide +kernel) ⟨Nat.le_of_ble_eq_true rfl, Nat.le_of_ble_eq_true rfl⟩ rfl hl.1 rfl (Nat.le_of_ble_eq_true rfl) dL_law_663 ⟨show cells + 0 ≤ 600000 by omega, show slots + 0 ≤ 7302250 by omega⟩ (fun r1 S1 H locs h V V2 hap => ?_)
  obtain ⟨e1, hC⟩ := h
  have Vc := V; have Vr := V2
  clear V V2
  refine lv_aload_n X.1.1 X.1.2.1 dL_law_666 rfl (lv_at hl 1 rfl) ?_
  refine l_arg X hX hbl hbA Vc.2.1 hl (k := 1) (kv := 1) (by omega) hL (by decide) (by decide) dL_law_667 dL_law_668 dL_law_669 dL_law_670 dL_law_671 ?_
  refine l_arg X hX hbl hbA Vc.2.1 hl (k := 2) (kv := 2) (by omega) hL (by decide) (by decide) dL_law_672 dL_law_673 dL_law_674 dL_law_675 dL_law_676 ?_
  refine l_arg X hX hbl hbA Vc.2.1 hl (k := 3) (kv := 3) (by omega) hL (by decide) (by decide) dL_law_677 dL_law_678 dL_law_679 dL_law_680 dL_law_681 ?_
  refine r_callV2 (k := 8) (n := 3) (As := [.int (xs (i + 1)), .int (xs (i + 2)), .int (xs (i + 3))]) X Vr Vc hap.sym (sd_X7_knows l D ka _ Sr (fun r S' => r = (s_knows T (xs (i + 1)) (xs (i + 2)) (xs (i + 3))).1 ∧ RV S' o R (s_knows T (xs (i + 1)) (xs (i + 2)) (xs (i + 3))).2) o (xs (i + 1)) (xs (i + 2)) (xs (i + 3)) (wr_X7_knows hV.1 (v_knows hV hT (post := fun r S' => r = (s_knows T (xs (i + 1)) (xs (i + 2)) (xs (i + 3))).1 ∧ RV S' o R (s_knows T (xs (i + 1)) (xs (i + 2)) (xs (i + 3))).2) (fun S' h' => ⟨rfl, h'⟩)) (fun _ _ _ q => q))) hV.1.1 (by decide) (by decide) rfl wl_143 wl_144 wl_7 wl_145 wl_146 rfl rfl (by decide +kernel) ⟨Nat.le_of_ble_eq_true rfl, Nat.le_of_ble_eq_true rfl⟩ rfl hl.1 rfl (Nat.le_of_ble_eq_true rfl) dL_law_682 ⟨show cells + 0 + 0 ≤ 600000 by omega, show slots + 0 + 0 ≤ 7302250 by omega⟩ (fun r2 S1 H locs h V V2 hap => ?_)
  obtain ⟨e2, hV⟩ := h
  have Vr := V; have Vc := V2; have hap := hap.sym
  refine W.lcmp X.1.1 X.1.2.1 dL_law_685 ?_
  have e3 : lg_cmp r1 r2 = 0 := by rw [e1, e2]; simp [lg_cmp]
  refine lv_if_eq (tgt := 813) X.1.1 X.1.2.1 dL_law_686 (by decide) (fun _ => ?_) (fun cq => absurd e3 cq)
  refine W.widen (k := cells + 44) (n := slots + 2247) (by omega) (by omega) ?_
  have eT : (s_knows T (xs (i + 1)) (xs (i + 2)) (xs (i + 3))).2 = T := (s_same T (xs (i + 1)) (xs (i + 2)) (xs (i + 3))).2.2.2.2.1
  rw [eT] at hC hV
  exact kk T H locs ⟨_, _, G, Vc, Vr, hap, hC, hV, hT.up (Nat.le_succ N)⟩
set_option maxHeartbeats 400000 in
set_option maxRecDepth 100000 in
theorem lc_got (l : Launch) {p : Program} {e : Env} {s : State} {m : MethodId} {args : Array Value} {below : List Frame} {meth : Method} {c : Code} {H : Heap} {locs : List Loc} {cells slots : Nat} {Q : State → Prop} {D : va_G} {ka : Nat → ClassId} {Z : HS} {A : Nat → Prop} {ls : Array Slot} (X : Cx p s m meth c cL_law 4 RL D ka Z A) {b L g o i N : Nat} {R : Nat → Nat} {T : TS} {xs : Nat → Int32} (hX : va_X b L xs s s.heap) (hbl : b < s.heap.size) (hbA : ¬ A b) (hi : i + 5 ≤ L) (hL : L ≤ 2560) (I : Inv D ka Z s A g o R T N H locs) (hN : N < 2 ^ 31) (hl : lv_has ls 4 [(3, .int (nI i)), (2, .ref o), (1, .ref g), (0, .ref b)]) (hc : cells + 44 ≤ 600000) (hs : slots + 2247 ≤ 7302250) (kk : ∀ (T' : TS) (H1 : Heap) (locs1 : List Loc), Inv D ka Z s A g o R T' (N + 1) H1 locs1 → W p l e room_1 s m args below meth c H1 locs1 (cells + 44) (slots + 2247) Q (F0 m 813 ls [])) : W p l e room_1 s m args below meth c H locs cells slots Q (F0 m 691 ls []) := by
  obtain ⟨Sc, Sr, G, Vc, Vr, hap, hC, hV, hT⟩ := I
  refine lv_aload_n X.1.1 X.1.2.1 dL_law_691 rfl (lv_at hl 2 rfl) ?_
  refine l_arg X hX hbl hbA Vc.2.1 hl (k := 1) (kv := 1) (by omega) hL (by decide) (by decide) dL_law_692 dL_law_693 dL_law_694 dL_law_695 dL_law_696 ?_
  refine r_callV2 (k := 7) (n := 1) (As := [.int (xs (i + 1))]) X Vc Vr hap (sd_X6_got l D ka _ Sc (fun r S' => r = (s_got T (xs (i + 1))).1 ∧ RC S' g G (s_got T (xs (i + 1))).2) g (xs (i + 1)) (c_got hC hT (fun S' h' => ⟨rfl, h'⟩))) hC.k (by decide) (by decide) rfl wl_147 wl_148 wl_2 wl_149 wl_150 rfl rfl (by decide +kernel) ⟨Nat.le_of_ble_eq_true rfl, Nat.le_of_ble_eq_true rfl⟩ rfl hl.1 rfl (Nat.le_of_ble_eq_true rfl) dL_law_697 ⟨show cells + 0 ≤ 600000 by omega, show slots + 0 ≤ 7302250 by omega⟩ (fun r1 S1 H locs h V V2 hap => ?_)
  obtain ⟨e1, hC⟩ := h
  have Vc := V; have Vr := V2
  clear V V2
  refine lv_aload_n X.1.1 X.1.2.1 dL_law_700 rfl (lv_at hl 1 rfl) ?_
  refine l_arg X hX hbl hbA Vc.2.1 hl (k := 1) (kv := 1) (by omega) hL (by decide) (by decide) dL_law_701 dL_law_702 dL_law_703 dL_law_704 dL_law_705 ?_
  refine r_callV2 (k := 8) (n := 1) (As := [.int (xs (i + 1))]) X Vr Vc hap.sym (sd_X7_got l D ka _ Sr (fun r S' => r = (s_got T (xs (i + 1))).1 ∧ RV S' o R (s_got T (xs (i + 1))).2) o (xs (i + 1)) (wr_X7_got hV.1 (v_got hV hT (post := fun r S' => r = (s_got T (xs (i + 1))).1 ∧ RV S' o R (s_got T (xs (i + 1))).2) (fun S' h' => ⟨rfl, h'⟩)) (fun _ _ _ q => q))) hV.1.1 (by decide) (by decide) rfl wl_151 wl_152 wl_7 wl_153 wl_154 rfl rfl (by decide +kernel) ⟨Nat.le_of_ble_eq_true rfl, Nat.le_of_ble_eq_true rfl⟩ rfl hl.1 rfl (Nat.le_of_ble_eq_true rfl) dL_law_706 ⟨show cells + 0 + 0 ≤ 600000 by omega, show slots + 0 + 0 ≤ 7302250 by omega⟩ (fun r2 S1 H locs h V V2 hap => ?_)
  obtain ⟨e2, hV⟩ := h
  have Vr := V; have Vc := V2; have hap := hap.sym
  refine lv_icmp_eq (tgt := 813) X.1.1 X.1.2.1 dL_law_709 (by decide) (fun _ => ?_) (fun cq => absurd (e1.trans e2.symm) cq)
  refine W.widen (k := cells + 44) (n := slots + 2247) (by omega) (by omega) ?_
  have eT : (s_got T (xs (i + 1))).2 = T := (s_same T (xs (i + 1)) 0 0).2.2.2.2.2.1
  rw [eT] at hC hV
  exact kk T H locs ⟨_, _, G, Vc, Vr, hap, hC, hV, hT.up (Nat.le_succ N)⟩
set_option maxHeartbeats 400000 in
set_option maxRecDepth 100000 in
theorem lc_frame (l : Launch) {p : Program} {e : Env} {s : State} {m : MethodId} {args : Array Value} {below : List Frame} {meth : Method} {c : Code} {H : Heap} {locs : List Loc} {cells slots : Nat} {Q : State → Prop} {D : va_G} {ka : Nat → ClassId} {Z : HS} {A : Nat → Prop} {ls : Array Slot} (X : Cx p s m meth c cL_law 4 RL D ka Z A) {b L g o i N : Nat} {R : Nat → Nat} {T : TS} {xs : Nat → Int32} (hX : va_X b L xs s s.heap) (hbl : b < s.heap.size) (hbA : ¬ A b) (hi : i + 5 ≤ L) (hL : L ≤ 2560) (I : Inv D ka Z s A g o R T N H locs) (hN : N < 2 ^ 31) (hl : lv_has ls 4 [(3, .int (nI i)), (2, .ref o), (1, .ref g), (0, .ref b)]) (hc : cells + 44 ≤ 600000) (hs : slots + 2247 ≤ 7302250) (kk : ∀ (T' : TS) (H1 : Heap) (locs1 : List Loc), Inv D ka Z s A g o R T' (N + 1) H1 locs1 → W p l e room_1 s m args below meth c H1 locs1 (cells + 44) (slots + 2247) Q (F0 m 813 ls [])) : W p l e room_1 s m args below meth c H locs cells slots Q (F0 m 714 ls []) := by
  obtain ⟨Sc, Sr, G, Vc, Vr, hap, hC, hV, hT⟩ := I
  refine lv_aload_n X.1.1 X.1.2.1 dL_law_714 rfl (lv_at hl 2 rfl) ?_
  refine l_arg X hX hbl hbA Vc.2.1 hl (k := 1) (kv := 1) (by omega) hL (by decide) (by decide) dL_law_715 dL_law_716 dL_law_717 dL_law_718 dL_law_719 ?_
  refine l_arg X hX hbl hbA Vc.2.1 hl (k := 2) (kv := 2) (by omega) hL (by decide) (by decide) dL_law_720 dL_law_721 dL_law_722 dL_law_723 dL_law_724 ?_
  refine l_arg X hX hbl hbA Vc.2.1 hl (k := 3) (kv := 3) (by omega) hL (by decide) (by decide) dL_law_725 dL_law_726 dL_law_727 dL_law_728 dL_law_729 ?_
  refine r_callV2 (k := 7) (n := 3) (As := [.int (xs (i + 1)), .int (xs (i + 2)), .int (xs (i + 3))]) X Vc Vr hap (sd_X6_frame l D ka _ Sc (fun r S' => r = (s_frame T (xs (i + 1)) (xs (i + 2)) (xs (i + 3))).1 ∧ RC S' g G (s_frame T (xs (i + 1)) (xs (i + 2)) (xs (i + 3))).2) g (xs (i + 1)) (xs (i + 2)) (xs (i + 3)) (c_frame hC hT (fun S' h' => ⟨rfl, h'⟩))) hC.k (by decide) (by decide) rfl wl_155 wl_156 wl_2 wl_157 wl_158 rfl rfl (by decide +kernel) ⟨Nat.le_of_ble_eq_true rfl, Nat.le_of_ble_eq_true rfl⟩ rfl hl.1 rfl (Nat.le_of_ble_eq_true rfl) dL_law_730 ⟨show cells + 0 ≤ 600000 by omega, show slots + 0 ≤ 7302250 by omega⟩ (fun r1 S1 H locs h V V2 hap => ?_)
  obtain ⟨e1, hC⟩ := h
  have Vc := V; have Vr := V2
  clear V V2
  refine lv_aload_n X.1.1 X.1.2.1 dL_law_733 rfl (lv_at hl 1 rfl) ?_
  refine l_arg X hX hbl hbA Vc.2.1 hl (k := 1) (kv := 1) (by omega) hL (by decide) (by decide) dL_law_734 dL_law_735 dL_law_736 dL_law_737 dL_law_738 ?_
  refine l_arg X hX hbl hbA Vc.2.1 hl (k := 2) (kv := 2) (by omega) hL (by decide) (by decide) dL_law_739 dL_law_740 dL_law_741 dL_law_742 dL_law_743 ?_
  refine l_arg X hX hbl hbA Vc.2.1 hl (k := 3) (kv := 3) (by omega) hL (by decide) (by decide) dL_law_744 dL_law_745 dL_law_746 dL_law_747 dL_law_748 ?_
  refine r_callV2 (k := 8) (n := 3) (As := [.int (xs (i + 1)), .int (xs (i + 2)), .int (xs (i + 3))]) X Vr Vc hap.sym (sd_X7_frame l D ka _ Sr (fun r S' => r = (s_frame T (xs (i + 1)) (xs (i + 2)) (xs (i + 3))).1 ∧ RV S' o R (s_frame T (xs (i + 1)) (xs (i + 2)) (xs (i + 3))).2) o (xs (i + 1)) (xs (i + 2)) (xs (i + 3)) (wr_X7_frame hV.1 (v_frame hV hT hN (post := fun r S' => r = (s_frame T (xs (i + 1)) (xs (i + 2)) (xs (i + 3))).1 ∧ RV S' o R (s_frame T (xs (i + 1)) (xs (i + 2)) (xs (i + 3))).2) (fun S' h' => ⟨rfl, h'⟩)) (fun _ _ _ q => q))) hV.1.1 (by decide) (by decide) rfl wl_159 wl_160 wl_7 wl_161 wl_162 rfl rfl (by decide +kernel) ⟨Nat.le_of_ble_eq_true rfl, Nat.le_of_ble_eq_true rfl⟩ rfl hl.1 rfl (Nat.le_of_ble_eq_true rfl) dL_law_749 ⟨show cells + 0 + 0 ≤ 600000 by omega, show slots + 0 + 0 ≤ 7302250 by omega⟩ (fun r2 S1 H locs h V V2 hap => ?_)
  obtain ⟨e2, hV⟩ := h
  have Vr := V; have Vc := V2; have hap := hap.sym
  refine lv_icmp_eq (tgt := 813) X.1.1 X.1.2.1 dL_law_752 (by decide) (fun _ => ?_) (fun cq => absurd (e1.trans e2.symm) cq)
  refine W.widen (k := cells + 44) (n := slots + 2247) (by omega) (by omega) ?_
  have eT : (s_frame T (xs (i + 1)) (xs (i + 2)) (xs (i + 3))).2 = T := (s_same T (xs (i + 1)) (xs (i + 2)) (xs (i + 3))).2.2.2.2.2.2.1
  rw [eT] at hC hV
  exact kk T H locs ⟨_, _, G, Vc, Vr, hap, hC, hV, hT.up (Nat.le_succ N)⟩
set_option maxHeartbeats 400000 in
set_option maxRecDepth 100000 in
theorem lc_length (l : Launch) {p : Program} {e : Env} {s : State} {m : MethodId} {args : Array Value} {below : List Frame} {meth : Method} {c : Code} {H : Heap} {locs : List Loc} {cells slots : Nat} {Q : State → Prop} {D : va_G} {ka : Nat → ClassId} {Z : HS} {A : Nat → Prop} {ls : Array Slot} (X : Cx p s m meth c cL_law 4 RL D ka Z A) {b L g o i N : Nat} {R : Nat → Nat} {T : TS} {xs : Nat → Int32} (hX : va_X b L xs s s.heap) (hbl : b < s.heap.size) (hbA : ¬ A b) (hi : i + 5 ≤ L) (hL : L ≤ 2560) (I : Inv D ka Z s A g o R T N H locs) (hN : N < 2 ^ 31) (hl : lv_has ls 4 [(3, .int (nI i)), (2, .ref o), (1, .ref g), (0, .ref b)]) (hc : cells + 44 ≤ 600000) (hs : slots + 2247 ≤ 7302250) (kk : ∀ (T' : TS) (H1 : Heap) (locs1 : List Loc), Inv D ka Z s A g o R T' (N + 1) H1 locs1 → W p l e room_1 s m args below meth c H1 locs1 (cells + 44) (slots + 2247) Q (F0 m 813 ls [])) : W p l e room_1 s m args below meth c H locs cells slots Q (F0 m 757 ls []) := by
  obtain ⟨Sc, Sr, G, Vc, Vr, hap, hC, hV, hT⟩ := I
  refine lv_aload_n X.1.1 X.1.2.1 dL_law_757 rfl (lv_at hl 2 rfl) ?_
  refine l_arg X hX hbl hbA Vc.2.1 hl (k := 1) (kv := 1) (by omega) hL (by decide) (by decide) dL_law_758 dL_law_759 dL_law_760 dL_law_761 dL_law_762 ?_
  refine l_arg X hX hbl hbA Vc.2.1 hl (k := 2) (kv := 2) (by omega) hL (by decide) (by decide) dL_law_763 dL_law_764 dL_law_765 dL_law_766 dL_law_767 ?_
  refine r_callV2 (k := 7) (n := 2) (As := [.int (xs (i + 1)), .int (xs (i + 2))]) X Vc Vr hap (sd_X6_length l D ka _ Sc (fun r S' => r = (s_length T (xs (i + 1)) (xs (i + 2))).1 ∧ RC S' g G (s_length T (xs (i + 1)) (xs (i + 2))).2) g (xs (i + 1)) (xs (i + 2)) (c_length hC hT (fun S' h' => ⟨rfl, h'⟩))) hC.k (by decide) (by decide) rfl wl_163 wl_164 wl_2 wl_165 wl_166 rfl rfl (by decide +kernel) ⟨Nat.le_of_ble_eq_true rfl, Nat.le_of_ble_eq_true rfl⟩ rfl hl.1 rfl (Nat.le_of_ble_eq_true rfl) dL_law_768 ⟨show cells + 0 ≤ 600000 by omega, show slots + 0 ≤ 7302250 by omega⟩ (fun r1 S1 H locs h V V2 hap => ?_)
  obtain ⟨e1, hC⟩ := h
  have Vc := V; have Vr := V2
  clear V V2
  refine lv_aload_n X.1.1 X.1.2.1 dL_law_771 rfl (lv_at hl 1 rfl) ?_
  refine l_arg X hX hbl hbA Vc.2.1 hl (k := 1) (kv := 1) (by omega) hL (by decide) (by decide) dL_law_772 dL_law_773 dL_law_774 dL_law_775 dL_law_776 ?_
  refine l_arg X hX hbl hbA Vc.2.1 hl (k := 2) (kv := 2) (by omega) hL (by decide) (by decide) dL_law_777 dL_law_778 dL_law_779 dL_law_780 dL_law_781 ?_
  refine r_callV2 (k := 8) (n := 2) (As := [.int (xs (i + 1)), .int (xs (i + 2))]) X Vr Vc hap.sym (sd_X7_length l D ka _ Sr (fun r S' => r = (s_length T (xs (i + 1)) (xs (i + 2))).1 ∧ RV S' o R (s_length T (xs (i + 1)) (xs (i + 2))).2) o (xs (i + 1)) (xs (i + 2)) (wr_X7_length hV.1 (v_length hV hT hN (post := fun r S' => r = (s_length T (xs (i + 1)) (xs (i + 2))).1 ∧ RV S' o R (s_length T (xs (i + 1)) (xs (i + 2))).2) (fun S' h' => ⟨rfl, h'⟩)) (fun _ _ _ q => q))) hV.1.1 (by decide) (by decide) rfl wl_167 wl_168 wl_7 wl_169 wl_170 rfl rfl (by decide +kernel) ⟨Nat.le_of_ble_eq_true rfl, Nat.le_of_ble_eq_true rfl⟩ rfl hl.1 rfl (Nat.le_of_ble_eq_true rfl) dL_law_782 ⟨show cells + 0 + 0 ≤ 600000 by omega, show slots + 0 + 0 ≤ 7302250 by omega⟩ (fun r2 S1 H locs h V V2 hap => ?_)
  obtain ⟨e2, hV⟩ := h
  have Vr := V; have Vc := V2; have hap := hap.sym
  refine lv_icmp_eq (tgt := 813) X.1.1 X.1.2.1 dL_law_785 (by decide) (fun _ => ?_) (fun cq => absurd (e1.trans e2.symm) cq)
  refine W.widen (k := cells + 44) (n := slots + 2247) (by omega) (by omega) ?_
  have eT : (s_length T (xs (i + 1)) (xs (i + 2))).2 = T := (s_same T (xs (i + 1)) (xs (i + 2)) 0).2.2.2.2.2.2.2.1
  rw [eT] at hC hV
  exact kk T H locs ⟨_, _, G, Vc, Vr, hap, hC, hV, hT.up (Nat.le_succ N)⟩
set_option maxHeartbeats 400000 in
set_option maxRecDepth 100000 in
theorem lc_count (l : Launch) {p : Program} {e : Env} {s : State} {m : MethodId} {args : Array Value} {below : List Frame} {meth : Method} {c : Code} {H : Heap} {locs : List Loc} {cells slots : Nat} {Q : State → Prop} {D : va_G} {ka : Nat → ClassId} {Z : HS} {A : Nat → Prop} {ls : Array Slot} (X : Cx p s m meth c cL_law 4 RL D ka Z A) {b L g o i N : Nat} {R : Nat → Nat} {T : TS} {xs : Nat → Int32} (hX : va_X b L xs s s.heap) (hbl : b < s.heap.size) (hbA : ¬ A b) (hi : i + 5 ≤ L) (hL : L ≤ 2560) (I : Inv D ka Z s A g o R T N H locs) (hN : N < 2 ^ 31) (hl : lv_has ls 4 [(3, .int (nI i)), (2, .ref o), (1, .ref g), (0, .ref b)]) (hc : cells + 44 ≤ 600000) (hs : slots + 2247 ≤ 7302250) (kk : ∀ (T' : TS) (H1 : Heap) (locs1 : List Loc), Inv D ka Z s A g o R T' (N + 1) H1 locs1 → W p l e room_1 s m args below meth c H1 locs1 (cells + 44) (slots + 2247) Q (F0 m 813 ls [])) : W p l e room_1 s m args below meth c H locs cells slots Q (F0 m 790 ls []) := by
  obtain ⟨Sc, Sr, G, Vc, Vr, hap, hC, hV, hT⟩ := I
  refine lv_aload_n X.1.1 X.1.2.1 dL_law_790 rfl (lv_at hl 2 rfl) ?_
  refine l_arg X hX hbl hbA Vc.2.1 hl (k := 1) (kv := 1) (by omega) hL (by decide) (by decide) dL_law_791 dL_law_792 dL_law_793 dL_law_794 dL_law_795 ?_
  refine r_callV2 (k := 7) (n := 1) (As := [.int (xs (i + 1))]) X Vc Vr hap (sd_X6_count l D ka _ Sc (fun r S' => r = (s_count T (xs (i + 1))).1 ∧ RC S' g G (s_count T (xs (i + 1))).2) g (xs (i + 1)) (c_count hC (fun S' h' => ⟨rfl, h'⟩))) hC.k (by decide) (by decide) rfl wl_171 wl_172 wl_2 wl_173 wl_174 rfl rfl (by decide +kernel) ⟨Nat.le_of_ble_eq_true rfl, Nat.le_of_ble_eq_true rfl⟩ rfl hl.1 rfl (Nat.le_of_ble_eq_true rfl) dL_law_796 ⟨show cells + 0 ≤ 600000 by omega, show slots + 0 ≤ 7302250 by omega⟩ (fun r1 S1 H locs h V V2 hap => ?_)
  obtain ⟨e1, hC⟩ := h
  have Vc := V; have Vr := V2
  clear V V2
  refine lv_aload_n X.1.1 X.1.2.1 dL_law_799 rfl (lv_at hl 1 rfl) ?_
  refine l_arg X hX hbl hbA Vc.2.1 hl (k := 1) (kv := 1) (by omega) hL (by decide) (by decide) dL_law_800 dL_law_801 dL_law_802 dL_law_803 dL_law_804 ?_
  refine r_callV2 (k := 8) (n := 1) (As := [.int (xs (i + 1))]) X Vr Vc hap.sym (sd_X7_count l D ka _ Sr (fun r S' => r = (s_count T (xs (i + 1))).1 ∧ RV S' o R (s_count T (xs (i + 1))).2) o (xs (i + 1)) (wr_X7_count hV.1 (v_count hV (post := fun r S' => r = (s_count T (xs (i + 1))).1 ∧ RV S' o R (s_count T (xs (i + 1))).2) (fun S' h' => ⟨rfl, h'⟩)) (fun _ _ _ q => q))) hV.1.1 (by decide) (by decide) rfl wl_175 wl_176 wl_7 wl_177 wl_178 rfl rfl (by decide +kernel) ⟨Nat.le_of_ble_eq_true rfl, Nat.le_of_ble_eq_true rfl⟩ rfl hl.1 rfl (Nat.le_of_ble_eq_true rfl) dL_law_805 ⟨show cells + 0 + 0 ≤ 600000 by omega, show slots + 0 + 0 ≤ 7302250 by omega⟩ (fun r2 S1 H locs h V V2 hap => ?_)
  obtain ⟨e2, hV⟩ := h
  have Vr := V; have Vc := V2; have hap := hap.sym
  refine lv_icmp_eq (tgt := 813) X.1.1 X.1.2.1 dL_law_808 (by decide) (fun _ => ?_) (fun cq => absurd (e1.trans e2.symm) cq)
  refine W.widen (k := cells + 44) (n := slots + 2247) (by omega) (by omega) ?_
  have eT : (s_count T (xs (i + 1))).2 = T := (s_same T (xs (i + 1)) 0 0).2.2.2.2.2.2.2.2
  rw [eT] at hC hV
  exact kk T H locs ⟨_, _, G, Vc, Vr, hap, hC, hV, hT.up (Nat.le_succ N)⟩
