/-! ===== the law's loop ===== -/
theorem l_small : ∀ L, L < 5 → ∀ k, k < 5 → Int32.ofNat L - 5 < nI k := by decide
theorem l_gt {k L : Nat} (hk : k ≤ L) (hL : L ≤ 2560) (h : L < k + 5) : Int32.ofNat L - 5 < nI k := by
  by_cases h5 : L < 5
  · exact l_small L h5 k (by omega)
  · have e1 : Int32.ofNat L - 5 = nI (L - 5) := nI_sub (a := L) (b := 5) (by omega)
    rw [e1]
    exact nI_lt (by omega) (by omega)
set_option maxHeartbeats 400000 in
set_option maxRecDepth 100000 in
theorem law_sw (l : Launch) {p : Program} {e : Env} {s : State} {m : MethodId} {args : Array Value} {below : List Frame} {meth : Method} {c : Code} {H : Heap} {locs : List Loc} {cells slots : Nat} {Q : State → Prop} {D : va_G} {ka : Nat → ClassId} {Z : HS} {A : Nat → Prop} {ls : Array Slot} (X : Cx p s m meth c cL_law 4 RL D ka Z A) {b L g o i N : Nat} {R : Nat → Nat} {T : TS} {xs : Nat → Int32} (hX : va_X b L xs s s.heap) (hbl : b < s.heap.size) (hbA : ¬ A b) (hi : i + 5 ≤ L) (hL : L ≤ 2560) (I : Inv D ka Z s A g o R T N H locs) (hN : N < 2 ^ 31) (hl : lv_has ls 4 [(3, .int (nI i)), (2, .ref o), (1, .ref g), (0, .ref b)]) (hc : cells + 44 ≤ 600000) (hs : slots + 2247 ≤ 7302250) (kk : ∀ (T' : TS) (H1 : Heap) (locs1 : List Loc), Inv D ka Z s A g o R T' (N + 1) H1 locs1 → W p l e room_1 s m args below meth c H1 locs1 (cells + 44) (slots + 2247) Q (F0 m 813 ls [])) (x : Int32) : W p l e room_1 s m args below meth c H locs cells slots Q (F0 m 32 ls [.int x]) := by
  by_cases c0 : x = nI 0
  · subst c0
    refine lv_tableIn (off := 104) (tgt := 136) X.1.1 X.1.2.1 dL_law_32 (by decide) (by decide) (by decide) (by decide) ?_
    exact lc_begin l X hX hbl hbA hi hL I hN hl hc hs kk
  by_cases c1 : x = nI 1
  · subst c1
    refine lv_tableIn (off := 127) (tgt := 159) X.1.1 X.1.2.1 dL_law_32 (by decide) (by decide) (by decide) (by decide) ?_
    exact lc_station l X hX hbl hbA hi hL I hN hl hc hs kk
  by_cases c2 : x = nI 2
  · subst c2
    refine lv_tableIn (off := 170) (tgt := 202) X.1.1 X.1.2.1 dL_law_32 (by decide) (by decide) (by decide) (by decide) ?_
    exact lc_move l X hX hbl hbA hi hL I hN hl hc hs kk
  by_cases c3 : x = nI 3
  · subst c3
    refine lv_tableIn (off := 203) (tgt := 235) X.1.1 X.1.2.1 dL_law_32 (by decide) (by decide) (by decide) (by decide) ?_
    exact lc_way l X hX hbl hbA hi hL I hN hl hc hs kk
  by_cases c4 : x = nI 4
  · subst c4
    refine lv_tableIn (off := 246) (tgt := 278) X.1.1 X.1.2.1 dL_law_32 (by decide) (by decide) (by decide) (by decide) ?_
    exact lc_feed l X hX hbl hbA hi hL I hN hl hc hs kk
  by_cases c5 : x = nI 5
  · subst c5
    refine lv_tableIn (off := 269) (tgt := 301) X.1.1 X.1.2.1 dL_law_32 (by decide) (by decide) (by decide) (by decide) ?_
    exact lc_send l X hX hbl hbA hi hL I hN hl hc hs kk
  by_cases c6 : x = nI 6
  · subst c6
    refine lv_tableIn (off := 342) (tgt := 374) X.1.1 X.1.2.1 dL_law_32 (by decide) (by decide) (by decide) (by decide) ?_
    exact lc_deliver l X hX hbl hbA hi hL I hN hl hc hs kk
  by_cases c7 : x = nI 7
  · subst c7
    refine lv_tableIn (off := 365) (tgt := 397) X.1.1 X.1.2.1 dL_law_32 (by decide) (by decide) (by decide) (by decide) ?_
    exact lc_twice l X hX hbl hbA hi hL I hN hl hc hs kk
  by_cases c8 : x = nI 8
  · subst c8
    refine lv_tableIn (off := 388) (tgt := 420) X.1.1 X.1.2.1 dL_law_32 (by decide) (by decide) (by decide) (by decide) ?_
    exact lc_lose l X hX hbl hbA hi hL I hN hl hc hs kk
  by_cases c9 : x = nI 9
  · subst c9
    refine lv_tableIn (off := 411) (tgt := 443) X.1.1 X.1.2.1 dL_law_32 (by decide) (by decide) (by decide) (by decide) ?_
    exact lc_inject l X hX hbl hbA hi hL I hN hl hc hs kk
  by_cases c10 : x = nI 10
  · subst c10
    refine lv_tableIn (off := 434) (tgt := 466) X.1.1 X.1.2.1 dL_law_32 (by decide) (by decide) (by decide) (by decide) ?_
    exact lc_poke l X hX hbl hbA hi hL I hN hl hc hs kk
  by_cases c11 : x = nI 11
  · subst c11
    refine lv_tableIn (off := 477) (tgt := 509) X.1.1 X.1.2.1 dL_law_32 (by decide) (by decide) (by decide) (by decide) ?_
    exact lc_flying l X hX hbl hbA hi hL I hN hl hc hs kk
  by_cases c12 : x = nI 12
  · subst c12
    refine lv_tableIn (off := 490) (tgt := 522) X.1.1 X.1.2.1 dL_law_32 (by decide) (by decide) (by decide) (by decide) ?_
    exact lc_packet l X hX hbl hbA hi hL I hN hl hc hs kk
  by_cases c13 : x = nI 13
  · subst c13
    refine lv_tableIn (off := 523) (tgt := 555) X.1.1 X.1.2.1 dL_law_32 (by decide) (by decide) (by decide) (by decide) ?_
    exact lc_size l X hX hbl hbA hi hL I hN hl hc hs kk
  by_cases c14 : x = nI 14
  · subst c14
    refine lv_tableIn (off := 546) (tgt := 578) X.1.1 X.1.2.1 dL_law_32 (by decide) (by decide) (by decide) (by decide) ?_
    exact lc_tick l X hX hbl hbA hi hL I hN hl hc hs kk
  by_cases c15 : x = nI 15
  · subst c15
    refine lv_tableIn (off := 569) (tgt := 601) X.1.1 X.1.2.1 dL_law_32 (by decide) (by decide) (by decide) (by decide) ?_
    exact lc_forget l X hX hbl hbA hi hL I hN hl hc hs kk
  by_cases c16 : x = nI 16
  · subst c16
    refine lv_tableIn (off := 592) (tgt := 624) X.1.1 X.1.2.1 dL_law_32 (by decide) (by decide) (by decide) (by decide) ?_
    exact lc_known l X hX hbl hbA hi hL I hN hl hc hs kk
  by_cases c17 : x = nI 17
  · subst c17
    refine lv_tableIn (off := 615) (tgt := 647) X.1.1 X.1.2.1 dL_law_32 (by decide) (by decide) (by decide) (by decide) ?_
    exact lc_knows l X hX hbl hbA hi hL I hN hl hc hs kk
  by_cases c18 : x = nI 18
  · subst c18
    refine lv_tableIn (off := 659) (tgt := 691) X.1.1 X.1.2.1 dL_law_32 (by decide) (by decide) (by decide) (by decide) ?_
    exact lc_got l X hX hbl hbA hi hL I hN hl hc hs kk
  by_cases c19 : x = nI 19
  · subst c19
    refine lv_tableIn (off := 682) (tgt := 714) X.1.1 X.1.2.1 dL_law_32 (by decide) (by decide) (by decide) (by decide) ?_
    exact lc_frame l X hX hbl hbA hi hL I hN hl hc hs kk
  by_cases c20 : x = nI 20
  · subst c20
    refine lv_tableIn (off := 725) (tgt := 757) X.1.1 X.1.2.1 dL_law_32 (by decide) (by decide) (by decide) (by decide) ?_
    exact lc_length l X hX hbl hbA hi hL I hN hl hc hs kk
  by_cases c21 : x = nI 21
  · subst c21
    refine lv_tableIn (off := 758) (tgt := 790) X.1.1 X.1.2.1 dL_law_32 (by decide) (by decide) (by decide) (by decide) ?_
    exact lc_count l X hX hbl hbA hi hL I hN hl hc hs kk
  refine lv_tableOut (tgt := 813) X.1.1 X.1.2.1 dL_law_32 (sw_out 21 x (fun j hj => ?_)) (by decide) ?_
  · rcases (show j = 0 ∨ j = 1 ∨ j = 2 ∨ j = 3 ∨ j = 4 ∨ j = 5 ∨ j = 6 ∨ j = 7 ∨ j = 8 ∨ j = 9 ∨ j = 10 ∨ j = 11 ∨ j = 12 ∨ j = 13 ∨ j = 14 ∨ j = 15 ∨ j = 16 ∨ j = 17 ∨ j = 18 ∨ j = 19 ∨ j = 20 ∨ j = 21 by omega) with rfl | rfl | rfl | rfl | rfl | rfl | rfl | rfl | rfl | rfl | rfl | rfl | rfl | rfl | rfl | rfl | rfl | rfl | rfl | rfl | rfl | rfl <;> assumption
  · refine W.widen (k := cells + 44) (n := slots + 2247) (by omega) (by omega) ?_
    obtain ⟨Sc, Sr, G, Vc, Vr, hap, hC, hV, hT⟩ := I
    exact kk T H locs ⟨Sc, Sr, G, Vc, Vr, hap, hC, hV, hT.up (Nat.le_succ N)⟩
set_option maxHeartbeats 400000 in
set_option maxRecDepth 100000 in
theorem law_loop (l : Launch) {p : Program} {e : Env} {s : State} {m : MethodId} {below : List Frame} {meth : Method} {c : Code} {D : va_G} {ka : Nat → ClassId} {Z : HS} (hr : meth.sig.returnType = ret) {b L g o : Nat} {R : Nat → Nat} {xs : Nat → Int32} (X : Cx p s m meth c cL_law 4 RL D ka Z (fun q => s.heap.size ≤ q)) (hX : va_X b L xs s s.heap) (hbl : b < s.heap.size) (hL : L ≤ 2560) : ∀ (n k : Nat) (T : TS) (H : Heap) (locs : List Loc) (ls : Array Slot), 5 * k ≤ L → L < 5 * k + 5 * n → Inv D ka Z s (fun q => s.heap.size ≤ q) g o R T k H locs → lv_has ls 4 [(3, .int (nI (5 * k))), (2, .ref o), (1, .ref g), (0, .ref b)] → W p l e room_1 s m #[Value.ref b] below meth c H locs (100 + k * 44) (31100 + k * 2247) (lw_Z below #[Value.ref b] s) (F0 m 18 ls []) := by
  have hbA : ¬ (fun q : Nat => s.heap.size ≤ q) b := Nat.not_le.mpr hbl
  intro n
  induction n with
  | zero => intro k T H locs ls h1 h2; omega
  | succ n ih =>
    intro k T H locs ls hk hn I hl
    have hS : va_S (fun q : Nat => s.heap.size ≤ q) s.heap H locs := by
      obtain ⟨Sc, Sr, G, Vc, -⟩ := I
      exact Vc.2.1
    refine lv_iload_n X.1.1 X.1.2.1 dL_law_18 rfl (lv_at hl 0 rfl) ?_
    refine lv_aload_n X.1.1 X.1.2.1 dL_law_19 rfl (lv_at hl 3 rfl) ?_
    refine va_slen X.1.1 X.1.2.1 hX hbl hbA hS dL_law_20 ?_
    refine lv_iconst (v := 5) X.1.1 X.1.2.1 dL_law_21 (by decide) ?_
    refine lv_isub X.1.1 X.1.2.1 dL_law_22 ?_
    refine lv_icmp_gt (tgt := 819) X.1.1 X.1.2.1 dL_law_23 (by decide) (fun cq => ?_) (fun cq => ?_)
    · refine lv_iconst (v := 1) X.1.1 X.1.2.1 dL_law_819 (by decide) ?_
      refine va_forget (fun q hq => hS.2.2 q hq) ?_
      refine W.widen (k := 600000) (n := 7302250) (by omega) (by omega) ?_
      exact lw_ret X.1.1 X.1.2.1 hr X.1.2.2.2.2 dL_law_820
    · have hi : 5 * k + 5 ≤ L := by
        rcases Nat.lt_or_ge L (5 * k + 5) with q | q
        · exact absurd (l_gt hk hL q) cq
        · exact q
      refine lv_aload_n X.1.1 X.1.2.1 dL_law_26 rfl (lv_at hl 3 rfl) ?_
      refine lv_iload_n X.1.1 X.1.2.1 dL_law_27 rfl (lv_at hl 0 rfl) ?_
      refine va_sld X.1.1 X.1.2.1 hX hbl hbA hS (vp_in_nI (by omega) (by omega)) dL_law_28 ?_
      refine lv_bipush (v := 31) X.1.1 X.1.2.1 dL_law_29 (by decide) ?_
      refine lv_iand X.1.1 X.1.2.1 dL_law_31 ?_
      refine law_sw l X hX hbl hbA hi hL I (by omega) hl (by omega) (by omega) (fun T' H1 locs1 I1 => ?_) _
      refine lv_iinc (v := nI (5 * (k + 1))) (lv' := [(3, .int (nI (5 * (k + 1)))), (2, .ref o), (1, .ref g), (0, .ref b)]) X.1.1 X.1.2.1 dL_law_813 hl (k := 0) rfl ?_ (by decide) rfl (fun ls hl => ?_)
      · exact nI_add (5 * k) 5
      · refine lv_goto (tgt := 18) X.1.1 X.1.2.1 dL_law_816 (by decide) ?_
        have h9 := ih (k + 1) T' H1 locs1 ls (by omega) (by omega) I1 hl
        rw [show 100 + k * 44 + 44 = 100 + (k + 1) * 44 by omega, show 31100 + k * 2247 + 2247 = 31100 + (k + 1) * 2247 by omega]
        exact h9
