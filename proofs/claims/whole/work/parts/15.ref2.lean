abbrev rm_X7_drop : Room := { frames := 0, cells := 0, slots := 0, locals := 0 }
def wp_X7_drop_50 : Nat → (Unit → HS → Prop) → (HS → Nat → Int32 → Prop) → HS → Nat → Int32 → Int32 → Prop
  | 0, _, _, _, _, _, _ => False
  | n + 1, post, K12, S, b0, x2, x3 => (((120 : Int32) ≤ x3 → K12 S b0 (x2 + (1 : Int32))) ∧ (¬ (120 : Int32) ≤ x3 → kd S b0 = 8 ∧ (∃ o22 : Nat, fr S 44 b0 = some o22 ∧ (∃ o24 : Nat, fr S 44 b0 = some o24 ∧ (kd S o24 / 32 = 2 ∧ (vp_in (((120 : Int32) * (x2 + (1 : Int32))) + x3) (ln S o24) ∧ (kd S o22 / 32 = 2 ∧ (vp_in (((120 : Int32) * x2) + x3) (ln S o22) ∧ (wp_X7_drop_50 n post K12 (sai S o22 (((120 : Int32) * x2) + x3).toNatClampNeg ((ai S o24 (((120 : Int32) * (x2 + (1 : Int32))) + x3).toNatClampNeg).toInt8.toInt32)) b0 x2 (x3 + (1 : Int32)))))))))))
set_option maxHeartbeats 400000 in
set_option maxRecDepth 100000 in
theorem sl_X7_drop_50 (l : Launch) (D : va_G) (ka : Nat → ClassId) (sz : Nat) (Z : HS) (post : Unit → HS → Prop) {p : Program} {e : Env} {s : State} {m : MethodId} {args : Array Value} {below : List Frame} {meth : Method} {c : Code} (X : Cx p s m meth c cX7_drop 4 RX7 D ka Z (fA Z sz)) (hr : meth.sig.returnType = none)  {K12 : HS → Nat → Int32 → Prop} (hK12 : ∀ (S : HS) (b0 : Nat) (x2 : Int32), K12 S b0 x2 → ∀ (H : Heap) (locs : List Loc) (ls : Array Slot), Hv D ka Z s (fA Z sz) S H locs → lv_has ls 4 [(0, .ref b0), (2, .int x2)] → W p l e rm_X7_drop s m args below meth c H locs 0 0 (MQ below (Qx eV post D ka Z sz) args s 0 0 (fA Z sz)) (F0 m 12 ls [])) : ∀ (n : Nat), ∀ (S : HS) (b0 : Nat) (x2 : Int32) (x3 : Int32), wp_X7_drop_50 n post K12 S b0 x2 x3 → ∀ (H : Heap) (locs : List Loc) (ls : Array Slot), Hv D ka Z s (fA Z sz) S H locs → lv_has ls 4 [(0, .ref b0), (2, .int x2), (3, .int x3)] → W p l e rm_X7_drop s m args below meth c H locs 0 0 (MQ below (Qx eV post D ka Z sz) args s 0 0 (fA Z sz)) (F0 m 50 ls []) := by
  intro n
  induction n with
  | zero => intro S b0 x2 x3 h; exact h.elim
  | succ n ih =>
    intro S b0 x2 x3 h H locs ls V hl
    refine lv_iload_n X.1.1 X.1.2.1 dX7_drop_50 rfl (lv_at hl 2 rfl) ?_
    refine lv_bipush (v := (120 : Int32)) X.1.1 X.1.2.1 dX7_drop_51 (by decide) ?_
    refine lv_icmp_ge (tgt := 86) X.1.1 X.1.2.1 dX7_drop_53 (by decide) (fun c20 => ?_) (fun c20 => ?_)
    · have h := h.1 c20
      refine lv_iinc (v := (x2 + (1 : Int32))) (lv' := [(2, .int (x2 + (1 : Int32))), (0, .ref b0), (3, .int x3)]) X.1.1 X.1.2.1 dX7_drop_86 hl (k := 1) rfl (congrArg (HAdd.hAdd _) (by decide)) (by decide) rfl (fun ls hl => ?_)
      refine lv_goto (tgt := 12) X.1.1 X.1.2.1 dX7_drop_89 (by decide) ?_
      exact hK12 S b0 (x2 + (1 : Int32)) h _ _ _ V (lv_sub hl [1, 0] rfl)
    · have h := h.2 c20
      refine lv_aload_n X.1.1 X.1.2.1 dX7_drop_56 rfl (lv_at hl 0 rfl) ?_
      obtain ⟨k21, h⟩ := h
      obtain ⟨o22, e23, h⟩ := h
      refine gf_X7_54 X V k21 e23 dX7_drop_57 ?_
      refine lv_bipush (v := (120 : Int32)) X.1.1 X.1.2.1 dX7_drop_60 (by decide) ?_
      refine lv_iload_n X.1.1 X.1.2.1 dX7_drop_62 rfl (lv_at hl 1 rfl) ?_
      refine lv_imul X.1.1 X.1.2.1 dX7_drop_63 ?_
      refine lv_iload_n X.1.1 X.1.2.1 dX7_drop_64 rfl (lv_at hl 2 rfl) ?_
      refine lv_iadd X.1.1 X.1.2.1 dX7_drop_65 ?_
      refine lv_aload_n X.1.1 X.1.2.1 dX7_drop_66 rfl (lv_at hl 0 rfl) ?_
      obtain ⟨o24, e25, h⟩ := h
      refine gf_X7_54 X V k21 e25 dX7_drop_67 ?_
      refine lv_bipush (v := (120 : Int32)) X.1.1 X.1.2.1 dX7_drop_70 (by decide) ?_
      refine lv_iload_n X.1.1 X.1.2.1 dX7_drop_72 rfl (lv_at hl 1 rfl) ?_
      refine lv_iconst (v := (1 : Int32)) X.1.1 X.1.2.1 dX7_drop_73 (by decide) ?_
      refine lv_iadd X.1.1 X.1.2.1 dX7_drop_74 ?_
      refine lv_imul X.1.1 X.1.2.1 dX7_drop_75 ?_
      refine lv_iload_n X.1.1 X.1.2.1 dX7_drop_76 rfl (lv_at hl 2 rfl) ?_
      refine lv_iadd X.1.1 X.1.2.1 dX7_drop_77 ?_
      obtain ⟨k26, h⟩ := h
      obtain ⟨i27, h⟩ := h
      refine r_bald X V k26 i27 dX7_drop_78 ?_
      obtain ⟨k28, h⟩ := h
      obtain ⟨i29, h⟩ := h
      refine r_bast X V k28 i29 dX7_drop_79 (fun H locs V => ?_)
      refine lv_iinc (v := (x3 + (1 : Int32))) (lv' := [(3, .int (x3 + (1 : Int32))), (0, .ref b0), (2, .int x2)]) X.1.1 X.1.2.1 dX7_drop_80 hl (k := 2) rfl (congrArg (HAdd.hAdd _) (by decide)) (by decide) rfl (fun ls hl => ?_)
      refine lv_goto (tgt := 50) X.1.1 X.1.2.1 dX7_drop_83 (by decide) ?_
      exact ih (sai S o22 (((120 : Int32) * x2) + x3).toNatClampNeg ((ai S o24 (((120 : Int32) * (x2 + (1 : Int32))) + x3).toNatClampNeg).toInt8.toInt32)) b0 x2 (x3 + (1 : Int32)) h _ _ _ V (lv_sub hl [1, 2, 0] rfl)
def wp_X7_drop_12 : Nat → (Unit → HS → Prop) → HS → Nat → Int32 → Prop
  | 0, _, _, _, _ => False
  | n + 1, post, S, b0, x2 => kd S b0 = 8 ∧ ((((fi S 47 b0) ≤ x2 → post () S) ∧ (¬ (fi S 47 b0) ≤ x2 → ∃ o4 : Nat, fr S 45 b0 = some o4 ∧ (∃ o6 : Nat, fr S 45 b0 = some o6 ∧ (kd S o6 / 32 = 1 ∧ (vp_in (x2 + (1 : Int32)) (ln S o6) ∧ (kd S o4 / 32 = 1 ∧ (vp_in x2 (ln S o4) ∧ (∃ o12 : Nat, fr (sai S o4 x2.toNatClampNeg (ai S o6 (x2 + (1 : Int32)).toNatClampNeg)) 46 b0 = some o12 ∧ (∃ o14 : Nat, fr (sai S o4 x2.toNatClampNeg (ai S o6 (x2 + (1 : Int32)).toNatClampNeg)) 46 b0 = some o14 ∧ (kd (sai S o4 x2.toNatClampNeg (ai S o6 (x2 + (1 : Int32)).toNatClampNeg)) o14 / 32 = 1 ∧ (vp_in (x2 + (1 : Int32)) (ln (sai S o4 x2.toNatClampNeg (ai S o6 (x2 + (1 : Int32)).toNatClampNeg)) o14) ∧ (kd (sai S o4 x2.toNatClampNeg (ai S o6 (x2 + (1 : Int32)).toNatClampNeg)) o12 / 32 = 1 ∧ (vp_in x2 (ln (sai S o4 x2.toNatClampNeg (ai S o6 (x2 + (1 : Int32)).toNatClampNeg)) o12) ∧ (∃ n9, wp_X7_drop_50 n9 post (fun Sk b0k x2k => wp_X7_drop_12 n post Sk b0k x2k) (sai (sai S o4 x2.toNatClampNeg (ai S o6 (x2 + (1 : Int32)).toNatClampNeg)) o12 x2.toNatClampNeg (ai (sai S o4 x2.toNatClampNeg (ai S o6 (x2 + (1 : Int32)).toNatClampNeg)) o14 (x2 + (1 : Int32)).toNatClampNeg)) b0 x2 (0 : Int32))))))))))))))))
set_option maxHeartbeats 400000 in
set_option maxRecDepth 100000 in
theorem sl_X7_drop_12 (l : Launch) (D : va_G) (ka : Nat → ClassId) (sz : Nat) (Z : HS) (post : Unit → HS → Prop) {p : Program} {e : Env} {s : State} {m : MethodId} {args : Array Value} {below : List Frame} {meth : Method} {c : Code} (X : Cx p s m meth c cX7_drop 4 RX7 D ka Z (fA Z sz)) (hr : meth.sig.returnType = none)  : ∀ (n : Nat), ∀ (S : HS) (b0 : Nat) (x2 : Int32), wp_X7_drop_12 n post S b0 x2 → ∀ (H : Heap) (locs : List Loc) (ls : Array Slot), Hv D ka Z s (fA Z sz) S H locs → lv_has ls 4 [(0, .ref b0), (2, .int x2)] → W p l e rm_X7_drop s m args below meth c H locs 0 0 (MQ below (Qx eV post D ka Z sz) args s 0 0 (fA Z sz)) (F0 m 12 ls []) := by
  intro n
  induction n with
  | zero => intro S b0 x2 h; exact h.elim
  | succ n ih =>
    intro S b0 x2 h H locs ls V hl
    refine lv_iload_n X.1.1 X.1.2.1 dX7_drop_12 rfl (lv_at hl 1 rfl) ?_
    refine lv_aload_n X.1.1 X.1.2.1 dX7_drop_13 rfl (lv_at hl 0 rfl) ?_
    obtain ⟨k2, h⟩ := h
    refine gf_X7_83 X V k2 dX7_drop_14 ?_
    refine lv_icmp_ge (tgt := 92) X.1.1 X.1.2.1 dX7_drop_17 (by decide) (fun c3 => ?_) (fun c3 => ?_)
    · have h := h.1 c3
      exact W.vret X.1.1 X.1.2.1 hr (fun t ht _ => V.q (r := ()) h ht) V.2.1.2.2 dX7_drop_92 X.1.2.2.2.2
    · have h := h.2 c3
      refine lv_aload_n X.1.1 X.1.2.1 dX7_drop_20 rfl (lv_at hl 0 rfl) ?_
      obtain ⟨o4, e5, h⟩ := h
      refine gf_X7_57 X V k2 e5 dX7_drop_21 ?_
      refine lv_iload_n X.1.1 X.1.2.1 dX7_drop_24 rfl (lv_at hl 1 rfl) ?_
      refine lv_aload_n X.1.1 X.1.2.1 dX7_drop_25 rfl (lv_at hl 0 rfl) ?_
      obtain ⟨o6, e7, h⟩ := h
      refine gf_X7_57 X V k2 e7 dX7_drop_26 ?_
      refine lv_iload_n X.1.1 X.1.2.1 dX7_drop_29 rfl (lv_at hl 1 rfl) ?_
      refine lv_iconst (v := (1 : Int32)) X.1.1 X.1.2.1 dX7_drop_30 (by decide) ?_
      refine lv_iadd X.1.1 X.1.2.1 dX7_drop_31 ?_
      obtain ⟨k8, h⟩ := h
      obtain ⟨i9, h⟩ := h
      refine r_iald X V k8 i9 dX7_drop_32 ?_
      obtain ⟨k10, h⟩ := h
      obtain ⟨i11, h⟩ := h
      refine r_iast X V k10 i11 dX7_drop_33 (fun H locs V => ?_)
      refine lv_aload_n X.1.1 X.1.2.1 dX7_drop_34 rfl (lv_at hl 0 rfl) ?_
      obtain ⟨o12, e13, h⟩ := h
      refine gf_X7_60 X V k2 e13 dX7_drop_35 ?_
      refine lv_iload_n X.1.1 X.1.2.1 dX7_drop_38 rfl (lv_at hl 1 rfl) ?_
      refine lv_aload_n X.1.1 X.1.2.1 dX7_drop_39 rfl (lv_at hl 0 rfl) ?_
      obtain ⟨o14, e15, h⟩ := h
      refine gf_X7_60 X V k2 e15 dX7_drop_40 ?_
      refine lv_iload_n X.1.1 X.1.2.1 dX7_drop_43 rfl (lv_at hl 1 rfl) ?_
      refine lv_iconst (v := (1 : Int32)) X.1.1 X.1.2.1 dX7_drop_44 (by decide) ?_
      refine lv_iadd X.1.1 X.1.2.1 dX7_drop_45 ?_
      obtain ⟨k16, h⟩ := h
      obtain ⟨i17, h⟩ := h
      refine r_iald X V k16 i17 dX7_drop_46 ?_
      obtain ⟨k18, h⟩ := h
      obtain ⟨i19, h⟩ := h
      refine r_iast X V k18 i19 dX7_drop_47 (fun H locs V => ?_)
      refine lv_iconst (v := (0 : Int32)) X.1.1 X.1.2.1 dX7_drop_48 (by decide) ?_
      refine lv_istore_n (lv' := [(3, .int (0 : Int32)), (0, .ref b0), (2, .int x2)]) X.1.1 X.1.2.1 dX7_drop_49 rfl hl (by decide) rfl (fun ls hl => ?_)
      obtain ⟨n9, h⟩ := h
      exact sl_X7_drop_50 l D ka sz Z post X hr ih n9 (sai (sai S o4 x2.toNatClampNeg (ai S o6 (x2 + (1 : Int32)).toNatClampNeg)) o12 x2.toNatClampNeg (ai (sai S o4 x2.toNatClampNeg (ai S o6 (x2 + (1 : Int32)).toNatClampNeg)) o14 (x2 + (1 : Int32)).toNatClampNeg)) b0 x2 (0 : Int32) h _ _ _ V (lv_sub hl [1, 2, 0] rfl)
def wp_X7_drop (post : Unit → HS → Prop) (S : HS) (a0 : Nat) (v1 : Int32) : Prop := kd S a0 = 8 ∧ (∃ n9, wp_X7_drop_12 n9 post (sfi S 47 a0 ((fi S 47 a0) - (1 : Int32))) a0 v1)
set_option maxHeartbeats 400000 in
set_option maxRecDepth 100000 in
theorem sd_X7_drop (l : Launch) (D : va_G) (ka : Nat → ClassId) (sz : Nat) (Z : HS) (post : Unit → HS → Prop) (a0 : Nat) (v1 : Int32) (h : wp_X7_drop post Z a0 v1) : Met l yX7_drop [Cond.code yX7_drop cX7_drop 4 none] rm_X7_drop (Px D ka Z sz [.ref a0, .int v1]) (Qx eV post D ka Z sz) 0 0 (fA Z sz) := by
  refine Met.ofW (cc := cX7_drop) (maxL := 4) (ret := none) (by decide) rfl ?_
  intro p e s m args below meth c s₁ B hml hv
  obtain ⟨rfl, X, V, hsz⟩ := Cx.entry B hml hv
  have hr : meth.sig.returnType = none := B.returns
  have hl := lv_entry ([.ref a0, .int v1]) (n := 4) (Nat.le_of_ble_eq_true rfl)
  rw [lg_entry_eq]
  generalize (lg_sl ([.ref a0, .int v1]) ++ List.replicate (4 - (lg_sl ([.ref a0, .int v1])).length) Slot.unset).toArray = ls at hl ⊢
  have hl : lv_has ls 4 [(0, .ref a0), (1, .int v1)] := hl
  have h : wp_X7_drop post Z a0 v1 := h
  refine lv_aload_n X.1.1 X.1.2.1 dX7_drop_0 rfl (lv_at hl 0 rfl) ?_
  refine lv_dup X.1.1 X.1.2.1 dX7_drop_1 rfl ?_
  obtain ⟨k1, h⟩ := h
  refine gf_X7_83 X V k1 dX7_drop_2 ?_
  refine lv_iconst (v := (1 : Int32)) X.1.1 X.1.2.1 dX7_drop_5 (by decide) ?_
  refine lv_isub X.1.1 X.1.2.1 dX7_drop_6 ?_
  refine pf_X7_83 X V k1 dX7_drop_7 (fun H locs V => ?_)
  refine lv_iload_n X.1.1 X.1.2.1 dX7_drop_10 rfl (lv_at hl 1 rfl) ?_
  refine lv_istore_n (lv' := [(2, .int v1), (0, .ref a0), (1, .int v1)]) X.1.1 X.1.2.1 dX7_drop_11 rfl hl (by decide) rfl (fun ls hl => ?_)
  obtain ⟨n9, h⟩ := h
  exact sl_X7_drop_12 l D ka sz Z post X hr n9 (sfi Z 47 a0 ((fi Z 47 a0) - (1 : Int32))) a0 v1 h _ _ _ V (lv_sub hl [1, 0] rfl)
abbrev rm_X7_goes : Room := { frames := 1, cells := 0, slots := 0, locals := 24 }
def wp_X7_goes_423 : Nat → (Unit → HS → Prop) → HS → Nat → Int32 → Prop
  | 0, _, _, _, _ => False
  | n + 1, post, S, b0, x6 => kd S b0 = 8 ∧ ((((fi S 50 b0) ≤ x6 → post () (sfi S 47 b0 ((fi S 47 b0) + (1 : Int32)))) ∧ (¬ (fi S 50 b0) ≤ x6 → ∃ o102 : Nat, fr S 44 b0 = some o102 ∧ (∃ o104 : Nat, fr S 49 b0 = some o104 ∧ (kd S o104 / 32 = 2 ∧ (vp_in x6 (ln S o104) ∧ (kd S o102 / 32 = 2 ∧ (vp_in (((120 : Int32) * (fi S 47 b0)) + x6) (ln S o102) ∧ (wp_X7_goes_423 n post (sai S o102 (((120 : Int32) * (fi S 47 b0)) + x6).toNatClampNeg ((ai S o104 x6.toNatClampNeg).toInt8.toInt32)) b0 (x6 + (1 : Int32)))))))))))
set_option maxHeartbeats 400000 in
set_option maxRecDepth 100000 in
theorem sl_X7_goes_423 (l : Launch) (D : va_G) (ka : Nat → ClassId) (sz : Nat) (Z : HS) (post : Unit → HS → Prop) {p : Program} {e : Env} {s : State} {m : MethodId} {args : Array Value} {below : List Frame} {meth : Method} {c : Code} (X : Cx p s m meth c cX7_goes 7 RX7 D ka Z (fA Z sz)) (hr : meth.sig.returnType = none)  : ∀ (n : Nat), ∀ (S : HS) (b0 : Nat) (x6 : Int32), wp_X7_goes_423 n post S b0 x6 → ∀ (H : Heap) (locs : List Loc) (ls : Array Slot), Hv D ka Z s (fA Z sz) S H locs → lv_has ls 7 [(0, .ref b0), (6, .int x6)] → W p l e rm_X7_goes s m args below meth c H locs 0 0 (MQ below (Qx eV post D ka Z sz) args s 0 0 (fA Z sz)) (F0 m 423 ls []) := by
  intro n
  induction n with
  | zero => intro S b0 x6 h; exact h.elim
  | succ n ih =>
    intro S b0 x6 h H locs ls V hl
    refine lv_iload X.1.1 X.1.2.1 dX7_goes_423 (lv_at hl 1 rfl) ?_
    refine lv_aload_n X.1.1 X.1.2.1 dX7_goes_425 rfl (lv_at hl 0 rfl) ?_
    obtain ⟨k100, h⟩ := h
    refine gf_X7_112 X V k100 dX7_goes_426 ?_
    refine lv_icmp_ge (tgt := 460) X.1.1 X.1.2.1 dX7_goes_429 (by decide) (fun c101 => ?_) (fun c101 => ?_)
    · have h := h.1 c101
      refine lv_aload_n X.1.1 X.1.2.1 dX7_goes_460 rfl (lv_at hl 0 rfl) ?_
      refine lv_dup X.1.1 X.1.2.1 dX7_goes_461 rfl ?_
      refine gf_X7_83 X V k100 dX7_goes_462 ?_
      refine lv_iconst (v := (1 : Int32)) X.1.1 X.1.2.1 dX7_goes_465 (by decide) ?_
      refine lv_iadd X.1.1 X.1.2.1 dX7_goes_466 ?_
      refine pf_X7_83 X V k100 dX7_goes_467 (fun H locs V => ?_)
      exact W.vret X.1.1 X.1.2.1 hr (fun t ht _ => V.q (r := ()) h ht) V.2.1.2.2 dX7_goes_470 X.1.2.2.2.2
    · have h := h.2 c101
      refine lv_aload_n X.1.1 X.1.2.1 dX7_goes_432 rfl (lv_at hl 0 rfl) ?_
      obtain ⟨o102, e103, h⟩ := h
      refine gf_X7_54 X V k100 e103 dX7_goes_433 ?_
      refine lv_bipush (v := (120 : Int32)) X.1.1 X.1.2.1 dX7_goes_436 (by decide) ?_
      refine lv_aload_n X.1.1 X.1.2.1 dX7_goes_438 rfl (lv_at hl 0 rfl) ?_
      refine gf_X7_83 X V k100 dX7_goes_439 ?_
      refine lv_imul X.1.1 X.1.2.1 dX7_goes_442 ?_
      refine lv_iload X.1.1 X.1.2.1 dX7_goes_443 (lv_at hl 1 rfl) ?_
      refine lv_iadd X.1.1 X.1.2.1 dX7_goes_445 ?_
      refine lv_aload_n X.1.1 X.1.2.1 dX7_goes_446 rfl (lv_at hl 0 rfl) ?_
      obtain ⟨o104, e105, h⟩ := h
      refine gf_X7_66 X V k100 e105 dX7_goes_447 ?_
      refine lv_iload X.1.1 X.1.2.1 dX7_goes_450 (lv_at hl 1 rfl) ?_
      obtain ⟨k106, h⟩ := h
      obtain ⟨i107, h⟩ := h
      refine r_bald X V k106 i107 dX7_goes_452 ?_
      obtain ⟨k108, h⟩ := h
      obtain ⟨i109, h⟩ := h
      refine r_bast X V k108 i109 dX7_goes_453 (fun H locs V => ?_)
      refine lv_iinc (v := (x6 + (1 : Int32))) (lv' := [(6, .int (x6 + (1 : Int32))), (0, .ref b0)]) X.1.1 X.1.2.1 dX7_goes_454 hl (k := 1) rfl (congrArg (HAdd.hAdd _) (by decide)) (by decide) rfl (fun ls hl => ?_)
      refine lv_goto (tgt := 423) X.1.1 X.1.2.1 dX7_goes_457 (by decide) ?_
      exact ih (sai S o102 (((120 : Int32) * (fi S 47 b0)) + x6).toNatClampNeg ((ai S o104 x6.toNatClampNeg).toInt8.toInt32)) b0 (x6 + (1 : Int32)) h _ _ _ V (lv_sub hl [1, 0] rfl)
def wp_X7_goes_397a (post : Unit → HS → Prop) (S : HS) (b0 : Nat) (x2 : Int32) : Prop := kd S b0 = 8 ∧ (∃ o92 : Nat, fr S 45 b0 = some o92 ∧ (kd S o92 / 32 = 1 ∧ (vp_in (fi S 47 b0) (ln S o92) ∧ (∃ o96 : Nat, fr (sai S o92 (fi S 47 b0).toNatClampNeg (fi S 50 b0)) 46 b0 = some o96 ∧ (kd (sai S o92 (fi S 47 b0).toNatClampNeg (fi S 50 b0)) o96 / 32 = 1 ∧ (vp_in (fi (sai S o92 (fi S 47 b0).toNatClampNeg (fi S 50 b0)) 47 b0) (ln (sai S o92 (fi S 47 b0).toNatClampNeg (fi S 50 b0)) o96) ∧ (∃ n9, wp_X7_goes_423 n9 post (sai (sai S o92 (fi S 47 b0).toNatClampNeg (fi S 50 b0)) o96 (fi (sai S o92 (fi S 47 b0).toNatClampNeg (fi S 50 b0)) 47 b0).toNatClampNeg x2) b0 (0 : Int32))))))))
set_option maxHeartbeats 400000 in
set_option maxRecDepth 100000 in
theorem sl_X7_goes_397a (l : Launch) (D : va_G) (ka : Nat → ClassId) (sz : Nat) (Z : HS) (post : Unit → HS → Prop) {p : Program} {e : Env} {s : State} {m : MethodId} {args : Array Value} {below : List Frame} {meth : Method} {c : Code} (X : Cx p s m meth c cX7_goes 7 RX7 D ka Z (fA Z sz)) (hr : meth.sig.returnType = none)  : ∀ (S : HS) (b0 : Nat) (x2 : Int32), wp_X7_goes_397a post S b0 x2 → ∀ (H : Heap) (locs : List Loc) (ls : Array Slot), Hv D ka Z s (fA Z sz) S H locs → lv_has ls 7 [(0, .ref b0), (2, .int x2)] → W p l e rm_X7_goes s m args below meth c H locs 0 0 (MQ below (Qx eV post D ka Z sz) args s 0 0 (fA Z sz)) (F0 m 397 ls []) := by
  intro S b0 x2 h H locs ls V hl
  refine lv_aload_n X.1.1 X.1.2.1 dX7_goes_397 rfl (lv_at hl 0 rfl) ?_
  obtain ⟨k91, h⟩ := h
  obtain ⟨o92, e93, h⟩ := h
  refine gf_X7_57 X V k91 e93 dX7_goes_398 ?_
  refine lv_aload_n X.1.1 X.1.2.1 dX7_goes_401 rfl (lv_at hl 0 rfl) ?_
  refine gf_X7_83 X V k91 dX7_goes_402 ?_
  refine lv_aload_n X.1.1 X.1.2.1 dX7_goes_405 rfl (lv_at hl 0 rfl) ?_
  refine gf_X7_112 X V k91 dX7_goes_406 ?_
  obtain ⟨k94, h⟩ := h
  obtain ⟨i95, h⟩ := h
  refine r_iast X V k94 i95 dX7_goes_409 (fun H locs V => ?_)
  refine lv_aload_n X.1.1 X.1.2.1 dX7_goes_410 rfl (lv_at hl 0 rfl) ?_
  obtain ⟨o96, e97, h⟩ := h
  refine gf_X7_60 X V k91 e97 dX7_goes_411 ?_
  refine lv_aload_n X.1.1 X.1.2.1 dX7_goes_414 rfl (lv_at hl 0 rfl) ?_
  refine gf_X7_83 X V k91 dX7_goes_415 ?_
  refine lv_iload_n X.1.1 X.1.2.1 dX7_goes_418 rfl (lv_at hl 1 rfl) ?_
  obtain ⟨k98, h⟩ := h
  obtain ⟨i99, h⟩ := h
  refine r_iast X V k98 i99 dX7_goes_419 (fun H locs V => ?_)
  refine lv_iconst (v := (0 : Int32)) X.1.1 X.1.2.1 dX7_goes_420 (by decide) ?_
  refine lv_istore (lv' := [(6, .int (0 : Int32)), (0, .ref b0), (2, .int x2)]) X.1.1 X.1.2.1 dX7_goes_421 hl (by decide) rfl (fun ls hl => ?_)
  obtain ⟨n9, h⟩ := h
  exact sl_X7_goes_423 l D ka sz Z post X hr n9 (sai (sai S o92 (fi S 47 b0).toNatClampNeg (fi S 50 b0)) o96 (fi (sai S o92 (fi S 47 b0).toNatClampNeg (fi S 50 b0)) 47 b0).toNatClampNeg x2) b0 (0 : Int32) h _ _ _ V (lv_sub hl [1, 0] rfl)
def wp_X7_goes_352a (post : Unit → HS → Prop) (S : HS) (b0 : Nat) (x1 : Int32) (x2 : Int32) : Prop := kd S b0 = 8 ∧ (∃ o80 : Nat, fr S 36 b0 = some o80 ∧ (kd S o80 / 32 = 1 ∧ (vp_in x1 (ln S o80) ∧ (vp_in x1 (ln S o80) ∧ (∃ o85 : Nat, fr (sai S o80 x1.toNatClampNeg ((ai S o80 x1.toNatClampNeg) + (1 : Int32))) 48 b0 = some o85 ∧ (kd (sai S o80 x1.toNatClampNeg ((ai S o80 x1.toNatClampNeg) + (1 : Int32))) o85 / 32 = 1 ∧ (vp_in (0 : Int32) (ln (sai S o80 x1.toNatClampNeg ((ai S o80 x1.toNatClampNeg) + (1 : Int32))) o85) ∧ (vp_in (0 : Int32) (ln (sai S o80 x1.toNatClampNeg ((ai S o80 x1.toNatClampNeg) + (1 : Int32))) o85) ∧ (((¬ (fi (sai (sai S o80 x1.toNatClampNeg ((ai S o80 x1.toNatClampNeg) + (1 : Int32))) o85 (0 : Int32).toNatClampNeg ((ai (sai S o80 x1.toNatClampNeg ((ai S o80 x1.toNatClampNeg) + (1 : Int32))) o85 (0 : Int32).toNatClampNeg) + (1 : Int32))) 47 b0) = (50 : Int32) → wp_X7_goes_397a post (sai (sai S o80 x1.toNatClampNeg ((ai S o80 x1.toNatClampNeg) + (1 : Int32))) o85 (0 : Int32).toNatClampNeg ((ai (sai S o80 x1.toNatClampNeg ((ai S o80 x1.toNatClampNeg) + (1 : Int32))) o85 (0 : Int32).toNatClampNeg) + (1 : Int32))) b0 x2) ∧ ((fi (sai (sai S o80 x1.toNatClampNeg ((ai S o80 x1.toNatClampNeg) + (1 : Int32))) o85 (0 : Int32).toNatClampNeg ((ai (sai S o80 x1.toNatClampNeg ((ai S o80 x1.toNatClampNeg) + (1 : Int32))) o85 (0 : Int32).toNatClampNeg) + (1 : Int32))) 47 b0) = (50 : Int32) → wp_X7_drop (fun _ S110 => ∃ o113 : Nat, fr S110 48 b0 = some o113 ∧ (kd S110 o113 / 32 = 1 ∧ (vp_in (10 : Int32) (ln S110 o113) ∧ (vp_in (10 : Int32) (ln S110 o113) ∧ (wp_X7_goes_397a post (sai S110 o113 (10 : Int32).toNatClampNeg ((ai S110 o113 (10 : Int32).toNatClampNeg) + (1 : Int32))) b0 x2))))) (sai (sai S o80 x1.toNatClampNeg ((ai S o80 x1.toNatClampNeg) + (1 : Int32))) o85 (0 : Int32).toNatClampNeg ((ai (sai S o80 x1.toNatClampNeg ((ai S o80 x1.toNatClampNeg) + (1 : Int32))) o85 (0 : Int32).toNatClampNeg) + (1 : Int32))) b0 (0 : Int32))))))))))))
set_option maxHeartbeats 400000 in
set_option maxRecDepth 100000 in
theorem sl_X7_goes_352a (l : Launch) (D : va_G) (ka : Nat → ClassId) (sz : Nat) (Z : HS) (post : Unit → HS → Prop) {p : Program} {e : Env} {s : State} {m : MethodId} {args : Array Value} {below : List Frame} {meth : Method} {c : Code} (X : Cx p s m meth c cX7_goes 7 RX7 D ka Z (fA Z sz)) (hr : meth.sig.returnType = none)  : ∀ (S : HS) (b0 : Nat) (x1 : Int32) (x2 : Int32), wp_X7_goes_352a post S b0 x1 x2 → ∀ (H : Heap) (locs : List Loc) (ls : Array Slot), Hv D ka Z s (fA Z sz) S H locs → lv_has ls 7 [(0, .ref b0), (1, .int x1), (2, .int x2)] → W p l e rm_X7_goes s m args below meth c H locs 0 0 (MQ below (Qx eV post D ka Z sz) args s 0 0 (fA Z sz)) (F0 m 352 ls []) := by
  intro S b0 x1 x2 h H locs ls V hl
  refine lv_aload_n X.1.1 X.1.2.1 dX7_goes_352 rfl (lv_at hl 0 rfl) ?_
  obtain ⟨k79, h⟩ := h
  obtain ⟨o80, e81, h⟩ := h
  refine gf_X7_32 X V k79 e81 dX7_goes_353 ?_
  refine lv_iload_n X.1.1 X.1.2.1 dX7_goes_356 rfl (lv_at hl 1 rfl) ?_
  refine lv_dup2_11 X.1.1 X.1.2.1 dX7_goes_357 rfl rfl ?_
  obtain ⟨k82, h⟩ := h
  obtain ⟨i83, h⟩ := h
  refine r_iald X V k82 i83 dX7_goes_358 ?_
  refine lv_iconst (v := (1 : Int32)) X.1.1 X.1.2.1 dX7_goes_359 (by decide) ?_
  refine lv_iadd X.1.1 X.1.2.1 dX7_goes_360 ?_
  obtain ⟨i84, h⟩ := h
  refine r_iast X V k82 i84 dX7_goes_361 (fun H locs V => ?_)
  refine lv_aload_n X.1.1 X.1.2.1 dX7_goes_362 rfl (lv_at hl 0 rfl) ?_
  obtain ⟨o85, e86, h⟩ := h
  refine gf_X7_63 X V k79 e86 dX7_goes_363 ?_
  refine lv_iconst (v := (0 : Int32)) X.1.1 X.1.2.1 dX7_goes_366 (by decide) ?_
  refine lv_dup2_11 X.1.1 X.1.2.1 dX7_goes_367 rfl rfl ?_
  obtain ⟨k87, h⟩ := h
  obtain ⟨i88, h⟩ := h
  refine r_iald X V k87 i88 dX7_goes_368 ?_
  refine lv_iconst (v := (1 : Int32)) X.1.1 X.1.2.1 dX7_goes_369 (by decide) ?_
  refine lv_iadd X.1.1 X.1.2.1 dX7_goes_370 ?_
  obtain ⟨i89, h⟩ := h
  refine r_iast X V k87 i89 dX7_goes_371 (fun H locs V => ?_)
  refine lv_aload_n X.1.1 X.1.2.1 dX7_goes_372 rfl (lv_at hl 0 rfl) ?_
  refine gf_X7_83 X V k79 dX7_goes_373 ?_
  refine lv_bipush (v := (50 : Int32)) X.1.1 X.1.2.1 dX7_goes_376 (by decide) ?_
  refine lv_icmp_ne (tgt := 397) X.1.1 X.1.2.1 dX7_goes_378 (by decide) (fun c90 => ?_) (fun c90 => ?_)
  · have h := h.1 c90
    exact sl_X7_goes_397a l D ka sz Z post X hr (sai (sai S o80 x1.toNatClampNeg ((ai S o80 x1.toNatClampNeg) + (1 : Int32))) o85 (0 : Int32).toNatClampNeg ((ai (sai S o80 x1.toNatClampNeg ((ai S o80 x1.toNatClampNeg) + (1 : Int32))) o85 (0 : Int32).toNatClampNeg) + (1 : Int32))) b0 x2 h _ _ _ V (lv_sub hl [0, 2] rfl)
  · have h := h.2 c90
    refine lv_aload_n X.1.1 X.1.2.1 dX7_goes_381 rfl (lv_at hl 0 rfl) ?_
    refine lv_iconst (v := (0 : Int32)) X.1.1 X.1.2.1 dX7_goes_382 (by decide) ?_
    refine r_callV (k := 8) (n := 1) (As := [.int (0 : Int32)]) X V (sd_X7_drop l D ka _ (sai (sai S o80 x1.toNatClampNeg ((ai S o80 x1.toNatClampNeg) + (1 : Int32))) o85 (0 : Int32).toNatClampNeg ((ai (sai S o80 x1.toNatClampNeg ((ai S o80 x1.toNatClampNeg) + (1 : Int32))) o85 (0 : Int32).toNatClampNeg) + (1 : Int32))) _ b0 (0 : Int32) h) k79 (by decide) (by decide) rfl wd_500 wd_501 wd_447 wd_502 wd_503 rfl rfl (by decide +kernel) ⟨Nat.le_of_ble_eq_true rfl, Nat.le_of_ble_eq_true rfl⟩ rfl hl.1 rfl (Nat.le_of_ble_eq_true rfl) dX7_goes_383 ⟨show 0 ≤ 0 by omega, show 0 ≤ 0 by omega⟩ (fun r111 S110 H locs h m112 V => ?_)
    have k79 := m112.k k79 (by decide)
    have k82 := m112.t k82 (by decide)
    have k87 := m112.t k87 (by decide)
    refine lv_aload_n X.1.1 X.1.2.1 dX7_goes_386 rfl (lv_at hl 0 rfl) ?_
    obtain ⟨o113, e114, h⟩ := h
    refine gf_X7_63 X V k79 e114 dX7_goes_387 ?_
    refine lv_bipush (v := (10 : Int32)) X.1.1 X.1.2.1 dX7_goes_390 (by decide) ?_
    refine lv_dup2_11 X.1.1 X.1.2.1 dX7_goes_392 rfl rfl ?_
    obtain ⟨k115, h⟩ := h
    obtain ⟨i116, h⟩ := h
    refine r_iald X V k115 i116 dX7_goes_393 ?_
    refine lv_iconst (v := (1 : Int32)) X.1.1 X.1.2.1 dX7_goes_394 (by decide) ?_
    refine lv_iadd X.1.1 X.1.2.1 dX7_goes_395 ?_
    obtain ⟨i117, h⟩ := h
    refine r_iast X V k115 i117 dX7_goes_396 (fun H locs V => ?_)
    exact sl_X7_goes_397a l D ka sz Z post X hr (sai S110 o113 (10 : Int32).toNatClampNeg ((ai S110 o113 (10 : Int32).toNatClampNeg) + (1 : Int32))) b0 x2 h _ _ _ V (lv_sub hl [0, 2] rfl)
def wp_X7_goes_275 : Nat → (Unit → HS → Prop) → HS → Nat → Int32 → Int32 → Int32 → Int32 → Prop
  | 0, _, _, _, _, _, _, _ => False
  | n + 1, post, S, b0, x1, x2, x4, x6 => kd S b0 = 8 ∧ ((((fi S 52 b0) ≤ x6 → wp_X7_set (fun _ S67 => ∃ o70 : Nat, fr S67 49 b0 = some o70 ∧ (wp_X7_sum (fun r73 S72 => wp_X7_set (fun _ S75 => ((¬ x4 = (2 : Int32) → wp_X7_goes_352a post S75 b0 x1 x2) ∧ (x4 = (2 : Int32) → ∃ o118 : Nat, fr S75 49 b0 = some o118 ∧ (wp_X7_sum (fun r121 S120 => wp_X7_set (fun _ S123 => wp_X7_goes_352a post S123 b0 x1 x2) S120 b0 (24 : Int32) r121) S75 o118 (20 : Int32) (fi S75 50 b0))))) S72 b0 (10 : Int32) r73) S67 o70 (0 : Int32) (20 : Int32))) S b0 (2 : Int32) (fi S 50 b0)) ∧ (¬ (fi S 52 b0) ≤ x6 → ∃ o126 : Nat, fr S 51 b0 = some o126 ∧ (kd S o126 / 32 = 2 ∧ (vp_in x6 (ln S o126) ∧ (wp_X7_put (fun _ S130 => wp_X7_goes_275 n post S130 b0 x1 x2 x4 (x6 + (1 : Int32))) S b0 (ai S o126 x6.toNatClampNeg) (1 : Int32)))))))
set_option maxHeartbeats 400000 in
set_option maxRecDepth 100000 in
theorem sl_X7_goes_275 (l : Launch) (D : va_G) (ka : Nat → ClassId) (sz : Nat) (Z : HS) (post : Unit → HS → Prop) {p : Program} {e : Env} {s : State} {m : MethodId} {args : Array Value} {below : List Frame} {meth : Method} {c : Code} (X : Cx p s m meth c cX7_goes 7 RX7 D ka Z (fA Z sz)) (hr : meth.sig.returnType = none)  : ∀ (n : Nat), ∀ (S : HS) (b0 : Nat) (x1 : Int32) (x2 : Int32) (x4 : Int32) (x6 : Int32), wp_X7_goes_275 n post S b0 x1 x2 x4 x6 → ∀ (H : Heap) (locs : List Loc) (ls : Array Slot), Hv D ka Z s (fA Z sz) S H locs → lv_has ls 7 [(0, .ref b0), (1, .int x1), (2, .int x2), (4, .int x4), (6, .int x6)] → W p l e rm_X7_goes s m args below meth c H locs 0 0 (MQ below (Qx eV post D ka Z sz) args s 0 0 (fA Z sz)) (F0 m 275 ls []) := by
  intro n
  induction n with
  | zero => intro S b0 x1 x2 x4 x6 h; exact h.elim
  | succ n ih =>
    intro S b0 x1 x2 x4 x6 h H locs ls V hl
    refine lv_iload X.1.1 X.1.2.1 dX7_goes_275 (lv_at hl 4 rfl) ?_
    refine lv_aload_n X.1.1 X.1.2.1 dX7_goes_277 rfl (lv_at hl 0 rfl) ?_
    obtain ⟨k65, h⟩ := h
    refine gf_X7_104 X V k65 dX7_goes_278 ?_
    refine lv_icmp_ge (tgt := 302) X.1.1 X.1.2.1 dX7_goes_281 (by decide) (fun c66 => ?_) (fun c66 => ?_)
    · have h := h.1 c66
      refine lv_aload_n X.1.1 X.1.2.1 dX7_goes_302 rfl (lv_at hl 0 rfl) ?_
      refine lv_iconst (v := (2 : Int32)) X.1.1 X.1.2.1 dX7_goes_303 (by decide) ?_
      refine lv_aload_n X.1.1 X.1.2.1 dX7_goes_304 rfl (lv_at hl 0 rfl) ?_
      refine gf_X7_112 X V k65 dX7_goes_305 ?_
      refine r_callV (k := 8) (n := 2) (As := [.int (2 : Int32), .int (fi S 50 b0)]) X V (sd_X7_set l D ka _ S _ b0 (2 : Int32) (fi S 50 b0) h) k65 (by decide) (by decide) rfl wd_493 wd_494 wd_447 wd_495 wd_496 rfl rfl (by decide +kernel) ⟨Nat.le_of_ble_eq_true rfl, Nat.le_of_ble_eq_true rfl⟩ rfl hl.1 rfl (Nat.le_of_ble_eq_true rfl) dX7_goes_308 ⟨show 0 ≤ 0 by omega, show 0 ≤ 0 by omega⟩ (fun r68 S67 H locs h m69 V => ?_)
      have k65 := m69.k k65 (by decide)
      refine lv_aload_n X.1.1 X.1.2.1 dX7_goes_311 rfl (lv_at hl 0 rfl) ?_
      refine lv_bipush (v := (10 : Int32)) X.1.1 X.1.2.1 dX7_goes_312 (by decide) ?_
      refine lv_aload_n X.1.1 X.1.2.1 dX7_goes_314 rfl (lv_at hl 0 rfl) ?_
      obtain ⟨o70, e71, h⟩ := h
      refine gf_X7_66 X V k65 e71 dX7_goes_315 ?_
      refine lv_iconst (v := (0 : Int32)) X.1.1 X.1.2.1 dX7_goes_318 (by decide) ?_
      refine lv_bipush (v := (20 : Int32)) X.1.1 X.1.2.1 dX7_goes_319 (by decide) ?_
      refine r_callS (n := 3) (As := [.ref o70, .int (0 : Int32), .int (20 : Int32)]) X V (sd_X7_sum l D ka _ S67 _ o70 (0 : Int32) (20 : Int32) h) wd_497 wd_498 wd_447 wd_499 rfl rfl (by decide +kernel) ⟨Nat.le_of_ble_eq_true rfl, Nat.le_of_ble_eq_true rfl⟩ rfl hl.1 rfl (Nat.le_of_ble_eq_true rfl) dX7_goes_321 ⟨show 0 ≤ 0 by omega, show 0 ≤ 0 by omega⟩ (fun r73 S72 H locs h m74 V => ?_)
      have k65 := m74.k k65 (by decide)
      refine r_callV (k := 8) (n := 2) (As := [.int (10 : Int32), .int r73]) X V (sd_X7_set l D ka _ S72 _ b0 (10 : Int32) r73 h) k65 (by decide) (by decide) rfl wd_493 wd_494 wd_447 wd_495 wd_496 rfl rfl (by decide +kernel) ⟨Nat.le_of_ble_eq_true rfl, Nat.le_of_ble_eq_true rfl⟩ rfl hl.1 rfl (Nat.le_of_ble_eq_true rfl) dX7_goes_324 ⟨show 0 ≤ 0 by omega, show 0 ≤ 0 by omega⟩ (fun r76 S75 H locs h m77 V => ?_)
      have k65 := m77.k k65 (by decide)
      refine lv_iload X.1.1 X.1.2.1 dX7_goes_327 (lv_at hl 3 rfl) ?_
      refine lv_iconst (v := (2 : Int32)) X.1.1 X.1.2.1 dX7_goes_329 (by decide) ?_
      refine lv_icmp_ne (tgt := 352) X.1.1 X.1.2.1 dX7_goes_330 (by decide) (fun c78 => ?_) (fun c78 => ?_)
      · have h := h.1 c78
        exact sl_X7_goes_352a l D ka sz Z post X hr S75 b0 x1 x2 h _ _ _ V (lv_sub hl [0, 1, 2] rfl)
      · have h := h.2 c78
        refine lv_aload_n X.1.1 X.1.2.1 dX7_goes_333 rfl (lv_at hl 0 rfl) ?_
        refine lv_bipush (v := (24 : Int32)) X.1.1 X.1.2.1 dX7_goes_334 (by decide) ?_
        refine lv_aload_n X.1.1 X.1.2.1 dX7_goes_336 rfl (lv_at hl 0 rfl) ?_
        obtain ⟨o118, e119, h⟩ := h
        refine gf_X7_66 X V k65 e119 dX7_goes_337 ?_
        refine lv_bipush (v := (20 : Int32)) X.1.1 X.1.2.1 dX7_goes_340 (by decide) ?_
        refine lv_aload_n X.1.1 X.1.2.1 dX7_goes_342 rfl (lv_at hl 0 rfl) ?_
        refine gf_X7_112 X V k65 dX7_goes_343 ?_
        refine r_callS (n := 3) (As := [.ref o118, .int (20 : Int32), .int (fi S75 50 b0)]) X V (sd_X7_sum l D ka _ S75 _ o118 (20 : Int32) (fi S75 50 b0) h) wd_497 wd_498 wd_447 wd_499 rfl rfl (by decide +kernel) ⟨Nat.le_of_ble_eq_true rfl, Nat.le_of_ble_eq_true rfl⟩ rfl hl.1 rfl (Nat.le_of_ble_eq_true rfl) dX7_goes_346 ⟨show 0 ≤ 0 by omega, show 0 ≤ 0 by omega⟩ (fun r121 S120 H locs h m122 V => ?_)
        have k65 := m122.k k65 (by decide)
        refine r_callV (k := 8) (n := 2) (As := [.int (24 : Int32), .int r121]) X V (sd_X7_set l D ka _ S120 _ b0 (24 : Int32) r121 h) k65 (by decide) (by decide) rfl wd_493 wd_494 wd_447 wd_495 wd_496 rfl rfl (by decide +kernel) ⟨Nat.le_of_ble_eq_true rfl, Nat.le_of_ble_eq_true rfl⟩ rfl hl.1 rfl (Nat.le_of_ble_eq_true rfl) dX7_goes_349 ⟨show 0 ≤ 0 by omega, show 0 ≤ 0 by omega⟩ (fun r124 S123 H locs h m125 V => ?_)
        have k65 := m125.k k65 (by decide)
        exact sl_X7_goes_352a l D ka sz Z post X hr S123 b0 x1 x2 h _ _ _ V (lv_sub hl [0, 1, 2] rfl)
    · have h := h.2 c66
      refine lv_aload_n X.1.1 X.1.2.1 dX7_goes_284 rfl (lv_at hl 0 rfl) ?_
      refine lv_aload_n X.1.1 X.1.2.1 dX7_goes_285 rfl (lv_at hl 0 rfl) ?_
      obtain ⟨o126, e127, h⟩ := h
      refine gf_X7_69 X V k65 e127 dX7_goes_286 ?_
      refine lv_iload X.1.1 X.1.2.1 dX7_goes_289 (lv_at hl 4 rfl) ?_
      obtain ⟨k128, h⟩ := h
      obtain ⟨i129, h⟩ := h
      refine r_bald X V k128 i129 dX7_goes_291 ?_
      refine lv_iconst (v := (1 : Int32)) X.1.1 X.1.2.1 dX7_goes_292 (by decide) ?_
      refine r_callV (k := 8) (n := 2) (As := [.int (ai S o126 x6.toNatClampNeg), .int (1 : Int32)]) X V (sd_X7_put l D ka _ S _ b0 (ai S o126 x6.toNatClampNeg) (1 : Int32) h) k65 (by decide) (by decide) rfl wd_487 wd_488 wd_447 wd_489 wd_490 rfl rfl (by decide +kernel) ⟨Nat.le_of_ble_eq_true rfl, Nat.le_of_ble_eq_true rfl⟩ rfl hl.1 rfl (Nat.le_of_ble_eq_true rfl) dX7_goes_293 ⟨show 0 ≤ 0 by omega, show 0 ≤ 0 by omega⟩ (fun r131 S130 H locs h m132 V => ?_)
      have k65 := m132.k k65 (by decide)
      have k128 := m132.t k128 (by decide)
      refine lv_iinc (v := (x6 + (1 : Int32))) (lv' := [(6, .int (x6 + (1 : Int32))), (0, .ref b0), (1, .int x1), (2, .int x2), (4, .int x4)]) X.1.1 X.1.2.1 dX7_goes_296 hl (k := 4) rfl (congrArg (HAdd.hAdd _) (by decide)) (by decide) rfl (fun ls hl => ?_)
      refine lv_goto (tgt := 275) X.1.1 X.1.2.1 dX7_goes_299 (by decide) ?_
      exact ih S130 b0 x1 x2 x4 (x6 + (1 : Int32)) h _ _ _ V (lv_sub hl [1, 2, 3, 4, 0] rfl)
def wp_X7_goes_235a (post : Unit → HS → Prop) (S : HS) (b0 : Nat) (x1 : Int32) (x2 : Int32) (x3 : Int32) (x4 : Int32) (x5 : Int32) (p0 : Int32) (d1 : Nat) : Prop := kd S d1 = 8 ∧ (wp_X7_put (fun _ S51 => kd S51 b0 = 8 ∧ (wp_X7_put (fun _ S55 => ((¬ x4 = (2 : Int32) → wp_X7_put (fun _ S59 => wp_X7_put (fun _ S62 => ∃ n9, wp_X7_goes_275 n9 post S62 b0 x1 x2 x4 (0 : Int32)) S59 b0 x5 (1 : Int32)) S55 b0 x3 (3 : Int32)) ∧ (x4 = (2 : Int32) → wp_X7_put (fun _ S133 => wp_X7_put (fun _ S136 => wp_X7_put (fun _ S139 => ∃ n9, wp_X7_goes_275 n9 post S139 b0 x1 x2 x4 (0 : Int32)) S136 b0 x5 (1 : Int32)) S133 b0 x3 (3 : Int32)) S55 b0 (0 : Int32) (4 : Int32)))) S51 b0 (25944 : Int32) (2 : Int32))) S d1 p0 (2 : Int32))
set_option maxHeartbeats 400000 in
set_option maxRecDepth 100000 in
theorem sl_X7_goes_235a (l : Launch) (D : va_G) (ka : Nat → ClassId) (sz : Nat) (Z : HS) (post : Unit → HS → Prop) {p : Program} {e : Env} {s : State} {m : MethodId} {args : Array Value} {below : List Frame} {meth : Method} {c : Code} (X : Cx p s m meth c cX7_goes 7 RX7 D ka Z (fA Z sz)) (hr : meth.sig.returnType = none)  : ∀ (S : HS) (b0 : Nat) (x1 : Int32) (x2 : Int32) (x3 : Int32) (x4 : Int32) (x5 : Int32) (p0 : Int32) (d1 : Nat), wp_X7_goes_235a post S b0 x1 x2 x3 x4 x5 p0 d1 → ∀ (H : Heap) (locs : List Loc) (ls : Array Slot), Hv D ka Z s (fA Z sz) S H locs → lv_has ls 7 [(0, .ref b0), (1, .int x1), (2, .int x2), (3, .int x3), (4, .int x4), (5, .int x5)] → W p l e rm_X7_goes s m args below meth c H locs 0 0 (MQ below (Qx eV post D ka Z sz) args s 0 0 (fA Z sz)) (F0 m 235 ls [.int p0, .ref d1]) := by
  intro S b0 x1 x2 x3 x4 x5 p0 d1 h H locs ls V hl
  refine lv_iconst (v := (2 : Int32)) X.1.1 X.1.2.1 dX7_goes_235 (by decide) ?_
  obtain ⟨k50, h⟩ := h
  refine r_callV (k := 8) (n := 2) (As := [.int p0, .int (2 : Int32)]) X V (sd_X7_put l D ka _ S _ d1 p0 (2 : Int32) h) k50 (by decide) (by decide) rfl wd_487 wd_488 wd_447 wd_489 wd_490 rfl rfl (by decide +kernel) ⟨Nat.le_of_ble_eq_true rfl, Nat.le_of_ble_eq_true rfl⟩ rfl hl.1 rfl (Nat.le_of_ble_eq_true rfl) dX7_goes_236 ⟨show 0 ≤ 0 by omega, show 0 ≤ 0 by omega⟩ (fun r52 S51 H locs h m53 V => ?_)
  have k50 := m53.k k50 (by decide)
  refine lv_aload_n X.1.1 X.1.2.1 dX7_goes_239 rfl (lv_at hl 0 rfl) ?_
  refine lv_sipush (v := (25944 : Int32)) X.1.1 X.1.2.1 dX7_goes_240 (by decide) ?_
  refine lv_iconst (v := (2 : Int32)) X.1.1 X.1.2.1 dX7_goes_243 (by decide) ?_
  obtain ⟨k54, h⟩ := h
  refine r_callV (k := 8) (n := 2) (As := [.int (25944 : Int32), .int (2 : Int32)]) X V (sd_X7_put l D ka _ S51 _ b0 (25944 : Int32) (2 : Int32) h) k54 (by decide) (by decide) rfl wd_487 wd_488 wd_447 wd_489 wd_490 rfl rfl (by decide +kernel) ⟨Nat.le_of_ble_eq_true rfl, Nat.le_of_ble_eq_true rfl⟩ rfl hl.1 rfl (Nat.le_of_ble_eq_true rfl) dX7_goes_244 ⟨show 0 ≤ 0 by omega, show 0 ≤ 0 by omega⟩ (fun r56 S55 H locs h m57 V => ?_)
  have k50 := m57.k k50 (by decide)
  have k54 := m57.k k54 (by decide)
  refine lv_iload X.1.1 X.1.2.1 dX7_goes_247 (lv_at hl 4 rfl) ?_
  refine lv_iconst (v := (2 : Int32)) X.1.1 X.1.2.1 dX7_goes_249 (by decide) ?_
  refine lv_icmp_ne (tgt := 259) X.1.1 X.1.2.1 dX7_goes_250 (by decide) (fun c58 => ?_) (fun c58 => ?_)
  · have h := h.1 c58
    refine lv_aload_n X.1.1 X.1.2.1 dX7_goes_259 rfl (lv_at hl 0 rfl) ?_
    refine lv_iload_n X.1.1 X.1.2.1 dX7_goes_260 rfl (lv_at hl 3 rfl) ?_
    refine lv_iconst (v := (3 : Int32)) X.1.1 X.1.2.1 dX7_goes_261 (by decide) ?_
    refine r_callV (k := 8) (n := 2) (As := [.int x3, .int (3 : Int32)]) X V (sd_X7_put l D ka _ S55 _ b0 x3 (3 : Int32) h) k54 (by decide) (by decide) rfl wd_487 wd_488 wd_447 wd_489 wd_490 rfl rfl (by decide +kernel) ⟨Nat.le_of_ble_eq_true rfl, Nat.le_of_ble_eq_true rfl⟩ rfl hl.1 rfl (Nat.le_of_ble_eq_true rfl) dX7_goes_262 ⟨show 0 ≤ 0 by omega, show 0 ≤ 0 by omega⟩ (fun r60 S59 H locs h m61 V => ?_)
    have k50 := m61.k k50 (by decide)
    have k54 := m61.k k54 (by decide)
    refine lv_aload_n X.1.1 X.1.2.1 dX7_goes_265 rfl (lv_at hl 0 rfl) ?_
    refine lv_iload X.1.1 X.1.2.1 dX7_goes_266 (lv_at hl 5 rfl) ?_
    refine lv_iconst (v := (1 : Int32)) X.1.1 X.1.2.1 dX7_goes_268 (by decide) ?_
    refine r_callV (k := 8) (n := 2) (As := [.int x5, .int (1 : Int32)]) X V (sd_X7_put l D ka _ S59 _ b0 x5 (1 : Int32) h) k54 (by decide) (by decide) rfl wd_487 wd_488 wd_447 wd_489 wd_490 rfl rfl (by decide +kernel) ⟨Nat.le_of_ble_eq_true rfl, Nat.le_of_ble_eq_true rfl⟩ rfl hl.1 rfl (Nat.le_of_ble_eq_true rfl) dX7_goes_269 ⟨show 0 ≤ 0 by omega, show 0 ≤ 0 by omega⟩ (fun r63 S62 H locs h m64 V => ?_)
    have k50 := m64.k k50 (by decide)
    have k54 := m64.k k54 (by decide)
    refine lv_iconst (v := (0 : Int32)) X.1.1 X.1.2.1 dX7_goes_272 (by decide) ?_
    refine lv_istore (lv' := [(6, .int (0 : Int32)), (0, .ref b0), (1, .int x1), (2, .int x2), (3, .int x3), (4, .int x4), (5, .int x5)]) X.1.1 X.1.2.1 dX7_goes_273 hl (by decide) rfl (fun ls hl => ?_)
    obtain ⟨n9, h⟩ := h
    exact sl_X7_goes_275 l D ka sz Z post X hr n9 S62 b0 x1 x2 x4 (0 : Int32) h _ _ _ V (lv_sub hl [1, 2, 3, 5, 0] rfl)
  · have h := h.2 c58
    refine lv_aload_n X.1.1 X.1.2.1 dX7_goes_253 rfl (lv_at hl 0 rfl) ?_
    refine lv_iconst (v := (0 : Int32)) X.1.1 X.1.2.1 dX7_goes_254 (by decide) ?_
    refine lv_iconst (v := (4 : Int32)) X.1.1 X.1.2.1 dX7_goes_255 (by decide) ?_
    refine r_callV (k := 8) (n := 2) (As := [.int (0 : Int32), .int (4 : Int32)]) X V (sd_X7_put l D ka _ S55 _ b0 (0 : Int32) (4 : Int32) h) k54 (by decide) (by decide) rfl wd_487 wd_488 wd_447 wd_489 wd_490 rfl rfl (by decide +kernel) ⟨Nat.le_of_ble_eq_true rfl, Nat.le_of_ble_eq_true rfl⟩ rfl hl.1 rfl (Nat.le_of_ble_eq_true rfl) dX7_goes_256 ⟨show 0 ≤ 0 by omega, show 0 ≤ 0 by omega⟩ (fun r134 S133 H locs h m135 V => ?_)
    have k50 := m135.k k50 (by decide)
    have k54 := m135.k k54 (by decide)
    refine lv_aload_n X.1.1 X.1.2.1 dX7_goes_259 rfl (lv_at hl 0 rfl) ?_
    refine lv_iload_n X.1.1 X.1.2.1 dX7_goes_260 rfl (lv_at hl 3 rfl) ?_
    refine lv_iconst (v := (3 : Int32)) X.1.1 X.1.2.1 dX7_goes_261 (by decide) ?_
    refine r_callV (k := 8) (n := 2) (As := [.int x3, .int (3 : Int32)]) X V (sd_X7_put l D ka _ S133 _ b0 x3 (3 : Int32) h) k54 (by decide) (by decide) rfl wd_487 wd_488 wd_447 wd_489 wd_490 rfl rfl (by decide +kernel) ⟨Nat.le_of_ble_eq_true rfl, Nat.le_of_ble_eq_true rfl⟩ rfl hl.1 rfl (Nat.le_of_ble_eq_true rfl) dX7_goes_262 ⟨show 0 ≤ 0 by omega, show 0 ≤ 0 by omega⟩ (fun r137 S136 H locs h m138 V => ?_)
    have k50 := m138.k k50 (by decide)
    have k54 := m138.k k54 (by decide)
    refine lv_aload_n X.1.1 X.1.2.1 dX7_goes_265 rfl (lv_at hl 0 rfl) ?_
    refine lv_iload X.1.1 X.1.2.1 dX7_goes_266 (lv_at hl 5 rfl) ?_
    refine lv_iconst (v := (1 : Int32)) X.1.1 X.1.2.1 dX7_goes_268 (by decide) ?_
    refine r_callV (k := 8) (n := 2) (As := [.int x5, .int (1 : Int32)]) X V (sd_X7_put l D ka _ S136 _ b0 x5 (1 : Int32) h) k54 (by decide) (by decide) rfl wd_487 wd_488 wd_447 wd_489 wd_490 rfl rfl (by decide +kernel) ⟨Nat.le_of_ble_eq_true rfl, Nat.le_of_ble_eq_true rfl⟩ rfl hl.1 rfl (Nat.le_of_ble_eq_true rfl) dX7_goes_269 ⟨show 0 ≤ 0 by omega, show 0 ≤ 0 by omega⟩ (fun r140 S139 H locs h m141 V => ?_)
    have k50 := m141.k k50 (by decide)
    have k54 := m141.k k54 (by decide)
    refine lv_iconst (v := (0 : Int32)) X.1.1 X.1.2.1 dX7_goes_272 (by decide) ?_
    refine lv_istore (lv' := [(6, .int (0 : Int32)), (0, .ref b0), (1, .int x1), (2, .int x2), (3, .int x3), (4, .int x4), (5, .int x5)]) X.1.1 X.1.2.1 dX7_goes_273 hl (by decide) rfl (fun ls hl => ?_)
    obtain ⟨n9, h⟩ := h
    exact sl_X7_goes_275 l D ka sz Z post X hr n9 S139 b0 x1 x2 x4 (0 : Int32) h _ _ _ V (lv_sub hl [1, 2, 3, 5, 0] rfl)
def wp_X7_goes_119a (post : Unit → HS → Prop) (S : HS) (b0 : Nat) (x1 : Int32) (x2 : Int32) (x3 : Int32) (x4 : Int32) (x5 : Int32) (p0 : Int32) (d1 : Nat) : Prop := kd S d1 = 8 ∧ (wp_X7_put (fun _ S35 => kd S35 b0 = 8 ∧ (wp_X7_put (fun _ S39 => wp_X7_put (fun _ S42 => wp_X7_put (fun _ S45 => ((¬ x4 = 0 → ((¬ x4 = (1 : Int32) → wp_X7_goes_235a post S45 b0 x1 x2 x3 x4 x5 (40960 : Int32) b0) ∧ (x4 = (1 : Int32) → wp_X7_goes_235a post S45 b0 x1 x2 x3 x4 x5 (8192 : Int32) b0))) ∧ (x4 = 0 → wp_X7_put (fun _ S142 => wp_X7_put (fun _ S145 => wp_X7_put (fun _ S148 => wp_X7_put (fun _ S151 => wp_X7_put (fun _ S154 => wp_X7_put (fun _ S157 => wp_X7_put (fun _ S160 => wp_X7_put (fun _ S163 => ∃ n9, wp_X7_goes_275 n9 post S163 b0 x1 x2 x4 (0 : Int32)) S160 b0 (0 : Int32) (1 : Int32)) S157 b0 x3 (3 : Int32)) S154 b0 (0 : Int32) (3 : Int32)) S151 b0 (8 : Int32) (1 : Int32)) S148 b0 (0 : Int32) (2 : Int32)) S145 b0 ((16 : Int32) + (fi S145 52 b0)) (2 : Int32)) S142 b0 (4789 : Int32) (2 : Int32)) S45 b0 ((49152 : Int32) + (x5 &&& (16383 : Int32))) (2 : Int32)))) S42 b0 ((167772161 : Int32) + x2) (4 : Int32)) S39 b0 ((167772161 : Int32) + x1) (4 : Int32)) S35 b0 (0 : Int32) (2 : Int32))) S d1 p0 (1 : Int32))
set_option maxHeartbeats 400000 in
set_option maxRecDepth 100000 in
theorem sl_X7_goes_119a (l : Launch) (D : va_G) (ka : Nat → ClassId) (sz : Nat) (Z : HS) (post : Unit → HS → Prop) {p : Program} {e : Env} {s : State} {m : MethodId} {args : Array Value} {below : List Frame} {meth : Method} {c : Code} (X : Cx p s m meth c cX7_goes 7 RX7 D ka Z (fA Z sz)) (hr : meth.sig.returnType = none)  : ∀ (S : HS) (b0 : Nat) (x1 : Int32) (x2 : Int32) (x3 : Int32) (x4 : Int32) (x5 : Int32) (p0 : Int32) (d1 : Nat), wp_X7_goes_119a post S b0 x1 x2 x3 x4 x5 p0 d1 → ∀ (H : Heap) (locs : List Loc) (ls : Array Slot), Hv D ka Z s (fA Z sz) S H locs → lv_has ls 7 [(0, .ref b0), (1, .int x1), (2, .int x2), (3, .int x3), (4, .int x4), (5, .int x5)] → W p l e rm_X7_goes s m args below meth c H locs 0 0 (MQ below (Qx eV post D ka Z sz) args s 0 0 (fA Z sz)) (F0 m 119 ls [.int p0, .ref d1]) := by
  intro S b0 x1 x2 x3 x4 x5 p0 d1 h H locs ls V hl
  refine lv_iconst (v := (1 : Int32)) X.1.1 X.1.2.1 dX7_goes_119 (by decide) ?_
  obtain ⟨k34, h⟩ := h
  refine r_callV (k := 8) (n := 2) (As := [.int p0, .int (1 : Int32)]) X V (sd_X7_put l D ka _ S _ d1 p0 (1 : Int32) h) k34 (by decide) (by decide) rfl wd_487 wd_488 wd_447 wd_489 wd_490 rfl rfl (by decide +kernel) ⟨Nat.le_of_ble_eq_true rfl, Nat.le_of_ble_eq_true rfl⟩ rfl hl.1 rfl (Nat.le_of_ble_eq_true rfl) dX7_goes_120 ⟨show 0 ≤ 0 by omega, show 0 ≤ 0 by omega⟩ (fun r36 S35 H locs h m37 V => ?_)
  have k34 := m37.k k34 (by decide)
  refine lv_aload_n X.1.1 X.1.2.1 dX7_goes_123 rfl (lv_at hl 0 rfl) ?_
  refine lv_iconst (v := (0 : Int32)) X.1.1 X.1.2.1 dX7_goes_124 (by decide) ?_
  refine lv_iconst (v := (2 : Int32)) X.1.1 X.1.2.1 dX7_goes_125 (by decide) ?_
  obtain ⟨k38, h⟩ := h
  refine r_callV (k := 8) (n := 2) (As := [.int (0 : Int32), .int (2 : Int32)]) X V (sd_X7_put l D ka _ S35 _ b0 (0 : Int32) (2 : Int32) h) k38 (by decide) (by decide) rfl wd_487 wd_488 wd_447 wd_489 wd_490 rfl rfl (by decide +kernel) ⟨Nat.le_of_ble_eq_true rfl, Nat.le_of_ble_eq_true rfl⟩ rfl hl.1 rfl (Nat.le_of_ble_eq_true rfl) dX7_goes_126 ⟨show 0 ≤ 0 by omega, show 0 ≤ 0 by omega⟩ (fun r40 S39 H locs h m41 V => ?_)
  have k34 := m41.k k34 (by decide)
  have k38 := m41.k k38 (by decide)
  refine lv_aload_n X.1.1 X.1.2.1 dX7_goes_129 rfl (lv_at hl 0 rfl) ?_
  refine lv_ldc (v := (167772161 : Int32)) X.1.1 X.1.2.1 X.1.2.2.2.1 (X.w wd_491 rfl _) dX7_goes_130 ?_
  refine lv_iload_n X.1.1 X.1.2.1 dX7_goes_132 rfl (lv_at hl 1 rfl) ?_
  refine lv_iadd X.1.1 X.1.2.1 dX7_goes_133 ?_
  refine lv_iconst (v := (4 : Int32)) X.1.1 X.1.2.1 dX7_goes_134 (by decide) ?_
  refine r_callV (k := 8) (n := 2) (As := [.int ((167772161 : Int32) + x1), .int (4 : Int32)]) X V (sd_X7_put l D ka _ S39 _ b0 ((167772161 : Int32) + x1) (4 : Int32) h) k38 (by decide) (by decide) rfl wd_487 wd_488 wd_447 wd_489 wd_490 rfl rfl (by decide +kernel) ⟨Nat.le_of_ble_eq_true rfl, Nat.le_of_ble_eq_true rfl⟩ rfl hl.1 rfl (Nat.le_of_ble_eq_true rfl) dX7_goes_135 ⟨show 0 ≤ 0 by omega, show 0 ≤ 0 by omega⟩ (fun r43 S42 H locs h m44 V => ?_)
  have k34 := m44.k k34 (by decide)
  have k38 := m44.k k38 (by decide)
  refine lv_aload_n X.1.1 X.1.2.1 dX7_goes_138 rfl (lv_at hl 0 rfl) ?_
  refine lv_ldc (v := (167772161 : Int32)) X.1.1 X.1.2.1 X.1.2.2.2.1 (X.w wd_491 rfl _) dX7_goes_139 ?_
  refine lv_iload_n X.1.1 X.1.2.1 dX7_goes_141 rfl (lv_at hl 2 rfl) ?_
  refine lv_iadd X.1.1 X.1.2.1 dX7_goes_142 ?_
  refine lv_iconst (v := (4 : Int32)) X.1.1 X.1.2.1 dX7_goes_143 (by decide) ?_
  refine r_callV (k := 8) (n := 2) (As := [.int ((167772161 : Int32) + x2), .int (4 : Int32)]) X V (sd_X7_put l D ka _ S42 _ b0 ((167772161 : Int32) + x2) (4 : Int32) h) k38 (by decide) (by decide) rfl wd_487 wd_488 wd_447 wd_489 wd_490 rfl rfl (by decide +kernel) ⟨Nat.le_of_ble_eq_true rfl, Nat.le_of_ble_eq_true rfl⟩ rfl hl.1 rfl (Nat.le_of_ble_eq_true rfl) dX7_goes_144 ⟨show 0 ≤ 0 by omega, show 0 ≤ 0 by omega⟩ (fun r46 S45 H locs h m47 V => ?_)
  have k34 := m47.k k34 (by decide)
  have k38 := m47.k k38 (by decide)
  refine lv_iload X.1.1 X.1.2.1 dX7_goes_147 (lv_at hl 4 rfl) ?_
  refine lv_if_ne (tgt := 220) X.1.1 X.1.2.1 dX7_goes_149 (by decide) (fun c48 => ?_) (fun c48 => ?_)
  · have h := h.1 c48
    refine lv_aload_n X.1.1 X.1.2.1 dX7_goes_220 rfl (lv_at hl 0 rfl) ?_
    refine lv_iload X.1.1 X.1.2.1 dX7_goes_221 (lv_at hl 4 rfl) ?_
    refine lv_iconst (v := (1 : Int32)) X.1.1 X.1.2.1 dX7_goes_223 (by decide) ?_
    refine lv_icmp_ne (tgt := 233) X.1.1 X.1.2.1 dX7_goes_224 (by decide) (fun c49 => ?_) (fun c49 => ?_)
    · have h := h.1 c49
      refine lv_ldc (v := (40960 : Int32)) X.1.1 X.1.2.1 X.1.2.2.2.1 (X.w wd_492 rfl _) dX7_goes_233 ?_
      exact sl_X7_goes_235a l D ka sz Z post X hr S45 b0 x1 x2 x3 x4 x5 (40960 : Int32) b0 h _ _ _ V (lv_sub hl [0, 1, 2, 3, 4, 5] rfl)
    · have h := h.2 c49
      refine lv_sipush (v := (8192 : Int32)) X.1.1 X.1.2.1 dX7_goes_227 (by decide) ?_
      refine lv_goto (tgt := 235) X.1.1 X.1.2.1 dX7_goes_230 (by decide) ?_
      exact sl_X7_goes_235a l D ka sz Z post X hr S45 b0 x1 x2 x3 x4 x5 (8192 : Int32) b0 h _ _ _ V (lv_sub hl [0, 1, 2, 3, 4, 5] rfl)
  · have h := h.2 c48
    refine lv_aload_n X.1.1 X.1.2.1 dX7_goes_152 rfl (lv_at hl 0 rfl) ?_
    refine lv_ldc (v := (49152 : Int32)) X.1.1 X.1.2.1 X.1.2.2.2.1 (X.w wd_504 rfl _) dX7_goes_153 ?_
    refine lv_iload X.1.1 X.1.2.1 dX7_goes_155 (lv_at hl 5 rfl) ?_
    refine lv_sipush (v := (16383 : Int32)) X.1.1 X.1.2.1 dX7_goes_157 (by decide) ?_
    refine lv_iand X.1.1 X.1.2.1 dX7_goes_160 ?_
    refine lv_iadd X.1.1 X.1.2.1 dX7_goes_161 ?_
    refine lv_iconst (v := (2 : Int32)) X.1.1 X.1.2.1 dX7_goes_162 (by decide) ?_
    refine r_callV (k := 8) (n := 2) (As := [.int ((49152 : Int32) + (x5 &&& (16383 : Int32))), .int (2 : Int32)]) X V (sd_X7_put l D ka _ S45 _ b0 ((49152 : Int32) + (x5 &&& (16383 : Int32))) (2 : Int32) h) k38 (by decide) (by decide) rfl wd_487 wd_488 wd_447 wd_489 wd_490 rfl rfl (by decide +kernel) ⟨Nat.le_of_ble_eq_true rfl, Nat.le_of_ble_eq_true rfl⟩ rfl hl.1 rfl (Nat.le_of_ble_eq_true rfl) dX7_goes_163 ⟨show 0 ≤ 0 by omega, show 0 ≤ 0 by omega⟩ (fun r143 S142 H locs h m144 V => ?_)
    have k34 := m144.k k34 (by decide)
    have k38 := m144.k k38 (by decide)
    refine lv_aload_n X.1.1 X.1.2.1 dX7_goes_166 rfl (lv_at hl 0 rfl) ?_
    refine lv_sipush (v := (4789 : Int32)) X.1.1 X.1.2.1 dX7_goes_167 (by decide) ?_
    refine lv_iconst (v := (2 : Int32)) X.1.1 X.1.2.1 dX7_goes_170 (by decide) ?_
    refine r_callV (k := 8) (n := 2) (As := [.int (4789 : Int32), .int (2 : Int32)]) X V (sd_X7_put l D ka _ S142 _ b0 (4789 : Int32) (2 : Int32) h) k38 (by decide) (by decide) rfl wd_487 wd_488 wd_447 wd_489 wd_490 rfl rfl (by decide +kernel) ⟨Nat.le_of_ble_eq_true rfl, Nat.le_of_ble_eq_true rfl⟩ rfl hl.1 rfl (Nat.le_of_ble_eq_true rfl) dX7_goes_171 ⟨show 0 ≤ 0 by omega, show 0 ≤ 0 by omega⟩ (fun r146 S145 H locs h m147 V => ?_)
    have k34 := m147.k k34 (by decide)
    have k38 := m147.k k38 (by decide)
    refine lv_aload_n X.1.1 X.1.2.1 dX7_goes_174 rfl (lv_at hl 0 rfl) ?_
    refine lv_bipush (v := (16 : Int32)) X.1.1 X.1.2.1 dX7_goes_175 (by decide) ?_
    refine lv_aload_n X.1.1 X.1.2.1 dX7_goes_177 rfl (lv_at hl 0 rfl) ?_
    refine gf_X7_104 X V k38 dX7_goes_178 ?_
    refine lv_iadd X.1.1 X.1.2.1 dX7_goes_181 ?_
    refine lv_iconst (v := (2 : Int32)) X.1.1 X.1.2.1 dX7_goes_182 (by decide) ?_
    refine r_callV (k := 8) (n := 2) (As := [.int ((16 : Int32) + (fi S145 52 b0)), .int (2 : Int32)]) X V (sd_X7_put l D ka _ S145 _ b0 ((16 : Int32) + (fi S145 52 b0)) (2 : Int32) h) k38 (by decide) (by decide) rfl wd_487 wd_488 wd_447 wd_489 wd_490 rfl rfl (by decide +kernel) ⟨Nat.le_of_ble_eq_true rfl, Nat.le_of_ble_eq_true rfl⟩ rfl hl.1 rfl (Nat.le_of_ble_eq_true rfl) dX7_goes_183 ⟨show 0 ≤ 0 by omega, show 0 ≤ 0 by omega⟩ (fun r149 S148 H locs h m150 V => ?_)
    have k34 := m150.k k34 (by decide)
    have k38 := m150.k k38 (by decide)
    refine lv_aload_n X.1.1 X.1.2.1 dX7_goes_186 rfl (lv_at hl 0 rfl) ?_
    refine lv_iconst (v := (0 : Int32)) X.1.1 X.1.2.1 dX7_goes_187 (by decide) ?_
    refine lv_iconst (v := (2 : Int32)) X.1.1 X.1.2.1 dX7_goes_188 (by decide) ?_
    refine r_callV (k := 8) (n := 2) (As := [.int (0 : Int32), .int (2 : Int32)]) X V (sd_X7_put l D ka _ S148 _ b0 (0 : Int32) (2 : Int32) h) k38 (by decide) (by decide) rfl wd_487 wd_488 wd_447 wd_489 wd_490 rfl rfl (by decide +kernel) ⟨Nat.le_of_ble_eq_true rfl, Nat.le_of_ble_eq_true rfl⟩ rfl hl.1 rfl (Nat.le_of_ble_eq_true rfl) dX7_goes_189 ⟨show 0 ≤ 0 by omega, show 0 ≤ 0 by omega⟩ (fun r152 S151 H locs h m153 V => ?_)
    have k34 := m153.k k34 (by decide)
    have k38 := m153.k k38 (by decide)
    refine lv_aload_n X.1.1 X.1.2.1 dX7_goes_192 rfl (lv_at hl 0 rfl) ?_
    refine lv_bipush (v := (8 : Int32)) X.1.1 X.1.2.1 dX7_goes_193 (by decide) ?_
    refine lv_iconst (v := (1 : Int32)) X.1.1 X.1.2.1 dX7_goes_195 (by decide) ?_
    refine r_callV (k := 8) (n := 2) (As := [.int (8 : Int32), .int (1 : Int32)]) X V (sd_X7_put l D ka _ S151 _ b0 (8 : Int32) (1 : Int32) h) k38 (by decide) (by decide) rfl wd_487 wd_488 wd_447 wd_489 wd_490 rfl rfl (by decide +kernel) ⟨Nat.le_of_ble_eq_true rfl, Nat.le_of_ble_eq_true rfl⟩ rfl hl.1 rfl (Nat.le_of_ble_eq_true rfl) dX7_goes_196 ⟨show 0 ≤ 0 by omega, show 0 ≤ 0 by omega⟩ (fun r155 S154 H locs h m156 V => ?_)
    have k34 := m156.k k34 (by decide)
    have k38 := m156.k k38 (by decide)
    refine lv_aload_n X.1.1 X.1.2.1 dX7_goes_199 rfl (lv_at hl 0 rfl) ?_
    refine lv_iconst (v := (0 : Int32)) X.1.1 X.1.2.1 dX7_goes_200 (by decide) ?_
    refine lv_iconst (v := (3 : Int32)) X.1.1 X.1.2.1 dX7_goes_201 (by decide) ?_
    refine r_callV (k := 8) (n := 2) (As := [.int (0 : Int32), .int (3 : Int32)]) X V (sd_X7_put l D ka _ S154 _ b0 (0 : Int32) (3 : Int32) h) k38 (by decide) (by decide) rfl wd_487 wd_488 wd_447 wd_489 wd_490 rfl rfl (by decide +kernel) ⟨Nat.le_of_ble_eq_true rfl, Nat.le_of_ble_eq_true rfl⟩ rfl hl.1 rfl (Nat.le_of_ble_eq_true rfl) dX7_goes_202 ⟨show 0 ≤ 0 by omega, show 0 ≤ 0 by omega⟩ (fun r158 S157 H locs h m159 V => ?_)
    have k34 := m159.k k34 (by decide)
    have k38 := m159.k k38 (by decide)
    refine lv_aload_n X.1.1 X.1.2.1 dX7_goes_205 rfl (lv_at hl 0 rfl) ?_
    refine lv_iload_n X.1.1 X.1.2.1 dX7_goes_206 rfl (lv_at hl 3 rfl) ?_
    refine lv_iconst (v := (3 : Int32)) X.1.1 X.1.2.1 dX7_goes_207 (by decide) ?_
    refine r_callV (k := 8) (n := 2) (As := [.int x3, .int (3 : Int32)]) X V (sd_X7_put l D ka _ S157 _ b0 x3 (3 : Int32) h) k38 (by decide) (by decide) rfl wd_487 wd_488 wd_447 wd_489 wd_490 rfl rfl (by decide +kernel) ⟨Nat.le_of_ble_eq_true rfl, Nat.le_of_ble_eq_true rfl⟩ rfl hl.1 rfl (Nat.le_of_ble_eq_true rfl) dX7_goes_208 ⟨show 0 ≤ 0 by omega, show 0 ≤ 0 by omega⟩ (fun r161 S160 H locs h m162 V => ?_)
    have k34 := m162.k k34 (by decide)
    have k38 := m162.k k38 (by decide)
    refine lv_aload_n X.1.1 X.1.2.1 dX7_goes_211 rfl (lv_at hl 0 rfl) ?_
    refine lv_iconst (v := (0 : Int32)) X.1.1 X.1.2.1 dX7_goes_212 (by decide) ?_
    refine lv_iconst (v := (1 : Int32)) X.1.1 X.1.2.1 dX7_goes_213 (by decide) ?_
    refine r_callV (k := 8) (n := 2) (As := [.int (0 : Int32), .int (1 : Int32)]) X V (sd_X7_put l D ka _ S160 _ b0 (0 : Int32) (1 : Int32) h) k38 (by decide) (by decide) rfl wd_487 wd_488 wd_447 wd_489 wd_490 rfl rfl (by decide +kernel) ⟨Nat.le_of_ble_eq_true rfl, Nat.le_of_ble_eq_true rfl⟩ rfl hl.1 rfl (Nat.le_of_ble_eq_true rfl) dX7_goes_214 ⟨show 0 ≤ 0 by omega, show 0 ≤ 0 by omega⟩ (fun r164 S163 H locs h m165 V => ?_)
    have k34 := m165.k k34 (by decide)
    have k38 := m165.k k38 (by decide)
    refine lv_goto (tgt := 272) X.1.1 X.1.2.1 dX7_goes_217 (by decide) ?_
    refine lv_iconst (v := (0 : Int32)) X.1.1 X.1.2.1 dX7_goes_272 (by decide) ?_
    refine lv_istore (lv' := [(6, .int (0 : Int32)), (0, .ref b0), (1, .int x1), (2, .int x2), (3, .int x3), (4, .int x4), (5, .int x5)]) X.1.1 X.1.2.1 dX7_goes_273 hl (by decide) rfl (fun ls hl => ?_)
    obtain ⟨n9, h⟩ := h
    exact sl_X7_goes_275 l D ka sz Z post X hr n9 S163 b0 x1 x2 x4 (0 : Int32) h _ _ _ V (lv_sub hl [1, 2, 3, 5, 0] rfl)
def wp_X7_goes_19 : Nat → (Unit → HS → Prop) → HS → Nat → Int32 → Int32 → Int32 → Int32 → Int32 → Int32 → Prop
  | 0, _, _, _, _, _, _, _, _, _ => False
  | n + 1, post, S, b0, x1, x2, x3, x4, x5, x6 => (((12 : Int32) ≤ x6 → kd S b0 = 8 ∧ (wp_X7_put (fun _ S8 => wp_X7_put (fun _ S11 => wp_X7_put (fun _ S14 => ∃ o17 : Nat, fr S14 36 b0 = some o17 ∧ (kd S14 o17 / 32 = 1 ∧ (vp_in x1 (ln S14 o17) ∧ (wp_X7_put (fun _ S21 => wp_X7_put (fun _ S24 => wp_X7_put (fun _ S27 => wp_X7_put (fun _ S30 => ((¬ x4 = 0 → wp_X7_goes_119a post S30 b0 x1 x2 x3 x4 x5 (47 : Int32) b0) ∧ (x4 = 0 → wp_X7_goes_119a post S30 b0 x1 x2 x3 x4 x5 (17 : Int32) b0))) S27 b0 (64 : Int32) (1 : Int32)) S24 b0 (0 : Int32) (1 : Int32)) S21 b0 (64 : Int32) (1 : Int32)) S14 b0 (ai S14 o17 x1.toNatClampNeg) (2 : Int32))))) S11 b0 (0 : Int32) (2 : Int32)) S8 b0 (0 : Int32) (1 : Int32)) (sfi S 50 b0 (0 : Int32)) b0 (69 : Int32) (1 : Int32))) ∧ (¬ (12 : Int32) ≤ x6 → kd S b0 = 8 ∧ (∃ o167 : Nat, fr S 51 b0 = some o167 ∧ (kd S o167 / 32 = 2 ∧ (vp_in x6 (ln S o167) ∧ (wp_X7_goes_19 n post S b0 x1 x2 x3 x4 (((31 : Int32) * x5) + ((ai S o167 x6.toNatClampNeg) &&& (255 : Int32))) (x6 + (1 : Int32))))))))
set_option maxHeartbeats 400000 in
set_option maxRecDepth 100000 in
theorem sl_X7_goes_19 (l : Launch) (D : va_G) (ka : Nat → ClassId) (sz : Nat) (Z : HS) (post : Unit → HS → Prop) {p : Program} {e : Env} {s : State} {m : MethodId} {args : Array Value} {below : List Frame} {meth : Method} {c : Code} (X : Cx p s m meth c cX7_goes 7 RX7 D ka Z (fA Z sz)) (hr : meth.sig.returnType = none)  : ∀ (n : Nat), ∀ (S : HS) (b0 : Nat) (x1 : Int32) (x2 : Int32) (x3 : Int32) (x4 : Int32) (x5 : Int32) (x6 : Int32), wp_X7_goes_19 n post S b0 x1 x2 x3 x4 x5 x6 → ∀ (H : Heap) (locs : List Loc) (ls : Array Slot), Hv D ka Z s (fA Z sz) S H locs → lv_has ls 7 [(0, .ref b0), (1, .int x1), (2, .int x2), (3, .int x3), (4, .int x4), (5, .int x5), (6, .int x6)] → W p l e rm_X7_goes s m args below meth c H locs 0 0 (MQ below (Qx eV post D ka Z sz) args s 0 0 (fA Z sz)) (F0 m 19 ls []) := by
  intro n
  induction n with
  | zero => intro S b0 x1 x2 x3 x4 x5 x6 h; exact h.elim
  | succ n ih =>
    intro S b0 x1 x2 x3 x4 x5 x6 h H locs ls V hl
    refine lv_iload X.1.1 X.1.2.1 dX7_goes_19 (lv_at hl 6 rfl) ?_
    refine lv_bipush (v := (12 : Int32)) X.1.1 X.1.2.1 dX7_goes_21 (by decide) ?_
    refine lv_icmp_ge (tgt := 51) X.1.1 X.1.2.1 dX7_goes_23 (by decide) (fun c6 => ?_) (fun c6 => ?_)
    · have h := h.1 c6
      refine lv_aload_n X.1.1 X.1.2.1 dX7_goes_51 rfl (lv_at hl 0 rfl) ?_
      refine lv_iconst (v := (0 : Int32)) X.1.1 X.1.2.1 dX7_goes_52 (by decide) ?_
      obtain ⟨k7, h⟩ := h
      refine pf_X7_112 X V k7 dX7_goes_53 (fun H locs V => ?_)
      refine lv_aload_n X.1.1 X.1.2.1 dX7_goes_56 rfl (lv_at hl 0 rfl) ?_
      refine lv_bipush (v := (69 : Int32)) X.1.1 X.1.2.1 dX7_goes_57 (by decide) ?_
      refine lv_iconst (v := (1 : Int32)) X.1.1 X.1.2.1 dX7_goes_59 (by decide) ?_
      refine r_callV (k := 8) (n := 2) (As := [.int (69 : Int32), .int (1 : Int32)]) X V (sd_X7_put l D ka _ (sfi S 50 b0 (0 : Int32)) _ b0 (69 : Int32) (1 : Int32) h) k7 (by decide) (by decide) rfl wd_487 wd_488 wd_447 wd_489 wd_490 rfl rfl (by decide +kernel) ⟨Nat.le_of_ble_eq_true rfl, Nat.le_of_ble_eq_true rfl⟩ rfl hl.1 rfl (Nat.le_of_ble_eq_true rfl) dX7_goes_60 ⟨show 0 ≤ 0 by omega, show 0 ≤ 0 by omega⟩ (fun r9 S8 H locs h m10 V => ?_)
      have k7 := m10.k k7 (by decide)
      refine lv_aload_n X.1.1 X.1.2.1 dX7_goes_63 rfl (lv_at hl 0 rfl) ?_
      refine lv_iconst (v := (0 : Int32)) X.1.1 X.1.2.1 dX7_goes_64 (by decide) ?_
      refine lv_iconst (v := (1 : Int32)) X.1.1 X.1.2.1 dX7_goes_65 (by decide) ?_
      refine r_callV (k := 8) (n := 2) (As := [.int (0 : Int32), .int (1 : Int32)]) X V (sd_X7_put l D ka _ S8 _ b0 (0 : Int32) (1 : Int32) h) k7 (by decide) (by decide) rfl wd_487 wd_488 wd_447 wd_489 wd_490 rfl rfl (by decide +kernel) ⟨Nat.le_of_ble_eq_true rfl, Nat.le_of_ble_eq_true rfl⟩ rfl hl.1 rfl (Nat.le_of_ble_eq_true rfl) dX7_goes_66 ⟨show 0 ≤ 0 by omega, show 0 ≤ 0 by omega⟩ (fun r12 S11 H locs h m13 V => ?_)
      have k7 := m13.k k7 (by decide)
      refine lv_aload_n X.1.1 X.1.2.1 dX7_goes_69 rfl (lv_at hl 0 rfl) ?_
      refine lv_iconst (v := (0 : Int32)) X.1.1 X.1.2.1 dX7_goes_70 (by decide) ?_
      refine lv_iconst (v := (2 : Int32)) X.1.1 X.1.2.1 dX7_goes_71 (by decide) ?_
      refine r_callV (k := 8) (n := 2) (As := [.int (0 : Int32), .int (2 : Int32)]) X V (sd_X7_put l D ka _ S11 _ b0 (0 : Int32) (2 : Int32) h) k7 (by decide) (by decide) rfl wd_487 wd_488 wd_447 wd_489 wd_490 rfl rfl (by decide +kernel) ⟨Nat.le_of_ble_eq_true rfl, Nat.le_of_ble_eq_true rfl⟩ rfl hl.1 rfl (Nat.le_of_ble_eq_true rfl) dX7_goes_72 ⟨show 0 ≤ 0 by omega, show 0 ≤ 0 by omega⟩ (fun r15 S14 H locs h m16 V => ?_)
      have k7 := m16.k k7 (by decide)
      refine lv_aload_n X.1.1 X.1.2.1 dX7_goes_75 rfl (lv_at hl 0 rfl) ?_
      refine lv_aload_n X.1.1 X.1.2.1 dX7_goes_76 rfl (lv_at hl 0 rfl) ?_
      obtain ⟨o17, e18, h⟩ := h
      refine gf_X7_32 X V k7 e18 dX7_goes_77 ?_
      refine lv_iload_n X.1.1 X.1.2.1 dX7_goes_80 rfl (lv_at hl 1 rfl) ?_
      obtain ⟨k19, h⟩ := h
      obtain ⟨i20, h⟩ := h
      refine r_iald X V k19 i20 dX7_goes_81 ?_
      refine lv_iconst (v := (2 : Int32)) X.1.1 X.1.2.1 dX7_goes_82 (by decide) ?_
      refine r_callV (k := 8) (n := 2) (As := [.int (ai S14 o17 x1.toNatClampNeg), .int (2 : Int32)]) X V (sd_X7_put l D ka _ S14 _ b0 (ai S14 o17 x1.toNatClampNeg) (2 : Int32) h) k7 (by decide) (by decide) rfl wd_487 wd_488 wd_447 wd_489 wd_490 rfl rfl (by decide +kernel) ⟨Nat.le_of_ble_eq_true rfl, Nat.le_of_ble_eq_true rfl⟩ rfl hl.1 rfl (Nat.le_of_ble_eq_true rfl) dX7_goes_83 ⟨show 0 ≤ 0 by omega, show 0 ≤ 0 by omega⟩ (fun r22 S21 H locs h m23 V => ?_)
      have k7 := m23.k k7 (by decide)
      have k19 := m23.t k19 (by decide)
      refine lv_aload_n X.1.1 X.1.2.1 dX7_goes_86 rfl (lv_at hl 0 rfl) ?_
      refine lv_bipush (v := (64 : Int32)) X.1.1 X.1.2.1 dX7_goes_87 (by decide) ?_
      refine lv_iconst (v := (1 : Int32)) X.1.1 X.1.2.1 dX7_goes_89 (by decide) ?_
      refine r_callV (k := 8) (n := 2) (As := [.int (64 : Int32), .int (1 : Int32)]) X V (sd_X7_put l D ka _ S21 _ b0 (64 : Int32) (1 : Int32) h) k7 (by decide) (by decide) rfl wd_487 wd_488 wd_447 wd_489 wd_490 rfl rfl (by decide +kernel) ⟨Nat.le_of_ble_eq_true rfl, Nat.le_of_ble_eq_true rfl⟩ rfl hl.1 rfl (Nat.le_of_ble_eq_true rfl) dX7_goes_90 ⟨show 0 ≤ 0 by omega, show 0 ≤ 0 by omega⟩ (fun r25 S24 H locs h m26 V => ?_)
      have k7 := m26.k k7 (by decide)
      have k19 := m26.t k19 (by decide)
      refine lv_aload_n X.1.1 X.1.2.1 dX7_goes_93 rfl (lv_at hl 0 rfl) ?_
      refine lv_iconst (v := (0 : Int32)) X.1.1 X.1.2.1 dX7_goes_94 (by decide) ?_
      refine lv_iconst (v := (1 : Int32)) X.1.1 X.1.2.1 dX7_goes_95 (by decide) ?_
      refine r_callV (k := 8) (n := 2) (As := [.int (0 : Int32), .int (1 : Int32)]) X V (sd_X7_put l D ka _ S24 _ b0 (0 : Int32) (1 : Int32) h) k7 (by decide) (by decide) rfl wd_487 wd_488 wd_447 wd_489 wd_490 rfl rfl (by decide +kernel) ⟨Nat.le_of_ble_eq_true rfl, Nat.le_of_ble_eq_true rfl⟩ rfl hl.1 rfl (Nat.le_of_ble_eq_true rfl) dX7_goes_96 ⟨show 0 ≤ 0 by omega, show 0 ≤ 0 by omega⟩ (fun r28 S27 H locs h m29 V => ?_)
      have k7 := m29.k k7 (by decide)
      have k19 := m29.t k19 (by decide)
      refine lv_aload_n X.1.1 X.1.2.1 dX7_goes_99 rfl (lv_at hl 0 rfl) ?_
      refine lv_bipush (v := (64 : Int32)) X.1.1 X.1.2.1 dX7_goes_100 (by decide) ?_
      refine lv_iconst (v := (1 : Int32)) X.1.1 X.1.2.1 dX7_goes_102 (by decide) ?_
      refine r_callV (k := 8) (n := 2) (As := [.int (64 : Int32), .int (1 : Int32)]) X V (sd_X7_put l D ka _ S27 _ b0 (64 : Int32) (1 : Int32) h) k7 (by decide) (by decide) rfl wd_487 wd_488 wd_447 wd_489 wd_490 rfl rfl (by decide +kernel) ⟨Nat.le_of_ble_eq_true rfl, Nat.le_of_ble_eq_true rfl⟩ rfl hl.1 rfl (Nat.le_of_ble_eq_true rfl) dX7_goes_103 ⟨show 0 ≤ 0 by omega, show 0 ≤ 0 by omega⟩ (fun r31 S30 H locs h m32 V => ?_)
      have k7 := m32.k k7 (by decide)
      have k19 := m32.t k19 (by decide)
      refine lv_aload_n X.1.1 X.1.2.1 dX7_goes_106 rfl (lv_at hl 0 rfl) ?_
      refine lv_iload X.1.1 X.1.2.1 dX7_goes_107 (lv_at hl 4 rfl) ?_
      refine lv_if_ne (tgt := 117) X.1.1 X.1.2.1 dX7_goes_109 (by decide) (fun c33 => ?_) (fun c33 => ?_)
      · have h := h.1 c33
        refine lv_bipush (v := (47 : Int32)) X.1.1 X.1.2.1 dX7_goes_117 (by decide) ?_
        exact sl_X7_goes_119a l D ka sz Z post X hr S30 b0 x1 x2 x3 x4 x5 (47 : Int32) b0 h _ _ _ V (lv_sub hl [0, 1, 2, 3, 4, 5] rfl)
      · have h := h.2 c33
        refine lv_bipush (v := (17 : Int32)) X.1.1 X.1.2.1 dX7_goes_112 (by decide) ?_
        refine lv_goto (tgt := 119) X.1.1 X.1.2.1 dX7_goes_114 (by decide) ?_
        exact sl_X7_goes_119a l D ka sz Z post X hr S30 b0 x1 x2 x3 x4 x5 (17 : Int32) b0 h _ _ _ V (lv_sub hl [0, 1, 2, 3, 4, 5] rfl)
    · have h := h.2 c6
      refine lv_bipush (v := (31 : Int32)) X.1.1 X.1.2.1 dX7_goes_26 (by decide) ?_
      refine lv_iload X.1.1 X.1.2.1 dX7_goes_28 (lv_at hl 5 rfl) ?_
      refine lv_imul X.1.1 X.1.2.1 dX7_goes_30 ?_
      refine lv_aload_n X.1.1 X.1.2.1 dX7_goes_31 rfl (lv_at hl 0 rfl) ?_
      obtain ⟨k166, h⟩ := h
      obtain ⟨o167, e168, h⟩ := h
      refine gf_X7_69 X V k166 e168 dX7_goes_32 ?_
      refine lv_iload X.1.1 X.1.2.1 dX7_goes_35 (lv_at hl 6 rfl) ?_
      obtain ⟨k169, h⟩ := h
      obtain ⟨i170, h⟩ := h
      refine r_bald X V k169 i170 dX7_goes_37 ?_
      refine lv_sipush (v := (255 : Int32)) X.1.1 X.1.2.1 dX7_goes_38 (by decide) ?_
      refine lv_iand X.1.1 X.1.2.1 dX7_goes_41 ?_
      refine lv_iadd X.1.1 X.1.2.1 dX7_goes_42 ?_
      refine lv_istore (lv' := [(5, .int (((31 : Int32) * x5) + ((ai S o167 x6.toNatClampNeg) &&& (255 : Int32)))), (0, .ref b0), (1, .int x1), (2, .int x2), (3, .int x3), (4, .int x4), (6, .int x6)]) X.1.1 X.1.2.1 dX7_goes_43 hl (by decide) rfl (fun ls hl => ?_)
      refine lv_iinc (v := (x6 + (1 : Int32))) (lv' := [(6, .int (x6 + (1 : Int32))), (5, .int (((31 : Int32) * x5) + ((ai S o167 x6.toNatClampNeg) &&& (255 : Int32)))), (0, .ref b0), (1, .int x1), (2, .int x2), (3, .int x3), (4, .int x4)]) X.1.1 X.1.2.1 dX7_goes_45 hl (k := 6) rfl (congrArg (HAdd.hAdd _) (by decide)) (by decide) rfl (fun ls hl => ?_)
      refine lv_goto (tgt := 19) X.1.1 X.1.2.1 dX7_goes_48 (by decide) ?_
      exact ih S b0 x1 x2 x3 x4 (((31 : Int32) * x5) + ((ai S o167 x6.toNatClampNeg) &&& (255 : Int32))) (x6 + (1 : Int32)) h _ _ _ V (lv_sub hl [2, 3, 4, 5, 6, 1, 0] rfl)
def wp_X7_goes (post : Unit → HS → Prop) (S : HS) (a0 : Nat) (v1 : Int32) (v2 : Int32) (v3 : Int32) : Prop := kd S a0 = 8 ∧ (∃ o2 : Nat, fr S 35 a0 = some o2 ∧ (kd S o2 / 32 = 1 ∧ (vp_in (((8 : Int32) * v1) + v2) (ln S o2) ∧ (∃ n9, wp_X7_goes_19 n9 post S a0 v1 v2 v3 (ai S o2 (((8 : Int32) * v1) + v2).toNatClampNeg) (0 : Int32) (0 : Int32)))))
set_option maxHeartbeats 400000 in
set_option maxRecDepth 100000 in
theorem sd_X7_goes (l : Launch) (D : va_G) (ka : Nat → ClassId) (sz : Nat) (Z : HS) (post : Unit → HS → Prop) (a0 : Nat) (v1 : Int32) (v2 : Int32) (v3 : Int32) (h : wp_X7_goes post Z a0 v1 v2 v3) : Met l yX7_goes [Cond.code yX7_goes cX7_goes 7 none] rm_X7_goes (Px D ka Z sz [.ref a0, .int v1, .int v2, .int v3]) (Qx eV post D ka Z sz) 0 0 (fA Z sz) := by
  refine Met.ofW (cc := cX7_goes) (maxL := 7) (ret := none) (by decide) rfl ?_
  intro p e s m args below meth c s₁ B hml hv
  obtain ⟨rfl, X, V, hsz⟩ := Cx.entry B hml hv
  have hr : meth.sig.returnType = none := B.returns
  have hl := lv_entry ([.ref a0, .int v1, .int v2, .int v3]) (n := 7) (Nat.le_of_ble_eq_true rfl)
  rw [lg_entry_eq]
  generalize (lg_sl ([.ref a0, .int v1, .int v2, .int v3]) ++ List.replicate (7 - (lg_sl ([.ref a0, .int v1, .int v2, .int v3])).length) Slot.unset).toArray = ls at hl ⊢
  have hl : lv_has ls 7 [(0, .ref a0), (1, .int v1), (2, .int v2), (3, .int v3)] := hl
  have h : wp_X7_goes post Z a0 v1 v2 v3 := h
  refine lv_aload_n X.1.1 X.1.2.1 dX7_goes_0 rfl (lv_at hl 0 rfl) ?_
  obtain ⟨k1, h⟩ := h
  obtain ⟨o2, e3, h⟩ := h
  refine gf_X7_29 X V k1 e3 dX7_goes_1 ?_
  refine lv_bipush (v := (8 : Int32)) X.1.1 X.1.2.1 dX7_goes_4 (by decide) ?_
  refine lv_iload_n X.1.1 X.1.2.1 dX7_goes_6 rfl (lv_at hl 1 rfl) ?_
  refine lv_imul X.1.1 X.1.2.1 dX7_goes_7 ?_
  refine lv_iload_n X.1.1 X.1.2.1 dX7_goes_8 rfl (lv_at hl 2 rfl) ?_
  refine lv_iadd X.1.1 X.1.2.1 dX7_goes_9 ?_
  obtain ⟨k4, h⟩ := h
  obtain ⟨i5, h⟩ := h
  refine r_iald X V k4 i5 dX7_goes_10 ?_
  refine lv_istore (lv' := [(4, .int (ai Z o2 (((8 : Int32) * v1) + v2).toNatClampNeg)), (0, .ref a0), (1, .int v1), (2, .int v2), (3, .int v3)]) X.1.1 X.1.2.1 dX7_goes_11 hl (by decide) rfl (fun ls hl => ?_)
  refine lv_iconst (v := (0 : Int32)) X.1.1 X.1.2.1 dX7_goes_13 (by decide) ?_
  refine lv_istore (lv' := [(5, .int (0 : Int32)), (4, .int (ai Z o2 (((8 : Int32) * v1) + v2).toNatClampNeg)), (0, .ref a0), (1, .int v1), (2, .int v2), (3, .int v3)]) X.1.1 X.1.2.1 dX7_goes_14 hl (by decide) rfl (fun ls hl => ?_)
  refine lv_iconst (v := (0 : Int32)) X.1.1 X.1.2.1 dX7_goes_16 (by decide) ?_
  refine lv_istore (lv' := [(6, .int (0 : Int32)), (5, .int (0 : Int32)), (4, .int (ai Z o2 (((8 : Int32) * v1) + v2).toNatClampNeg)), (0, .ref a0), (1, .int v1), (2, .int v2), (3, .int v3)]) X.1.1 X.1.2.1 dX7_goes_17 hl (by decide) rfl (fun ls hl => ?_)
  obtain ⟨n9, h⟩ := h
  exact sl_X7_goes_19 l D ka sz Z post X hr n9 Z a0 v1 v2 v3 (ai Z o2 (((8 : Int32) * v1) + v2).toNatClampNeg) (0 : Int32) (0 : Int32) h _ _ _ V (lv_sub hl [3, 4, 5, 6, 2, 1, 0] rfl)
abbrev rm_X7_numberAt : Room := { frames := 0, cells := 0, slots := 0, locals := 0 }
def wp_X7_numberAt_5 : Nat → (Int32 → HS → Prop) → HS → Nat → Int32 → Int32 → Int32 → Int32 → Prop
  | 0, _, _, _, _, _, _, _ => False
  | n + 1, post, S, b0, x1, x2, x3, x4 => (((x1 + x2) ≤ x4 → post x3 S) ∧ (¬ (x1 + x2) ≤ x4 → kd S b0 = 8 ∧ (∃ o3 : Nat, fr S 49 b0 = some o3 ∧ (kd S o3 / 32 = 2 ∧ (vp_in x4 (ln S o3) ∧ (wp_X7_numberAt_5 n post S b0 x1 x2 ((x3 <<< ((8 : Int32) &&& 31)) ||| ((ai S o3 x4.toNatClampNeg) &&& (255 : Int32))) (x4 + (1 : Int32))))))))
set_option maxHeartbeats 400000 in
set_option maxRecDepth 100000 in
theorem sl_X7_numberAt_5 (l : Launch) (D : va_G) (ka : Nat → ClassId) (sz : Nat) (Z : HS) (post : Int32 → HS → Prop) {p : Program} {e : Env} {s : State} {m : MethodId} {args : Array Value} {below : List Frame} {meth : Method} {c : Code} (X : Cx p s m meth c cX7_numberAt 5 RX7 D ka Z (fA Z sz)) (hr : meth.sig.returnType = (some .int))  : ∀ (n : Nat), ∀ (S : HS) (b0 : Nat) (x1 : Int32) (x2 : Int32) (x3 : Int32) (x4 : Int32), wp_X7_numberAt_5 n post S b0 x1 x2 x3 x4 → ∀ (H : Heap) (locs : List Loc) (ls : Array Slot), Hv D ka Z s (fA Z sz) S H locs → lv_has ls 5 [(0, .ref b0), (1, .int x1), (2, .int x2), (3, .int x3), (4, .int x4)] → W p l e rm_X7_numberAt s m args below meth c H locs 0 0 (MQ below (Qx eI post D ka Z sz) args s 0 0 (fA Z sz)) (F0 m 5 ls []) := by
  intro n
  induction n with
  | zero => intro S b0 x1 x2 x3 x4 h; exact h.elim
  | succ n ih =>
    intro S b0 x1 x2 x3 x4 h H locs ls V hl
    refine lv_iload X.1.1 X.1.2.1 dX7_numberAt_5 (lv_at hl 4 rfl) ?_
    refine lv_iload_n X.1.1 X.1.2.1 dX7_numberAt_7 rfl (lv_at hl 1 rfl) ?_
    refine lv_iload_n X.1.1 X.1.2.1 dX7_numberAt_8 rfl (lv_at hl 2 rfl) ?_
    refine lv_iadd X.1.1 X.1.2.1 dX7_numberAt_9 ?_
    refine lv_icmp_ge (tgt := 36) X.1.1 X.1.2.1 dX7_numberAt_10 (by decide) (fun c1 => ?_) (fun c1 => ?_)
    · have h := h.1 c1
      refine lv_iload_n X.1.1 X.1.2.1 dX7_numberAt_36 rfl (lv_at hl 3 rfl) ?_
      exact W.iret X.1.1 X.1.2.1 hr (fun t ht _ => V.q (r := x3) h ht) V.2.1.2.2 dX7_numberAt_37 X.1.2.2.2.2
    · have h := h.2 c1
      refine lv_iload_n X.1.1 X.1.2.1 dX7_numberAt_13 rfl (lv_at hl 3 rfl) ?_
      refine lv_bipush (v := (8 : Int32)) X.1.1 X.1.2.1 dX7_numberAt_14 (by decide) ?_
      refine lv_ishl X.1.1 X.1.2.1 dX7_numberAt_16 ?_
      refine lv_aload_n X.1.1 X.1.2.1 dX7_numberAt_17 rfl (lv_at hl 0 rfl) ?_
      obtain ⟨k2, h⟩ := h
      obtain ⟨o3, e4, h⟩ := h
      refine gf_X7_66 X V k2 e4 dX7_numberAt_18 ?_
      refine lv_iload X.1.1 X.1.2.1 dX7_numberAt_21 (lv_at hl 4 rfl) ?_
      obtain ⟨k5, h⟩ := h
      obtain ⟨i6, h⟩ := h
      refine r_bald X V k5 i6 dX7_numberAt_23 ?_
      refine lv_sipush (v := (255 : Int32)) X.1.1 X.1.2.1 dX7_numberAt_24 (by decide) ?_
      refine lv_iand X.1.1 X.1.2.1 dX7_numberAt_27 ?_
      refine lv_ior X.1.1 X.1.2.1 dX7_numberAt_28 ?_
      refine lv_istore_n (lv' := [(3, .int ((x3 <<< ((8 : Int32) &&& 31)) ||| ((ai S o3 x4.toNatClampNeg) &&& (255 : Int32)))), (0, .ref b0), (1, .int x1), (2, .int x2), (4, .int x4)]) X.1.1 X.1.2.1 dX7_numberAt_29 rfl hl (by decide) rfl (fun ls hl => ?_)
      refine lv_iinc (v := (x4 + (1 : Int32))) (lv' := [(4, .int (x4 + (1 : Int32))), (3, .int ((x3 <<< ((8 : Int32) &&& 31)) ||| ((ai S o3 x4.toNatClampNeg) &&& (255 : Int32)))), (0, .ref b0), (1, .int x1), (2, .int x2)]) X.1.1 X.1.2.1 dX7_numberAt_30 hl (k := 4) rfl (congrArg (HAdd.hAdd _) (by decide)) (by decide) rfl (fun ls hl => ?_)
      refine lv_goto (tgt := 5) X.1.1 X.1.2.1 dX7_numberAt_33 (by decide) ?_
      exact ih S b0 x1 x2 ((x3 <<< ((8 : Int32) &&& 31)) ||| ((ai S o3 x4.toNatClampNeg) &&& (255 : Int32))) (x4 + (1 : Int32)) h _ _ _ V (lv_sub hl [2, 3, 4, 1, 0] rfl)
def wp_X7_numberAt (post : Int32 → HS → Prop) (S : HS) (a0 : Nat) (v1 : Int32) (v2 : Int32) : Prop := ∃ n9, wp_X7_numberAt_5 n9 post S a0 v1 v2 (0 : Int32) v1
set_option maxHeartbeats 400000 in
set_option maxRecDepth 100000 in
theorem sd_X7_numberAt (l : Launch) (D : va_G) (ka : Nat → ClassId) (sz : Nat) (Z : HS) (post : Int32 → HS → Prop) (a0 : Nat) (v1 : Int32) (v2 : Int32) (h : wp_X7_numberAt post Z a0 v1 v2) : Met l yX7_numberAt [Cond.code yX7_numberAt cX7_numberAt 5 (some .int)] rm_X7_numberAt (Px D ka Z sz [.ref a0, .int v1, .int v2]) (Qx eI post D ka Z sz) 0 0 (fA Z sz) := by
  refine Met.ofW (cc := cX7_numberAt) (maxL := 5) (ret := (some .int)) (by decide) rfl ?_
  intro p e s m args below meth c s₁ B hml hv
  obtain ⟨rfl, X, V, hsz⟩ := Cx.entry B hml hv
  have hr : meth.sig.returnType = (some .int) := B.returns
  have hl := lv_entry ([.ref a0, .int v1, .int v2]) (n := 5) (Nat.le_of_ble_eq_true rfl)
  rw [lg_entry_eq]
  generalize (lg_sl ([.ref a0, .int v1, .int v2]) ++ List.replicate (5 - (lg_sl ([.ref a0, .int v1, .int v2])).length) Slot.unset).toArray = ls at hl ⊢
  have hl : lv_has ls 5 [(0, .ref a0), (1, .int v1), (2, .int v2)] := hl
  have h : wp_X7_numberAt post Z a0 v1 v2 := h
  refine lv_iconst (v := (0 : Int32)) X.1.1 X.1.2.1 dX7_numberAt_0 (by decide) ?_
  refine lv_istore_n (lv' := [(3, .int (0 : Int32)), (0, .ref a0), (1, .int v1), (2, .int v2)]) X.1.1 X.1.2.1 dX7_numberAt_1 rfl hl (by decide) rfl (fun ls hl => ?_)
  refine lv_iload_n X.1.1 X.1.2.1 dX7_numberAt_2 rfl (lv_at hl 2 rfl) ?_
  refine lv_istore (lv' := [(4, .int v1), (3, .int (0 : Int32)), (0, .ref a0), (1, .int v1), (2, .int v2)]) X.1.1 X.1.2.1 dX7_numberAt_3 hl (by decide) rfl (fun ls hl => ?_)
  obtain ⟨n9, h⟩ := h
  exact sl_X7_numberAt_5 l D ka sz Z post X hr n9 Z a0 v1 v2 (0 : Int32) v1 h _ _ _ V (lv_sub hl [2, 3, 4, 1, 0] rfl)
abbrev rm_X7_netPlace : Room := { frames := 1, cells := 0, slots := 0, locals := 24 }
def wp_X7_netPlace_145a (post : Int32 → HS → Prop) (S : HS) (b0 : Nat) (x1 : Int32) (x2 : Int32) : Prop := kd S b0 = 8 ∧ (wp_X7_numberAt (fun r20 S19 => ((r20 = (25944 : Int32) → ((x2 = 0 → post (24 : Int32) S19) ∧ (¬ x2 = 0 → ((x1 < (26 : Int32) → post (-1 : Int32) S19) ∧ (¬ x1 < (26 : Int32) → ∃ o25 : Nat, fr S19 49 b0 = some o25 ∧ (wp_X7_sum (fun r28 S27 => ((¬ r28 = 0 → post (-1 : Int32) S27) ∧ (r28 = 0 → post (28 : Int32) S27))) S19 o25 (20 : Int32) (fi S19 50 b0))))))) ∧ (¬ r20 = (25944 : Int32) → post (-1 : Int32) S19))) S b0 (22 : Int32) (2 : Int32))
set_option maxHeartbeats 400000 in
set_option maxRecDepth 100000 in
theorem sl_X7_netPlace_145a (l : Launch) (D : va_G) (ka : Nat → ClassId) (sz : Nat) (Z : HS) (post : Int32 → HS → Prop) {p : Program} {e : Env} {s : State} {m : MethodId} {args : Array Value} {below : List Frame} {meth : Method} {c : Code} (X : Cx p s m meth c cX7_netPlace 3 RX7 D ka Z (fA Z sz)) (hr : meth.sig.returnType = (some .int))  : ∀ (S : HS) (b0 : Nat) (x1 : Int32) (x2 : Int32), wp_X7_netPlace_145a post S b0 x1 x2 → ∀ (H : Heap) (locs : List Loc) (ls : Array Slot), Hv D ka Z s (fA Z sz) S H locs → lv_has ls 3 [(0, .ref b0), (1, .int x1), (2, .int x2)] → W p l e rm_X7_netPlace s m args below meth c H locs 0 0 (MQ below (Qx eI post D ka Z sz) args s 0 0 (fA Z sz)) (F0 m 145 ls []) := by
  intro S b0 x1 x2 h H locs ls V hl
  refine lv_aload_n X.1.1 X.1.2.1 dX7_netPlace_145 rfl (lv_at hl 0 rfl) ?_
  refine lv_bipush (v := (22 : Int32)) X.1.1 X.1.2.1 dX7_netPlace_146 (by decide) ?_
  refine lv_iconst (v := (2 : Int32)) X.1.1 X.1.2.1 dX7_netPlace_148 (by decide) ?_
  obtain ⟨k18, h⟩ := h
  refine r_callV (k := 8) (n := 2) (As := [.int (22 : Int32), .int (2 : Int32)]) X V (sd_X7_numberAt l D ka _ S _ b0 (22 : Int32) (2 : Int32) h) k18 (by decide) (by decide) rfl wd_505 wd_506 wd_447 wd_507 wd_508 rfl rfl (by decide +kernel) ⟨Nat.le_of_ble_eq_true rfl, Nat.le_of_ble_eq_true rfl⟩ rfl hl.1 rfl (Nat.le_of_ble_eq_true rfl) dX7_netPlace_149 ⟨show 0 ≤ 0 by omega, show 0 ≤ 0 by omega⟩ (fun r20 S19 H locs h m21 V => ?_)
  have k18 := m21.k k18 (by decide)
  refine lv_sipush (v := (25944 : Int32)) X.1.1 X.1.2.1 dX7_netPlace_152 (by decide) ?_
  refine lv_icmp_eq (tgt := 160) X.1.1 X.1.2.1 dX7_netPlace_155 (by decide) (fun c22 => ?_) (fun c22 => ?_)
  · have h := h.1 c22
    refine lv_iload_n X.1.1 X.1.2.1 dX7_netPlace_160 rfl (lv_at hl 2 rfl) ?_
    refine lv_if_eq (tgt := 193) X.1.1 X.1.2.1 dX7_netPlace_161 (by decide) (fun c23 => ?_) (fun c23 => ?_)
    · have h := h.1 c23
      refine lv_bipush (v := (24 : Int32)) X.1.1 X.1.2.1 dX7_netPlace_193 (by decide) ?_
      exact W.iret X.1.1 X.1.2.1 hr (fun t ht _ => V.q (r := (24 : Int32)) h ht) V.2.1.2.2 dX7_netPlace_195 X.1.2.2.2.2
    · have h := h.2 c23
      refine lv_iload_n X.1.1 X.1.2.1 dX7_netPlace_164 rfl (lv_at hl 1 rfl) ?_
      refine lv_bipush (v := (26 : Int32)) X.1.1 X.1.2.1 dX7_netPlace_165 (by decide) ?_
      refine lv_icmp_lt (tgt := 191) X.1.1 X.1.2.1 dX7_netPlace_167 (by decide) (fun c24 => ?_) (fun c24 => ?_)
      · have h := h.1 c24
        refine lv_iconst (v := (-1 : Int32)) X.1.1 X.1.2.1 dX7_netPlace_191 (by decide) ?_
        exact W.iret X.1.1 X.1.2.1 hr (fun t ht _ => V.q (r := (-1 : Int32)) h ht) V.2.1.2.2 dX7_netPlace_192 X.1.2.2.2.2
      · have h := h.2 c24
        refine lv_aload_n X.1.1 X.1.2.1 dX7_netPlace_170 rfl (lv_at hl 0 rfl) ?_
        obtain ⟨o25, e26, h⟩ := h
        refine gf_X7_66 X V k18 e26 dX7_netPlace_171 ?_
        refine lv_bipush (v := (20 : Int32)) X.1.1 X.1.2.1 dX7_netPlace_174 (by decide) ?_
        refine lv_aload_n X.1.1 X.1.2.1 dX7_netPlace_176 rfl (lv_at hl 0 rfl) ?_
        refine gf_X7_112 X V k18 dX7_netPlace_177 ?_
        refine r_callS (n := 3) (As := [.ref o25, .int (20 : Int32), .int (fi S19 50 b0)]) X V (sd_X7_sum l D ka _ S19 _ o25 (20 : Int32) (fi S19 50 b0) h) wd_497 wd_498 wd_447 wd_499 rfl rfl (by decide +kernel) ⟨Nat.le_of_ble_eq_true rfl, Nat.le_of_ble_eq_true rfl⟩ rfl hl.1 rfl (Nat.le_of_ble_eq_true rfl) dX7_netPlace_180 ⟨show 0 ≤ 0 by omega, show 0 ≤ 0 by omega⟩ (fun r28 S27 H locs h m29 V => ?_)
        have k18 := m29.k k18 (by decide)
        refine lv_if_ne (tgt := 191) X.1.1 X.1.2.1 dX7_netPlace_183 (by decide) (fun c30 => ?_) (fun c30 => ?_)
        · have h := h.1 c30
          refine lv_iconst (v := (-1 : Int32)) X.1.1 X.1.2.1 dX7_netPlace_191 (by decide) ?_
          exact W.iret X.1.1 X.1.2.1 hr (fun t ht _ => V.q (r := (-1 : Int32)) h ht) V.2.1.2.2 dX7_netPlace_192 X.1.2.2.2.2
        · have h := h.2 c30
          refine lv_bipush (v := (28 : Int32)) X.1.1 X.1.2.1 dX7_netPlace_186 (by decide) ?_
          refine lv_goto (tgt := 192) X.1.1 X.1.2.1 dX7_netPlace_188 (by decide) ?_
          exact W.iret X.1.1 X.1.2.1 hr (fun t ht _ => V.q (r := (28 : Int32)) h ht) V.2.1.2.2 dX7_netPlace_192 X.1.2.2.2.2
  · have h := h.2 c22
    refine lv_iconst (v := (-1 : Int32)) X.1.1 X.1.2.1 dX7_netPlace_158 (by decide) ?_
    exact W.iret X.1.1 X.1.2.1 hr (fun t ht _ => V.q (r := (-1 : Int32)) h ht) V.2.1.2.2 dX7_netPlace_159 X.1.2.2.2.2
def wp_X7_netPlace_127a (post : Int32 → HS → Prop) (S : HS) (b0 : Nat) (x1 : Int32) (p0 : Int32) : Prop := ((¬ p0 = 0 → wp_X7_netPlace_145a post S b0 x1 p0) ∧ (p0 = 0 → kd S b0 = 8 ∧ (wp_X7_numberAt (fun r33 S32 => ((¬ r33 = (8192 : Int32) → post (-1 : Int32) S32) ∧ (r33 = (8192 : Int32) → wp_X7_netPlace_145a post S32 b0 x1 p0))) S b0 (20 : Int32) (2 : Int32))))
set_option maxHeartbeats 400000 in
set_option maxRecDepth 100000 in
theorem sl_X7_netPlace_127a (l : Launch) (D : va_G) (ka : Nat → ClassId) (sz : Nat) (Z : HS) (post : Int32 → HS → Prop) {p : Program} {e : Env} {s : State} {m : MethodId} {args : Array Value} {below : List Frame} {meth : Method} {c : Code} (X : Cx p s m meth c cX7_netPlace 3 RX7 D ka Z (fA Z sz)) (hr : meth.sig.returnType = (some .int))  : ∀ (S : HS) (b0 : Nat) (x1 : Int32) (p0 : Int32), wp_X7_netPlace_127a post S b0 x1 p0 → ∀ (H : Heap) (locs : List Loc) (ls : Array Slot), Hv D ka Z s (fA Z sz) S H locs → lv_has ls 3 [(0, .ref b0), (1, .int x1)] → W p l e rm_X7_netPlace s m args below meth c H locs 0 0 (MQ below (Qx eI post D ka Z sz) args s 0 0 (fA Z sz)) (F0 m 127 ls [.int p0]) := by
  intro S b0 x1 p0 h H locs ls V hl
  refine lv_istore_n (lv' := [(2, .int p0), (0, .ref b0), (1, .int x1)]) X.1.1 X.1.2.1 dX7_netPlace_127 rfl hl (by decide) rfl (fun ls hl => ?_)
  refine lv_iload_n X.1.1 X.1.2.1 dX7_netPlace_128 rfl (lv_at hl 0 rfl) ?_
  refine lv_if_ne (tgt := 145) X.1.1 X.1.2.1 dX7_netPlace_129 (by decide) (fun c17 => ?_) (fun c17 => ?_)
  · have h := h.1 c17
    exact sl_X7_netPlace_145a l D ka sz Z post X hr S b0 x1 p0 h _ _ _ V (lv_sub hl [1, 2, 0] rfl)
  · have h := h.2 c17
    refine lv_aload_n X.1.1 X.1.2.1 dX7_netPlace_132 rfl (lv_at hl 1 rfl) ?_
    refine lv_bipush (v := (20 : Int32)) X.1.1 X.1.2.1 dX7_netPlace_133 (by decide) ?_
    refine lv_iconst (v := (2 : Int32)) X.1.1 X.1.2.1 dX7_netPlace_135 (by decide) ?_
    obtain ⟨k31, h⟩ := h
    refine r_callV (k := 8) (n := 2) (As := [.int (20 : Int32), .int (2 : Int32)]) X V (sd_X7_numberAt l D ka _ S _ b0 (20 : Int32) (2 : Int32) h) k31 (by decide) (by decide) rfl wd_505 wd_506 wd_447 wd_507 wd_508 rfl rfl (by decide +kernel) ⟨Nat.le_of_ble_eq_true rfl, Nat.le_of_ble_eq_true rfl⟩ rfl hl.1 rfl (Nat.le_of_ble_eq_true rfl) dX7_netPlace_136 ⟨show 0 ≤ 0 by omega, show 0 ≤ 0 by omega⟩ (fun r33 S32 H locs h m34 V => ?_)
    have k31 := m34.k k31 (by decide)
    refine lv_sipush (v := (8192 : Int32)) X.1.1 X.1.2.1 dX7_netPlace_139 (by decide) ?_
    refine lv_icmp_ne (tgt := 158) X.1.1 X.1.2.1 dX7_netPlace_142 (by decide) (fun c35 => ?_) (fun c35 => ?_)
    · have h := h.1 c35
      refine lv_iconst (v := (-1 : Int32)) X.1.1 X.1.2.1 dX7_netPlace_158 (by decide) ?_
      exact W.iret X.1.1 X.1.2.1 hr (fun t ht _ => V.q (r := (-1 : Int32)) h ht) V.2.1.2.2 dX7_netPlace_159 X.1.2.2.2.2
    · have h := h.2 c35
      exact sl_X7_netPlace_145a l D ka sz Z post X hr S32 b0 x1 p0 h _ _ _ V (lv_sub hl [1, 2, 0] rfl)
def wp_X7_netPlace (post : Int32 → HS → Prop) (S : HS) (a0 : Nat) : Prop := kd S a0 = 8 ∧ (∃ o2 : Nat, fr S 49 a0 = some o2 ∧ (kd S o2 / 32 = 2 ∧ (vp_in (9 : Int32) (ln S o2) ∧ (((¬ (ai S o2 (9 : Int32).toNatClampNeg) = (17 : Int32) → ∃ o7 : Nat, fr S 49 a0 = some o7 ∧ (kd S o7 / 32 = 2 ∧ (vp_in (9 : Int32) (ln S o7) ∧ (((¬ (ai S o7 (9 : Int32).toNatClampNeg) = (47 : Int32) → post (-1 : Int32) S) ∧ ((ai S o7 (9 : Int32).toNatClampNeg) = (47 : Int32) → (((22 : Int32) ≤ ((fi S 50 a0) - (20 : Int32)) → wp_X7_numberAt (fun r14 S13 => ((¬ r14 = (40960 : Int32) → wp_X7_netPlace_127a post S13 a0 ((fi S 50 a0) - (20 : Int32)) (0 : Int32)) ∧ (r14 = (40960 : Int32) → wp_X7_netPlace_127a post S13 a0 ((fi S 50 a0) - (20 : Int32)) (1 : Int32)))) S a0 (20 : Int32) (2 : Int32)) ∧ (¬ (22 : Int32) ≤ ((fi S 50 a0) - (20 : Int32)) → post (-1 : Int32) S)))))))) ∧ ((ai S o2 (9 : Int32).toNatClampNeg) = (17 : Int32) → ((((fi S 50 a0) - (20 : Int32)) < (30 : Int32) → (((0 : Int32) = 0 → post (-1 : Int32) S) ∧ (¬ (0 : Int32) = 0 → post (32 : Int32) S))) ∧ (¬ ((fi S 50 a0) - (20 : Int32)) < (30 : Int32) → wp_X7_numberAt (fun r39 S38 => ((¬ r39 = ((fi S 50 a0) - (20 : Int32)) → (((0 : Int32) = 0 → post (-1 : Int32) S38) ∧ (¬ (0 : Int32) = 0 → post (32 : Int32) S38))) ∧ (r39 = ((fi S 50 a0) - (20 : Int32)) → wp_X7_numberAt (fun r44 S43 => ((¬ r44 = (4789 : Int32) → (((0 : Int32) = 0 → post (-1 : Int32) S43) ∧ (¬ (0 : Int32) = 0 → post (32 : Int32) S43))) ∧ (r44 = (4789 : Int32) → wp_X7_numberAt (fun r49 S48 => ((¬ r49 = 0 → (((0 : Int32) = 0 → post (-1 : Int32) S48) ∧ (¬ (0 : Int32) = 0 → post (32 : Int32) S48))) ∧ (r49 = 0 → ∃ o53 : Nat, fr S48 49 a0 = some o53 ∧ (kd S48 o53 / 32 = 2 ∧ (vp_in (28 : Int32) (ln S48 o53) ∧ (((((ai S48 o53 (28 : Int32).toNatClampNeg) &&& (8 : Int32)) = 0 → (((0 : Int32) = 0 → post (-1 : Int32) S48) ∧ (¬ (0 : Int32) = 0 → post (32 : Int32) S48))) ∧ (¬ ((ai S48 o53 (28 : Int32).toNatClampNeg) &&& (8 : Int32)) = 0 → (((1 : Int32) = 0 → post (-1 : Int32) S48) ∧ (¬ (1 : Int32) = 0 → post (32 : Int32) S48)))))))))) S43 a0 (26 : Int32) (2 : Int32)))) S38 a0 (22 : Int32) (2 : Int32)))) S a0 (24 : Int32) (2 : Int32)))))))))
set_option maxHeartbeats 400000 in
set_option maxRecDepth 100000 in
theorem sd_X7_netPlace (l : Launch) (D : va_G) (ka : Nat → ClassId) (sz : Nat) (Z : HS) (post : Int32 → HS → Prop) (a0 : Nat) (h : wp_X7_netPlace post Z a0) : Met l yX7_netPlace [Cond.code yX7_netPlace cX7_netPlace 3 (some .int)] rm_X7_netPlace (Px D ka Z sz [.ref a0]) (Qx eI post D ka Z sz) 0 0 (fA Z sz) := by
  refine Met.ofW (cc := cX7_netPlace) (maxL := 3) (ret := (some .int)) (by decide) rfl ?_
  intro p e s m args below meth c s₁ B hml hv
  obtain ⟨rfl, X, V, hsz⟩ := Cx.entry B hml hv
  have hr : meth.sig.returnType = (some .int) := B.returns
  have hl := lv_entry ([.ref a0]) (n := 3) (Nat.le_of_ble_eq_true rfl)
  rw [lg_entry_eq]
  generalize (lg_sl ([.ref a0]) ++ List.replicate (3 - (lg_sl ([.ref a0])).length) Slot.unset).toArray = ls at hl ⊢
  have hl : lv_has ls 3 [(0, .ref a0)] := hl
  have h : wp_X7_netPlace post Z a0 := h
  refine lv_aload_n X.1.1 X.1.2.1 dX7_netPlace_0 rfl (lv_at hl 0 rfl) ?_
  obtain ⟨k1, h⟩ := h
  refine gf_X7_112 X V k1 dX7_netPlace_1 ?_
  refine lv_bipush (v := (20 : Int32)) X.1.1 X.1.2.1 dX7_netPlace_4 (by decide) ?_
  refine lv_isub X.1.1 X.1.2.1 dX7_netPlace_6 ?_
  refine lv_istore_n (lv' := [(1, .int ((fi Z 50 a0) - (20 : Int32))), (0, .ref a0)]) X.1.1 X.1.2.1 dX7_netPlace_7 rfl hl (by decide) rfl (fun ls hl => ?_)
  refine lv_aload_n X.1.1 X.1.2.1 dX7_netPlace_8 rfl (lv_at hl 1 rfl) ?_
  obtain ⟨o2, e3, h⟩ := h
  refine gf_X7_66 X V k1 e3 dX7_netPlace_9 ?_
  refine lv_bipush (v := (9 : Int32)) X.1.1 X.1.2.1 dX7_netPlace_12 (by decide) ?_
  obtain ⟨k4, h⟩ := h
  obtain ⟨i5, h⟩ := h
  refine r_bald X V k4 i5 dX7_netPlace_14 ?_
  refine lv_bipush (v := (17 : Int32)) X.1.1 X.1.2.1 dX7_netPlace_15 (by decide) ?_
  refine lv_icmp_ne (tgt := 90) X.1.1 X.1.2.1 dX7_netPlace_17 (by decide) (fun c6 => ?_) (fun c6 => ?_)
  · have h := h.1 c6
    refine lv_aload_n X.1.1 X.1.2.1 dX7_netPlace_90 rfl (lv_at hl 1 rfl) ?_
    obtain ⟨o7, e8, h⟩ := h
    refine gf_X7_66 X V k1 e8 dX7_netPlace_91 ?_
    refine lv_bipush (v := (9 : Int32)) X.1.1 X.1.2.1 dX7_netPlace_94 (by decide) ?_
    obtain ⟨k9, h⟩ := h
    obtain ⟨i10, h⟩ := h
    refine r_bald X V k9 i10 dX7_netPlace_96 ?_
    refine lv_bipush (v := (47 : Int32)) X.1.1 X.1.2.1 dX7_netPlace_97 (by decide) ?_
    refine lv_icmp_ne (tgt := 108) X.1.1 X.1.2.1 dX7_netPlace_99 (by decide) (fun c11 => ?_) (fun c11 => ?_)
    · have h := h.1 c11
      refine lv_iconst (v := (-1 : Int32)) X.1.1 X.1.2.1 dX7_netPlace_108 (by decide) ?_
      exact W.iret X.1.1 X.1.2.1 hr (fun t ht _ => V.q (r := (-1 : Int32)) h ht) V.2.1.2.2 dX7_netPlace_109 X.1.2.2.2.2
    · have h := h.2 c11
      refine lv_iload_n X.1.1 X.1.2.1 dX7_netPlace_102 rfl (lv_at hl 0 rfl) ?_
      refine lv_bipush (v := (22 : Int32)) X.1.1 X.1.2.1 dX7_netPlace_103 (by decide) ?_
      refine lv_icmp_ge (tgt := 110) X.1.1 X.1.2.1 dX7_netPlace_105 (by decide) (fun c12 => ?_) (fun c12 => ?_)
      · have h := h.1 c12
        refine lv_aload_n X.1.1 X.1.2.1 dX7_netPlace_110 rfl (lv_at hl 1 rfl) ?_
        refine lv_bipush (v := (20 : Int32)) X.1.1 X.1.2.1 dX7_netPlace_111 (by decide) ?_
        refine lv_iconst (v := (2 : Int32)) X.1.1 X.1.2.1 dX7_netPlace_113 (by decide) ?_
        refine r_callV (k := 8) (n := 2) (As := [.int (20 : Int32), .int (2 : Int32)]) X V (sd_X7_numberAt l D ka _ Z _ a0 (20 : Int32) (2 : Int32) h) k1 (by decide) (by decide) rfl wd_505 wd_506 wd_447 wd_507 wd_508 rfl rfl (by decide +kernel) ⟨Nat.le_of_ble_eq_true rfl, Nat.le_of_ble_eq_true rfl⟩ rfl hl.1 rfl (Nat.le_of_ble_eq_true rfl) dX7_netPlace_114 ⟨show 0 ≤ 0 by omega, show 0 ≤ 0 by omega⟩ (fun r14 S13 H locs h m15 V => ?_)
        have k1 := m15.k k1 (by decide)
        have k4 := m15.t k4 (by decide)
        have k9 := m15.t k9 (by decide)
        refine lv_ldc (v := (40960 : Int32)) X.1.1 X.1.2.1 X.1.2.2.2.1 (X.w wd_492 rfl _) dX7_netPlace_117 ?_
        refine lv_icmp_ne (tgt := 126) X.1.1 X.1.2.1 dX7_netPlace_119 (by decide) (fun c16 => ?_) (fun c16 => ?_)
        · have h := h.1 c16
          refine lv_iconst (v := (0 : Int32)) X.1.1 X.1.2.1 dX7_netPlace_126 (by decide) ?_
          exact sl_X7_netPlace_127a l D ka sz Z post X hr S13 a0 ((fi Z 50 a0) - (20 : Int32)) (0 : Int32) h _ _ _ V (lv_sub hl [1, 0] rfl)
        · have h := h.2 c16
          refine lv_iconst (v := (1 : Int32)) X.1.1 X.1.2.1 dX7_netPlace_122 (by decide) ?_
          refine lv_goto (tgt := 127) X.1.1 X.1.2.1 dX7_netPlace_123 (by decide) ?_
          exact sl_X7_netPlace_127a l D ka sz Z post X hr S13 a0 ((fi Z 50 a0) - (20 : Int32)) (1 : Int32) h _ _ _ V (lv_sub hl [1, 0] rfl)
      · have h := h.2 c12
        refine lv_iconst (v := (-1 : Int32)) X.1.1 X.1.2.1 dX7_netPlace_108 (by decide) ?_
        exact W.iret X.1.1 X.1.2.1 hr (fun t ht _ => V.q (r := (-1 : Int32)) h ht) V.2.1.2.2 dX7_netPlace_109 X.1.2.2.2.2
  · have h := h.2 c6
    refine lv_iload_n X.1.1 X.1.2.1 dX7_netPlace_20 rfl (lv_at hl 0 rfl) ?_
    refine lv_bipush (v := (30 : Int32)) X.1.1 X.1.2.1 dX7_netPlace_21 (by decide) ?_
    refine lv_icmp_lt (tgt := 77) X.1.1 X.1.2.1 dX7_netPlace_23 (by decide) (fun c36 => ?_) (fun c36 => ?_)
    · have h := h.1 c36
      refine lv_iconst (v := (0 : Int32)) X.1.1 X.1.2.1 dX7_netPlace_77 (by decide) ?_
      refine lv_istore_n (lv' := [(2, .int (0 : Int32)), (1, .int ((fi Z 50 a0) - (20 : Int32))), (0, .ref a0)]) X.1.1 X.1.2.1 dX7_netPlace_78 rfl hl (by decide) rfl (fun ls hl => ?_)
      refine lv_iload_n X.1.1 X.1.2.1 dX7_netPlace_79 rfl (lv_at hl 0 rfl) ?_
      refine lv_if_eq (tgt := 88) X.1.1 X.1.2.1 dX7_netPlace_80 (by decide) (fun c37 => ?_) (fun c37 => ?_)
      · have h := h.1 c37
        refine lv_iconst (v := (-1 : Int32)) X.1.1 X.1.2.1 dX7_netPlace_88 (by decide) ?_
        exact W.iret X.1.1 X.1.2.1 hr (fun t ht _ => V.q (r := (-1 : Int32)) h ht) V.2.1.2.2 dX7_netPlace_89 X.1.2.2.2.2
      · have h := h.2 c37
        refine lv_bipush (v := (32 : Int32)) X.1.1 X.1.2.1 dX7_netPlace_83 (by decide) ?_
        refine lv_goto (tgt := 89) X.1.1 X.1.2.1 dX7_netPlace_85 (by decide) ?_
        exact W.iret X.1.1 X.1.2.1 hr (fun t ht _ => V.q (r := (32 : Int32)) h ht) V.2.1.2.2 dX7_netPlace_89 X.1.2.2.2.2
    · have h := h.2 c36
      refine lv_aload_n X.1.1 X.1.2.1 dX7_netPlace_26 rfl (lv_at hl 1 rfl) ?_
      refine lv_bipush (v := (24 : Int32)) X.1.1 X.1.2.1 dX7_netPlace_27 (by decide) ?_
      refine lv_iconst (v := (2 : Int32)) X.1.1 X.1.2.1 dX7_netPlace_29 (by decide) ?_
      refine r_callV (k := 8) (n := 2) (As := [.int (24 : Int32), .int (2 : Int32)]) X V (sd_X7_numberAt l D ka _ Z _ a0 (24 : Int32) (2 : Int32) h) k1 (by decide) (by decide) rfl wd_505 wd_506 wd_447 wd_507 wd_508 rfl rfl (by decide +kernel) ⟨Nat.le_of_ble_eq_true rfl, Nat.le_of_ble_eq_true rfl⟩ rfl hl.1 rfl (Nat.le_of_ble_eq_true rfl) dX7_netPlace_30 ⟨show 0 ≤ 0 by omega, show 0 ≤ 0 by omega⟩ (fun r39 S38 H locs h m40 V => ?_)
      have k1 := m40.k k1 (by decide)
      have k4 := m40.t k4 (by decide)
      refine lv_iload_n X.1.1 X.1.2.1 dX7_netPlace_33 rfl (lv_at hl 0 rfl) ?_
      refine lv_icmp_ne (tgt := 77) X.1.1 X.1.2.1 dX7_netPlace_34 (by decide) (fun c41 => ?_) (fun c41 => ?_)
      · have h := h.1 c41
        refine lv_iconst (v := (0 : Int32)) X.1.1 X.1.2.1 dX7_netPlace_77 (by decide) ?_
        refine lv_istore_n (lv' := [(2, .int (0 : Int32)), (1, .int ((fi Z 50 a0) - (20 : Int32))), (0, .ref a0)]) X.1.1 X.1.2.1 dX7_netPlace_78 rfl hl (by decide) rfl (fun ls hl => ?_)
        refine lv_iload_n X.1.1 X.1.2.1 dX7_netPlace_79 rfl (lv_at hl 0 rfl) ?_
        refine lv_if_eq (tgt := 88) X.1.1 X.1.2.1 dX7_netPlace_80 (by decide) (fun c42 => ?_) (fun c42 => ?_)
        · have h := h.1 c42
          refine lv_iconst (v := (-1 : Int32)) X.1.1 X.1.2.1 dX7_netPlace_88 (by decide) ?_
          exact W.iret X.1.1 X.1.2.1 hr (fun t ht _ => V.q (r := (-1 : Int32)) h ht) V.2.1.2.2 dX7_netPlace_89 X.1.2.2.2.2
        · have h := h.2 c42
          refine lv_bipush (v := (32 : Int32)) X.1.1 X.1.2.1 dX7_netPlace_83 (by decide) ?_
          refine lv_goto (tgt := 89) X.1.1 X.1.2.1 dX7_netPlace_85 (by decide) ?_
          exact W.iret X.1.1 X.1.2.1 hr (fun t ht _ => V.q (r := (32 : Int32)) h ht) V.2.1.2.2 dX7_netPlace_89 X.1.2.2.2.2
      · have h := h.2 c41
        refine lv_aload_n X.1.1 X.1.2.1 dX7_netPlace_37 rfl (lv_at hl 1 rfl) ?_
        refine lv_bipush (v := (22 : Int32)) X.1.1 X.1.2.1 dX7_netPlace_38 (by decide) ?_
        refine lv_iconst (v := (2 : Int32)) X.1.1 X.1.2.1 dX7_netPlace_40 (by decide) ?_
        refine r_callV (k := 8) (n := 2) (As := [.int (22 : Int32), .int (2 : Int32)]) X V (sd_X7_numberAt l D ka _ S38 _ a0 (22 : Int32) (2 : Int32) h) k1 (by decide) (by decide) rfl wd_505 wd_506 wd_447 wd_507 wd_508 rfl rfl (by decide +kernel) ⟨Nat.le_of_ble_eq_true rfl, Nat.le_of_ble_eq_true rfl⟩ rfl hl.1 rfl (Nat.le_of_ble_eq_true rfl) dX7_netPlace_41 ⟨show 0 ≤ 0 by omega, show 0 ≤ 0 by omega⟩ (fun r44 S43 H locs h m45 V => ?_)
        have k1 := m45.k k1 (by decide)
        have k4 := m45.t k4 (by decide)
        refine lv_sipush (v := (4789 : Int32)) X.1.1 X.1.2.1 dX7_netPlace_44 (by decide) ?_
        refine lv_icmp_ne (tgt := 77) X.1.1 X.1.2.1 dX7_netPlace_47 (by decide) (fun c46 => ?_) (fun c46 => ?_)
        · have h := h.1 c46
          refine lv_iconst (v := (0 : Int32)) X.1.1 X.1.2.1 dX7_netPlace_77 (by decide) ?_
          refine lv_istore_n (lv' := [(2, .int (0 : Int32)), (1, .int ((fi Z 50 a0) - (20 : Int32))), (0, .ref a0)]) X.1.1 X.1.2.1 dX7_netPlace_78 rfl hl (by decide) rfl (fun ls hl => ?_)
          refine lv_iload_n X.1.1 X.1.2.1 dX7_netPlace_79 rfl (lv_at hl 0 rfl) ?_
          refine lv_if_eq (tgt := 88) X.1.1 X.1.2.1 dX7_netPlace_80 (by decide) (fun c47 => ?_) (fun c47 => ?_)
          · have h := h.1 c47
            refine lv_iconst (v := (-1 : Int32)) X.1.1 X.1.2.1 dX7_netPlace_88 (by decide) ?_
            exact W.iret X.1.1 X.1.2.1 hr (fun t ht _ => V.q (r := (-1 : Int32)) h ht) V.2.1.2.2 dX7_netPlace_89 X.1.2.2.2.2
          · have h := h.2 c47
            refine lv_bipush (v := (32 : Int32)) X.1.1 X.1.2.1 dX7_netPlace_83 (by decide) ?_
            refine lv_goto (tgt := 89) X.1.1 X.1.2.1 dX7_netPlace_85 (by decide) ?_
            exact W.iret X.1.1 X.1.2.1 hr (fun t ht _ => V.q (r := (32 : Int32)) h ht) V.2.1.2.2 dX7_netPlace_89 X.1.2.2.2.2
        · have h := h.2 c46
          refine lv_aload_n X.1.1 X.1.2.1 dX7_netPlace_50 rfl (lv_at hl 1 rfl) ?_
          refine lv_bipush (v := (26 : Int32)) X.1.1 X.1.2.1 dX7_netPlace_51 (by decide) ?_
          refine lv_iconst (v := (2 : Int32)) X.1.1 X.1.2.1 dX7_netPlace_53 (by decide) ?_
          refine r_callV (k := 8) (n := 2) (As := [.int (26 : Int32), .int (2 : Int32)]) X V (sd_X7_numberAt l D ka _ S43 _ a0 (26 : Int32) (2 : Int32) h) k1 (by decide) (by decide) rfl wd_505 wd_506 wd_447 wd_507 wd_508 rfl rfl (by decide +kernel) ⟨Nat.le_of_ble_eq_true rfl, Nat.le_of_ble_eq_true rfl⟩ rfl hl.1 rfl (Nat.le_of_ble_eq_true rfl) dX7_netPlace_54 ⟨show 0 ≤ 0 by omega, show 0 ≤ 0 by omega⟩ (fun r49 S48 H locs h m50 V => ?_)
          have k1 := m50.k k1 (by decide)
          have k4 := m50.t k4 (by decide)
          refine lv_if_ne (tgt := 77) X.1.1 X.1.2.1 dX7_netPlace_57 (by decide) (fun c51 => ?_) (fun c51 => ?_)
          · have h := h.1 c51
            refine lv_iconst (v := (0 : Int32)) X.1.1 X.1.2.1 dX7_netPlace_77 (by decide) ?_
            refine lv_istore_n (lv' := [(2, .int (0 : Int32)), (1, .int ((fi Z 50 a0) - (20 : Int32))), (0, .ref a0)]) X.1.1 X.1.2.1 dX7_netPlace_78 rfl hl (by decide) rfl (fun ls hl => ?_)
            refine lv_iload_n X.1.1 X.1.2.1 dX7_netPlace_79 rfl (lv_at hl 0 rfl) ?_
            refine lv_if_eq (tgt := 88) X.1.1 X.1.2.1 dX7_netPlace_80 (by decide) (fun c52 => ?_) (fun c52 => ?_)
            · have h := h.1 c52
              refine lv_iconst (v := (-1 : Int32)) X.1.1 X.1.2.1 dX7_netPlace_88 (by decide) ?_
              exact W.iret X.1.1 X.1.2.1 hr (fun t ht _ => V.q (r := (-1 : Int32)) h ht) V.2.1.2.2 dX7_netPlace_89 X.1.2.2.2.2
            · have h := h.2 c52
              refine lv_bipush (v := (32 : Int32)) X.1.1 X.1.2.1 dX7_netPlace_83 (by decide) ?_
              refine lv_goto (tgt := 89) X.1.1 X.1.2.1 dX7_netPlace_85 (by decide) ?_
              exact W.iret X.1.1 X.1.2.1 hr (fun t ht _ => V.q (r := (32 : Int32)) h ht) V.2.1.2.2 dX7_netPlace_89 X.1.2.2.2.2
          · have h := h.2 c51
            refine lv_aload_n X.1.1 X.1.2.1 dX7_netPlace_60 rfl (lv_at hl 1 rfl) ?_
            obtain ⟨o53, e54, h⟩ := h
            refine gf_X7_66 X V k1 e54 dX7_netPlace_61 ?_
            refine lv_bipush (v := (28 : Int32)) X.1.1 X.1.2.1 dX7_netPlace_64 (by decide) ?_
            obtain ⟨k55, h⟩ := h
            obtain ⟨i56, h⟩ := h
            refine r_bald X V k55 i56 dX7_netPlace_66 ?_
            refine lv_bipush (v := (8 : Int32)) X.1.1 X.1.2.1 dX7_netPlace_67 (by decide) ?_
            refine lv_iand X.1.1 X.1.2.1 dX7_netPlace_69 ?_
            refine lv_if_eq (tgt := 77) X.1.1 X.1.2.1 dX7_netPlace_70 (by decide) (fun c57 => ?_) (fun c57 => ?_)
            · have h := h.1 c57
              refine lv_iconst (v := (0 : Int32)) X.1.1 X.1.2.1 dX7_netPlace_77 (by decide) ?_
              refine lv_istore_n (lv' := [(2, .int (0 : Int32)), (1, .int ((fi Z 50 a0) - (20 : Int32))), (0, .ref a0)]) X.1.1 X.1.2.1 dX7_netPlace_78 rfl hl (by decide) rfl (fun ls hl => ?_)
              refine lv_iload_n X.1.1 X.1.2.1 dX7_netPlace_79 rfl (lv_at hl 0 rfl) ?_
              refine lv_if_eq (tgt := 88) X.1.1 X.1.2.1 dX7_netPlace_80 (by decide) (fun c58 => ?_) (fun c58 => ?_)
              · have h := h.1 c58
                refine lv_iconst (v := (-1 : Int32)) X.1.1 X.1.2.1 dX7_netPlace_88 (by decide) ?_
                exact W.iret X.1.1 X.1.2.1 hr (fun t ht _ => V.q (r := (-1 : Int32)) h ht) V.2.1.2.2 dX7_netPlace_89 X.1.2.2.2.2
              · have h := h.2 c58
                refine lv_bipush (v := (32 : Int32)) X.1.1 X.1.2.1 dX7_netPlace_83 (by decide) ?_
                refine lv_goto (tgt := 89) X.1.1 X.1.2.1 dX7_netPlace_85 (by decide) ?_
                exact W.iret X.1.1 X.1.2.1 hr (fun t ht _ => V.q (r := (32 : Int32)) h ht) V.2.1.2.2 dX7_netPlace_89 X.1.2.2.2.2
            · have h := h.2 c57
              refine lv_iconst (v := (1 : Int32)) X.1.1 X.1.2.1 dX7_netPlace_73 (by decide) ?_
              refine lv_goto (tgt := 78) X.1.1 X.1.2.1 dX7_netPlace_74 (by decide) ?_
              refine lv_istore_n (lv' := [(2, .int (1 : Int32)), (1, .int ((fi Z 50 a0) - (20 : Int32))), (0, .ref a0)]) X.1.1 X.1.2.1 dX7_netPlace_78 rfl hl (by decide) rfl (fun ls hl => ?_)
              refine lv_iload_n X.1.1 X.1.2.1 dX7_netPlace_79 rfl (lv_at hl 0 rfl) ?_
              refine lv_if_eq (tgt := 88) X.1.1 X.1.2.1 dX7_netPlace_80 (by decide) (fun c59 => ?_) (fun c59 => ?_)
              · have h := h.1 c59
                refine lv_iconst (v := (-1 : Int32)) X.1.1 X.1.2.1 dX7_netPlace_88 (by decide) ?_
                exact W.iret X.1.1 X.1.2.1 hr (fun t ht _ => V.q (r := (-1 : Int32)) h ht) V.2.1.2.2 dX7_netPlace_89 X.1.2.2.2.2
              · have h := h.2 c59
                refine lv_bipush (v := (32 : Int32)) X.1.1 X.1.2.1 dX7_netPlace_83 (by decide) ?_
                refine lv_goto (tgt := 89) X.1.1 X.1.2.1 dX7_netPlace_85 (by decide) ?_
                exact W.iret X.1.1 X.1.2.1 hr (fun t ht _ => V.q (r := (32 : Int32)) h ht) V.2.1.2.2 dX7_netPlace_89 X.1.2.2.2.2
