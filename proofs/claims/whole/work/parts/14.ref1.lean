abbrev rm_X7_begin : Room := { frames := 0, cells := 0, slots := 0, locals := 0 }
def wp_X7_begin_79 : Nat → (Int32 → HS → Prop) → HS → Nat → Int32 → Prop
  | 0, _, _, _, _ => False
  | n + 1, post, S, b0, x2 => (((13 : Int32) ≤ x2 → post (1 : Int32) S) ∧ (¬ (13 : Int32) ≤ x2 → kd S b0 = 8 ∧ (∃ o8 : Nat, fr S 48 b0 = some o8 ∧ (kd S o8 / 32 = 1 ∧ (vp_in x2 (ln S o8) ∧ (wp_X7_begin_79 n post (sai S o8 x2.toNatClampNeg (0 : Int32)) b0 (x2 + (1 : Int32))))))))
set_option maxHeartbeats 400000 in
set_option maxRecDepth 100000 in
theorem sl_X7_begin_79 (l : Launch) (D : va_G) (ka : Nat → ClassId) (sz : Nat) (Z : HS) (post : Int32 → HS → Prop) {p : Program} {e : Env} {s : State} {m : MethodId} {args : Array Value} {below : List Frame} {meth : Method} {c : Code} (X : Cx p s m meth c cX7_begin 3 RX7 D ka Z (fA Z sz)) (hr : meth.sig.returnType = (some .boolean))  : ∀ (n : Nat), ∀ (S : HS) (b0 : Nat) (x2 : Int32), wp_X7_begin_79 n post S b0 x2 → ∀ (H : Heap) (locs : List Loc) (ls : Array Slot), Hv D ka Z s (fA Z sz) S H locs → lv_has ls 3 [(0, .ref b0), (2, .int x2)] → W p l e rm_X7_begin s m args below meth c H locs 0 0 (MQ below (Qx eI post D ka Z sz) args s 0 0 (fA Z sz)) (F0 m 79 ls []) := by
  intro n
  induction n with
  | zero => intro S b0 x2 h; exact h.elim
  | succ n ih =>
    intro S b0 x2 h H locs ls V hl
    refine lv_iload_n X.1.1 X.1.2.1 dX7_begin_79 rfl (lv_at hl 1 rfl) ?_
    refine lv_bipush (v := (13 : Int32)) X.1.1 X.1.2.1 dX7_begin_80 (by decide) ?_
    refine lv_icmp_ge (tgt := 98) X.1.1 X.1.2.1 dX7_begin_82 (by decide) (fun c6 => ?_) (fun c6 => ?_)
    · have h := h.1 c6
      refine lv_iconst (v := (1 : Int32)) X.1.1 X.1.2.1 dX7_begin_98 (by decide) ?_
      exact W.zret X.1.1 X.1.2.1 hr (by decide) (fun t ht _ => V.q (r := (1 : Int32)) h ht) V.2.1.2.2 dX7_begin_99 X.1.2.2.2.2
    · have h := h.2 c6
      refine lv_aload_n X.1.1 X.1.2.1 dX7_begin_85 rfl (lv_at hl 0 rfl) ?_
      obtain ⟨k7, h⟩ := h
      obtain ⟨o8, e9, h⟩ := h
      refine gf_X7_63 X V k7 e9 dX7_begin_86 ?_
      refine lv_iload_n X.1.1 X.1.2.1 dX7_begin_89 rfl (lv_at hl 1 rfl) ?_
      refine lv_iconst (v := (0 : Int32)) X.1.1 X.1.2.1 dX7_begin_90 (by decide) ?_
      obtain ⟨k10, h⟩ := h
      obtain ⟨i11, h⟩ := h
      refine r_iast X V k10 i11 dX7_begin_91 (fun H locs V => ?_)
      refine lv_iinc (v := (x2 + (1 : Int32))) (lv' := [(2, .int (x2 + (1 : Int32))), (0, .ref b0)]) X.1.1 X.1.2.1 dX7_begin_92 hl (k := 1) rfl (congrArg (HAdd.hAdd _) (by decide)) (by decide) rfl (fun ls hl => ?_)
      refine lv_goto (tgt := 79) X.1.1 X.1.2.1 dX7_begin_95 (by decide) ?_
      exact ih (sai S o8 x2.toNatClampNeg (0 : Int32)) b0 (x2 + (1 : Int32)) h _ _ _ V (lv_sub hl [1, 0] rfl)
def wp_X7_begin_58 : Nat → (Int32 → HS → Prop) → HS → Nat → Int32 → Prop
  | 0, _, _, _, _ => False
  | n + 1, post, S, b0, x2 => (((64 : Int32) ≤ x2 → ∃ n9, wp_X7_begin_79 n9 post S b0 (0 : Int32)) ∧ (¬ (64 : Int32) ≤ x2 → kd S b0 = 8 ∧ (∃ o13 : Nat, fr S 35 b0 = some o13 ∧ (kd S o13 / 32 = 1 ∧ (vp_in x2 (ln S o13) ∧ (wp_X7_begin_58 n post (sai S o13 x2.toNatClampNeg (0 : Int32)) b0 (x2 + (1 : Int32))))))))
set_option maxHeartbeats 400000 in
set_option maxRecDepth 100000 in
theorem sl_X7_begin_58 (l : Launch) (D : va_G) (ka : Nat → ClassId) (sz : Nat) (Z : HS) (post : Int32 → HS → Prop) {p : Program} {e : Env} {s : State} {m : MethodId} {args : Array Value} {below : List Frame} {meth : Method} {c : Code} (X : Cx p s m meth c cX7_begin 3 RX7 D ka Z (fA Z sz)) (hr : meth.sig.returnType = (some .boolean))  : ∀ (n : Nat), ∀ (S : HS) (b0 : Nat) (x2 : Int32), wp_X7_begin_58 n post S b0 x2 → ∀ (H : Heap) (locs : List Loc) (ls : Array Slot), Hv D ka Z s (fA Z sz) S H locs → lv_has ls 3 [(0, .ref b0), (2, .int x2)] → W p l e rm_X7_begin s m args below meth c H locs 0 0 (MQ below (Qx eI post D ka Z sz) args s 0 0 (fA Z sz)) (F0 m 58 ls []) := by
  intro n
  induction n with
  | zero => intro S b0 x2 h; exact h.elim
  | succ n ih =>
    intro S b0 x2 h H locs ls V hl
    refine lv_iload_n X.1.1 X.1.2.1 dX7_begin_58 rfl (lv_at hl 1 rfl) ?_
    refine lv_bipush (v := (64 : Int32)) X.1.1 X.1.2.1 dX7_begin_59 (by decide) ?_
    refine lv_icmp_ge (tgt := 77) X.1.1 X.1.2.1 dX7_begin_61 (by decide) (fun c5 => ?_) (fun c5 => ?_)
    · have h := h.1 c5
      refine lv_iconst (v := (0 : Int32)) X.1.1 X.1.2.1 dX7_begin_77 (by decide) ?_
      refine lv_istore_n (lv' := [(2, .int (0 : Int32)), (0, .ref b0)]) X.1.1 X.1.2.1 dX7_begin_78 rfl hl (by decide) rfl (fun ls hl => ?_)
      obtain ⟨n9, h⟩ := h
      exact sl_X7_begin_79 l D ka sz Z post X hr n9 S b0 (0 : Int32) h _ _ _ V (lv_sub hl [1, 0] rfl)
    · have h := h.2 c5
      refine lv_aload_n X.1.1 X.1.2.1 dX7_begin_64 rfl (lv_at hl 0 rfl) ?_
      obtain ⟨k12, h⟩ := h
      obtain ⟨o13, e14, h⟩ := h
      refine gf_X7_29 X V k12 e14 dX7_begin_65 ?_
      refine lv_iload_n X.1.1 X.1.2.1 dX7_begin_68 rfl (lv_at hl 1 rfl) ?_
      refine lv_iconst (v := (0 : Int32)) X.1.1 X.1.2.1 dX7_begin_69 (by decide) ?_
      obtain ⟨k15, h⟩ := h
      obtain ⟨i16, h⟩ := h
      refine r_iast X V k15 i16 dX7_begin_70 (fun H locs V => ?_)
      refine lv_iinc (v := (x2 + (1 : Int32))) (lv' := [(2, .int (x2 + (1 : Int32))), (0, .ref b0)]) X.1.1 X.1.2.1 dX7_begin_71 hl (k := 1) rfl (congrArg (HAdd.hAdd _) (by decide)) (by decide) rfl (fun ls hl => ?_)
      refine lv_goto (tgt := 58) X.1.1 X.1.2.1 dX7_begin_74 (by decide) ?_
      exact ih (sai S o13 x2.toNatClampNeg (0 : Int32)) b0 (x2 + (1 : Int32)) h _ _ _ V (lv_sub hl [1, 0] rfl)
def wp_X7_begin_30 : Nat → (Int32 → HS → Prop) → HS → Nat → Int32 → Prop
  | 0, _, _, _, _ => False
  | n + 1, post, S, b0, x2 => (((8 : Int32) ≤ x2 → ∃ n9, wp_X7_begin_58 n9 post S b0 (0 : Int32)) ∧ (¬ (8 : Int32) ≤ x2 → kd S b0 = 8 ∧ (∃ o18 : Nat, fr S 37 b0 = some o18 ∧ (kd S o18 / 32 = 1 ∧ (vp_in x2 (ln S o18) ∧ (∃ o22 : Nat, fr (sai S o18 x2.toNatClampNeg (0 : Int32)) 36 b0 = some o22 ∧ (kd (sai S o18 x2.toNatClampNeg (0 : Int32)) o22 / 32 = 1 ∧ (vp_in x2 (ln (sai S o18 x2.toNatClampNeg (0 : Int32)) o22) ∧ (wp_X7_begin_30 n post (sai (sai S o18 x2.toNatClampNeg (0 : Int32)) o22 x2.toNatClampNeg (0 : Int32)) b0 (x2 + (1 : Int32)))))))))))
set_option maxHeartbeats 400000 in
set_option maxRecDepth 100000 in
theorem sl_X7_begin_30 (l : Launch) (D : va_G) (ka : Nat → ClassId) (sz : Nat) (Z : HS) (post : Int32 → HS → Prop) {p : Program} {e : Env} {s : State} {m : MethodId} {args : Array Value} {below : List Frame} {meth : Method} {c : Code} (X : Cx p s m meth c cX7_begin 3 RX7 D ka Z (fA Z sz)) (hr : meth.sig.returnType = (some .boolean))  : ∀ (n : Nat), ∀ (S : HS) (b0 : Nat) (x2 : Int32), wp_X7_begin_30 n post S b0 x2 → ∀ (H : Heap) (locs : List Loc) (ls : Array Slot), Hv D ka Z s (fA Z sz) S H locs → lv_has ls 3 [(0, .ref b0), (2, .int x2)] → W p l e rm_X7_begin s m args below meth c H locs 0 0 (MQ below (Qx eI post D ka Z sz) args s 0 0 (fA Z sz)) (F0 m 30 ls []) := by
  intro n
  induction n with
  | zero => intro S b0 x2 h; exact h.elim
  | succ n ih =>
    intro S b0 x2 h H locs ls V hl
    refine lv_iload_n X.1.1 X.1.2.1 dX7_begin_30 rfl (lv_at hl 1 rfl) ?_
    refine lv_bipush (v := (8 : Int32)) X.1.1 X.1.2.1 dX7_begin_31 (by decide) ?_
    refine lv_icmp_ge (tgt := 56) X.1.1 X.1.2.1 dX7_begin_33 (by decide) (fun c4 => ?_) (fun c4 => ?_)
    · have h := h.1 c4
      refine lv_iconst (v := (0 : Int32)) X.1.1 X.1.2.1 dX7_begin_56 (by decide) ?_
      refine lv_istore_n (lv' := [(2, .int (0 : Int32)), (0, .ref b0)]) X.1.1 X.1.2.1 dX7_begin_57 rfl hl (by decide) rfl (fun ls hl => ?_)
      obtain ⟨n9, h⟩ := h
      exact sl_X7_begin_58 l D ka sz Z post X hr n9 S b0 (0 : Int32) h _ _ _ V (lv_sub hl [1, 0] rfl)
    · have h := h.2 c4
      refine lv_aload_n X.1.1 X.1.2.1 dX7_begin_36 rfl (lv_at hl 0 rfl) ?_
      obtain ⟨k17, h⟩ := h
      obtain ⟨o18, e19, h⟩ := h
      refine gf_X7_35 X V k17 e19 dX7_begin_37 ?_
      refine lv_iload_n X.1.1 X.1.2.1 dX7_begin_40 rfl (lv_at hl 1 rfl) ?_
      refine lv_iconst (v := (0 : Int32)) X.1.1 X.1.2.1 dX7_begin_41 (by decide) ?_
      obtain ⟨k20, h⟩ := h
      obtain ⟨i21, h⟩ := h
      refine r_iast X V k20 i21 dX7_begin_42 (fun H locs V => ?_)
      refine lv_aload_n X.1.1 X.1.2.1 dX7_begin_43 rfl (lv_at hl 0 rfl) ?_
      obtain ⟨o22, e23, h⟩ := h
      refine gf_X7_32 X V k17 e23 dX7_begin_44 ?_
      refine lv_iload_n X.1.1 X.1.2.1 dX7_begin_47 rfl (lv_at hl 1 rfl) ?_
      refine lv_iconst (v := (0 : Int32)) X.1.1 X.1.2.1 dX7_begin_48 (by decide) ?_
      obtain ⟨k24, h⟩ := h
      obtain ⟨i25, h⟩ := h
      refine r_iast X V k24 i25 dX7_begin_49 (fun H locs V => ?_)
      refine lv_iinc (v := (x2 + (1 : Int32))) (lv' := [(2, .int (x2 + (1 : Int32))), (0, .ref b0)]) X.1.1 X.1.2.1 dX7_begin_50 hl (k := 1) rfl (congrArg (HAdd.hAdd _) (by decide)) (by decide) rfl (fun ls hl => ?_)
      refine lv_goto (tgt := 30) X.1.1 X.1.2.1 dX7_begin_53 (by decide) ?_
      exact ih (sai (sai S o18 x2.toNatClampNeg (0 : Int32)) o22 x2.toNatClampNeg (0 : Int32)) b0 (x2 + (1 : Int32)) h _ _ _ V (lv_sub hl [1, 0] rfl)
def wp_X7_begin (post : Int32 → HS → Prop) (S : HS) (a0 : Nat) (v1 : Int32) : Prop := ((v1 < (2 : Int32) → post (0 : Int32) S) ∧ (¬ v1 < (2 : Int32) → ((v1 ≤ (8 : Int32) → kd S a0 = 8 ∧ (∃ n9, wp_X7_begin_30 n9 post (sfi (sfi (sfi S 27 a0 v1) 28 a0 (0 : Int32)) 47 a0 (0 : Int32)) a0 (0 : Int32))) ∧ (¬ v1 ≤ (8 : Int32) → post (0 : Int32) S))))
set_option maxHeartbeats 400000 in
set_option maxRecDepth 100000 in
theorem sd_X7_begin (l : Launch) (D : va_G) (ka : Nat → ClassId) (sz : Nat) (Z : HS) (post : Int32 → HS → Prop) (a0 : Nat) (v1 : Int32) (h : wp_X7_begin post Z a0 v1) : Met l yX7_begin [Cond.code yX7_begin cX7_begin 3 (some .boolean)] rm_X7_begin (Px D ka Z sz [.ref a0, .int v1]) (Qx eI post D ka Z sz) 0 0 (fA Z sz) := by
  refine Met.ofW (cc := cX7_begin) (maxL := 3) (ret := (some .boolean)) (by decide) rfl ?_
  intro p e s m args below meth c s₁ B hml hv
  obtain ⟨rfl, X, V, hsz⟩ := Cx.entry B hml hv
  have hr : meth.sig.returnType = (some .boolean) := B.returns
  have hl := lv_entry ([.ref a0, .int v1]) (n := 3) (Nat.le_of_ble_eq_true rfl)
  rw [lg_entry_eq]
  generalize (lg_sl ([.ref a0, .int v1]) ++ List.replicate (3 - (lg_sl ([.ref a0, .int v1])).length) Slot.unset).toArray = ls at hl ⊢
  have hl : lv_has ls 3 [(0, .ref a0), (1, .int v1)] := hl
  have h : wp_X7_begin post Z a0 v1 := h
  refine lv_iload_n X.1.1 X.1.2.1 dX7_begin_0 rfl (lv_at hl 1 rfl) ?_
  refine lv_iconst (v := (2 : Int32)) X.1.1 X.1.2.1 dX7_begin_1 (by decide) ?_
  refine lv_icmp_lt (tgt := 11) X.1.1 X.1.2.1 dX7_begin_2 (by decide) (fun c1 => ?_) (fun c1 => ?_)
  · have h := h.1 c1
    refine lv_iconst (v := (0 : Int32)) X.1.1 X.1.2.1 dX7_begin_11 (by decide) ?_
    exact W.zret X.1.1 X.1.2.1 hr (by decide) (fun t ht _ => V.q (r := (0 : Int32)) h ht) V.2.1.2.2 dX7_begin_12 X.1.2.2.2.2
  · have h := h.2 c1
    refine lv_iload_n X.1.1 X.1.2.1 dX7_begin_5 rfl (lv_at hl 1 rfl) ?_
    refine lv_bipush (v := (8 : Int32)) X.1.1 X.1.2.1 dX7_begin_6 (by decide) ?_
    refine lv_icmp_le (tgt := 13) X.1.1 X.1.2.1 dX7_begin_8 (by decide) (fun c2 => ?_) (fun c2 => ?_)
    · have h := h.1 c2
      refine lv_aload_n X.1.1 X.1.2.1 dX7_begin_13 rfl (lv_at hl 0 rfl) ?_
      refine lv_iload_n X.1.1 X.1.2.1 dX7_begin_14 rfl (lv_at hl 1 rfl) ?_
      obtain ⟨k3, h⟩ := h
      refine pf_X7_76 X V k3 dX7_begin_15 (fun H locs V => ?_)
      refine lv_aload_n X.1.1 X.1.2.1 dX7_begin_18 rfl (lv_at hl 0 rfl) ?_
      refine lv_iconst (v := (0 : Int32)) X.1.1 X.1.2.1 dX7_begin_19 (by decide) ?_
      refine pf_X7_80 X V k3 dX7_begin_20 (fun H locs V => ?_)
      refine lv_aload_n X.1.1 X.1.2.1 dX7_begin_23 rfl (lv_at hl 0 rfl) ?_
      refine lv_iconst (v := (0 : Int32)) X.1.1 X.1.2.1 dX7_begin_24 (by decide) ?_
      refine pf_X7_83 X V k3 dX7_begin_25 (fun H locs V => ?_)
      refine lv_iconst (v := (0 : Int32)) X.1.1 X.1.2.1 dX7_begin_28 (by decide) ?_
      refine lv_istore_n (lv' := [(2, .int (0 : Int32)), (0, .ref a0), (1, .int v1)]) X.1.1 X.1.2.1 dX7_begin_29 rfl hl (by decide) rfl (fun ls hl => ?_)
      obtain ⟨n9, h⟩ := h
      exact sl_X7_begin_30 l D ka sz Z post X hr n9 (sfi (sfi (sfi Z 27 a0 v1) 28 a0 (0 : Int32)) 47 a0 (0 : Int32)) a0 (0 : Int32) h _ _ _ V (lv_sub hl [1, 0] rfl)
    · have h := h.2 c2
      refine lv_iconst (v := (0 : Int32)) X.1.1 X.1.2.1 dX7_begin_11 (by decide) ?_
      exact W.zret X.1.1 X.1.2.1 hr (by decide) (fun t ht _ => V.q (r := (0 : Int32)) h ht) V.2.1.2.2 dX7_begin_12 X.1.2.2.2.2
abbrev rm_X7_isEndpoint : Room := { frames := 0, cells := 0, slots := 0, locals := 0 }
def wp_X7_isEndpoint (post : Int32 → HS → Prop) (S : HS) (a0 : Nat) (v1 : Int32) : Prop := ((v1 < 0 → post (0 : Int32) S) ∧ (¬ v1 < 0 → kd S a0 = 8 ∧ ((((fi S 27 a0) ≤ v1 → post (0 : Int32) S) ∧ (¬ (fi S 27 a0) ≤ v1 → post (1 : Int32) S)))))
set_option maxHeartbeats 400000 in
set_option maxRecDepth 100000 in
theorem sd_X7_isEndpoint (l : Launch) (D : va_G) (ka : Nat → ClassId) (sz : Nat) (Z : HS) (post : Int32 → HS → Prop) (a0 : Nat) (v1 : Int32) (h : wp_X7_isEndpoint post Z a0 v1) : Met l yX7_isEndpoint [Cond.code yX7_isEndpoint cX7_isEndpoint 2 (some .boolean)] rm_X7_isEndpoint (Px D ka Z sz [.ref a0, .int v1]) (Qx eI post D ka Z sz) 0 0 (fA Z sz) := by
  refine Met.ofW (cc := cX7_isEndpoint) (maxL := 2) (ret := (some .boolean)) (by decide) rfl ?_
  intro p e s m args below meth c s₁ B hml hv
  obtain ⟨rfl, X, V, hsz⟩ := Cx.entry B hml hv
  have hr : meth.sig.returnType = (some .boolean) := B.returns
  have hl := lv_entry ([.ref a0, .int v1]) (n := 2) (Nat.le_of_ble_eq_true rfl)
  rw [lg_entry_eq]
  generalize (lg_sl ([.ref a0, .int v1]) ++ List.replicate (2 - (lg_sl ([.ref a0, .int v1])).length) Slot.unset).toArray = ls at hl ⊢
  have hl : lv_has ls 2 [(0, .ref a0), (1, .int v1)] := hl
  have h : wp_X7_isEndpoint post Z a0 v1 := h
  refine lv_iload_n X.1.1 X.1.2.1 dX7_isEndpoint_0 rfl (lv_at hl 1 rfl) ?_
  refine lv_if_lt (tgt := 16) X.1.1 X.1.2.1 dX7_isEndpoint_1 (by decide) (fun c1 => ?_) (fun c1 => ?_)
  · have h := h.1 c1
    refine lv_iconst (v := (0 : Int32)) X.1.1 X.1.2.1 dX7_isEndpoint_16 (by decide) ?_
    exact W.zret X.1.1 X.1.2.1 hr (by decide) (fun t ht _ => V.q (r := (0 : Int32)) h ht) V.2.1.2.2 dX7_isEndpoint_17 X.1.2.2.2.2
  · have h := h.2 c1
    refine lv_iload_n X.1.1 X.1.2.1 dX7_isEndpoint_4 rfl (lv_at hl 1 rfl) ?_
    refine lv_aload_n X.1.1 X.1.2.1 dX7_isEndpoint_5 rfl (lv_at hl 0 rfl) ?_
    obtain ⟨k2, h⟩ := h
    refine gf_X7_76 X V k2 dX7_isEndpoint_6 ?_
    refine lv_icmp_ge (tgt := 16) X.1.1 X.1.2.1 dX7_isEndpoint_9 (by decide) (fun c3 => ?_) (fun c3 => ?_)
    · have h := h.1 c3
      refine lv_iconst (v := (0 : Int32)) X.1.1 X.1.2.1 dX7_isEndpoint_16 (by decide) ?_
      exact W.zret X.1.1 X.1.2.1 hr (by decide) (fun t ht _ => V.q (r := (0 : Int32)) h ht) V.2.1.2.2 dX7_isEndpoint_17 X.1.2.2.2.2
    · have h := h.2 c3
      refine lv_iconst (v := (1 : Int32)) X.1.1 X.1.2.1 dX7_isEndpoint_12 (by decide) ?_
      refine lv_goto (tgt := 17) X.1.1 X.1.2.1 dX7_isEndpoint_13 (by decide) ?_
      exact W.zret X.1.1 X.1.2.1 hr (by decide) (fun t ht _ => V.q (r := (1 : Int32)) h ht) V.2.1.2.2 dX7_isEndpoint_17 X.1.2.2.2.2
abbrev rm_X7_isStation : Room := { frames := 0, cells := 0, slots := 0, locals := 0 }
def wp_X7_isStation (post : Int32 → HS → Prop) (S : HS) (a0 : Nat) (v1 : Int32) : Prop := ((v1 < 0 → post (0 : Int32) S) ∧ (¬ v1 < 0 → kd S a0 = 8 ∧ ((((fi S 28 a0) ≤ v1 → post (0 : Int32) S) ∧ (¬ (fi S 28 a0) ≤ v1 → post (1 : Int32) S)))))
set_option maxHeartbeats 400000 in
set_option maxRecDepth 100000 in
theorem sd_X7_isStation (l : Launch) (D : va_G) (ka : Nat → ClassId) (sz : Nat) (Z : HS) (post : Int32 → HS → Prop) (a0 : Nat) (v1 : Int32) (h : wp_X7_isStation post Z a0 v1) : Met l yX7_isStation [Cond.code yX7_isStation cX7_isStation 2 (some .boolean)] rm_X7_isStation (Px D ka Z sz [.ref a0, .int v1]) (Qx eI post D ka Z sz) 0 0 (fA Z sz) := by
  refine Met.ofW (cc := cX7_isStation) (maxL := 2) (ret := (some .boolean)) (by decide) rfl ?_
  intro p e s m args below meth c s₁ B hml hv
  obtain ⟨rfl, X, V, hsz⟩ := Cx.entry B hml hv
  have hr : meth.sig.returnType = (some .boolean) := B.returns
  have hl := lv_entry ([.ref a0, .int v1]) (n := 2) (Nat.le_of_ble_eq_true rfl)
  rw [lg_entry_eq]
  generalize (lg_sl ([.ref a0, .int v1]) ++ List.replicate (2 - (lg_sl ([.ref a0, .int v1])).length) Slot.unset).toArray = ls at hl ⊢
  have hl : lv_has ls 2 [(0, .ref a0), (1, .int v1)] := hl
  have h : wp_X7_isStation post Z a0 v1 := h
  refine lv_iload_n X.1.1 X.1.2.1 dX7_isStation_0 rfl (lv_at hl 1 rfl) ?_
  refine lv_if_lt (tgt := 16) X.1.1 X.1.2.1 dX7_isStation_1 (by decide) (fun c1 => ?_) (fun c1 => ?_)
  · have h := h.1 c1
    refine lv_iconst (v := (0 : Int32)) X.1.1 X.1.2.1 dX7_isStation_16 (by decide) ?_
    exact W.zret X.1.1 X.1.2.1 hr (by decide) (fun t ht _ => V.q (r := (0 : Int32)) h ht) V.2.1.2.2 dX7_isStation_17 X.1.2.2.2.2
  · have h := h.2 c1
    refine lv_iload_n X.1.1 X.1.2.1 dX7_isStation_4 rfl (lv_at hl 1 rfl) ?_
    refine lv_aload_n X.1.1 X.1.2.1 dX7_isStation_5 rfl (lv_at hl 0 rfl) ?_
    obtain ⟨k2, h⟩ := h
    refine gf_X7_80 X V k2 dX7_isStation_6 ?_
    refine lv_icmp_ge (tgt := 16) X.1.1 X.1.2.1 dX7_isStation_9 (by decide) (fun c3 => ?_) (fun c3 => ?_)
    · have h := h.1 c3
      refine lv_iconst (v := (0 : Int32)) X.1.1 X.1.2.1 dX7_isStation_16 (by decide) ?_
      exact W.zret X.1.1 X.1.2.1 hr (by decide) (fun t ht _ => V.q (r := (0 : Int32)) h ht) V.2.1.2.2 dX7_isStation_17 X.1.2.2.2.2
    · have h := h.2 c3
      refine lv_iconst (v := (1 : Int32)) X.1.1 X.1.2.1 dX7_isStation_12 (by decide) ?_
      refine lv_goto (tgt := 17) X.1.1 X.1.2.1 dX7_isStation_13 (by decide) ?_
      exact W.zret X.1.1 X.1.2.1 hr (by decide) (fun t ht _ => V.q (r := (1 : Int32)) h ht) V.2.1.2.2 dX7_isStation_17 X.1.2.2.2.2
abbrev rm_X7_station : Room := { frames := 1, cells := 0, slots := 0, locals := 21 }
def wp_X7_station (post : Int32 → HS → Prop) (S : HS) (a0 : Nat) (v1 : Int32) (v2 : Int32) (v3 : Int32) : Prop := kd S a0 = 8 ∧ (wp_X7_isEndpoint (fun r3 S2 => ((r3 = 0 → post (-1 : Int32) S2) ∧ (¬ r3 = 0 → ((v2 < 0 → post (-1 : Int32) S2) ∧ (¬ v2 < 0 → (((16777215 : Int32) < v2 → post (-1 : Int32) S2) ∧ (¬ (16777215 : Int32) < v2 → ((¬ (fi S2 28 a0) = (32 : Int32) → ∃ o9 : Nat, fr (sfi S2 28 a0 ((fi S2 28 a0) + (1 : Int32))) 29 a0 = some o9 ∧ (kd (sfi S2 28 a0 ((fi S2 28 a0) + (1 : Int32))) o9 / 32 = 1 ∧ (vp_in (fi S2 28 a0) (ln (sfi S2 28 a0 ((fi S2 28 a0) + (1 : Int32))) o9) ∧ (∃ o13 : Nat, fr (sai (sfi S2 28 a0 ((fi S2 28 a0) + (1 : Int32))) o9 (fi S2 28 a0).toNatClampNeg v1) 30 a0 = some o13 ∧ (kd (sai (sfi S2 28 a0 ((fi S2 28 a0) + (1 : Int32))) o9 (fi S2 28 a0).toNatClampNeg v1) o13 / 32 = 1 ∧ (vp_in (fi S2 28 a0) (ln (sai (sfi S2 28 a0 ((fi S2 28 a0) + (1 : Int32))) o9 (fi S2 28 a0).toNatClampNeg v1) o13) ∧ (∃ o17 : Nat, fr (sai (sai (sfi S2 28 a0 ((fi S2 28 a0) + (1 : Int32))) o9 (fi S2 28 a0).toNatClampNeg v1) o13 (fi S2 28 a0).toNatClampNeg v2) 31 a0 = some o17 ∧ (kd (sai (sai (sfi S2 28 a0 ((fi S2 28 a0) + (1 : Int32))) o9 (fi S2 28 a0).toNatClampNeg v1) o13 (fi S2 28 a0).toNatClampNeg v2) o17 / 32 = 1 ∧ (vp_in (fi S2 28 a0) (ln (sai (sai (sfi S2 28 a0 ((fi S2 28 a0) + (1 : Int32))) o9 (fi S2 28 a0).toNatClampNeg v1) o13 (fi S2 28 a0).toNatClampNeg v2) o17) ∧ (∃ o21 : Nat, fr (sai (sai (sai (sfi S2 28 a0 ((fi S2 28 a0) + (1 : Int32))) o9 (fi S2 28 a0).toNatClampNeg v1) o13 (fi S2 28 a0).toNatClampNeg v2) o17 (fi S2 28 a0).toNatClampNeg v3) 32 a0 = some o21 ∧ (kd (sai (sai (sai (sfi S2 28 a0 ((fi S2 28 a0) + (1 : Int32))) o9 (fi S2 28 a0).toNatClampNeg v1) o13 (fi S2 28 a0).toNatClampNeg v2) o17 (fi S2 28 a0).toNatClampNeg v3) o21 / 32 = 1 ∧ (vp_in (fi S2 28 a0) (ln (sai (sai (sai (sfi S2 28 a0 ((fi S2 28 a0) + (1 : Int32))) o9 (fi S2 28 a0).toNatClampNeg v1) o13 (fi S2 28 a0).toNatClampNeg v2) o17 (fi S2 28 a0).toNatClampNeg v3) o21) ∧ (post (fi S2 28 a0) (sai (sai (sai (sai (sfi S2 28 a0 ((fi S2 28 a0) + (1 : Int32))) o9 (fi S2 28 a0).toNatClampNeg v1) o13 (fi S2 28 a0).toNatClampNeg v2) o17 (fi S2 28 a0).toNatClampNeg v3) o21 (fi S2 28 a0).toNatClampNeg (0 : Int32))))))))))))))) ∧ ((fi S2 28 a0) = (32 : Int32) → post (-1 : Int32) S2))))))))) S a0 v1)
set_option maxHeartbeats 400000 in
set_option maxRecDepth 100000 in
theorem sd_X7_station (l : Launch) (D : va_G) (ka : Nat → ClassId) (sz : Nat) (Z : HS) (post : Int32 → HS → Prop) (a0 : Nat) (v1 : Int32) (v2 : Int32) (v3 : Int32) (h : wp_X7_station post Z a0 v1 v2 v3) : Met l yX7_station [Cond.code yX7_station cX7_station 5 (some .int)] rm_X7_station (Px D ka Z sz [.ref a0, .int v1, .int v2, .int v3]) (Qx eI post D ka Z sz) 0 0 (fA Z sz) := by
  refine Met.ofW (cc := cX7_station) (maxL := 5) (ret := (some .int)) (by decide) rfl ?_
  intro p e s m args below meth c s₁ B hml hv
  obtain ⟨rfl, X, V, hsz⟩ := Cx.entry B hml hv
  have hr : meth.sig.returnType = (some .int) := B.returns
  have hl := lv_entry ([.ref a0, .int v1, .int v2, .int v3]) (n := 5) (Nat.le_of_ble_eq_true rfl)
  rw [lg_entry_eq]
  generalize (lg_sl ([.ref a0, .int v1, .int v2, .int v3]) ++ List.replicate (5 - (lg_sl ([.ref a0, .int v1, .int v2, .int v3])).length) Slot.unset).toArray = ls at hl ⊢
  have hl : lv_has ls 5 [(0, .ref a0), (1, .int v1), (2, .int v2), (3, .int v3)] := hl
  have h : wp_X7_station post Z a0 v1 v2 v3 := h
  refine lv_aload_n X.1.1 X.1.2.1 dX7_station_0 rfl (lv_at hl 0 rfl) ?_
  refine lv_iload_n X.1.1 X.1.2.1 dX7_station_1 rfl (lv_at hl 1 rfl) ?_
  obtain ⟨k1, h⟩ := h
  refine r_callV (k := 8) (n := 1) (As := [.int v1]) X V (sd_X7_isEndpoint l D ka _ Z _ a0 v1 h) k1 (by decide) (by decide) rfl wd_445 wd_446 wd_447 wd_448 wd_449 rfl rfl (by decide +kernel) ⟨Nat.le_of_ble_eq_true rfl, Nat.le_of_ble_eq_true rfl⟩ rfl hl.1 rfl (Nat.le_of_ble_eq_true rfl) dX7_station_2 ⟨show 0 ≤ 0 by omega, show 0 ≤ 0 by omega⟩ (fun r3 S2 H locs h m4 V => ?_)
  have k1 := m4.k k1 (by decide)
  refine lv_if_eq (tgt := 27) X.1.1 X.1.2.1 dX7_station_5 (by decide) (fun c5 => ?_) (fun c5 => ?_)
  · have h := h.1 c5
    refine lv_iconst (v := (-1 : Int32)) X.1.1 X.1.2.1 dX7_station_27 (by decide) ?_
    exact W.iret X.1.1 X.1.2.1 hr (fun t ht _ => V.q (r := (-1 : Int32)) h ht) V.2.1.2.2 dX7_station_28 X.1.2.2.2.2
  · have h := h.2 c5
    refine lv_iload_n X.1.1 X.1.2.1 dX7_station_8 rfl (lv_at hl 2 rfl) ?_
    refine lv_if_lt (tgt := 27) X.1.1 X.1.2.1 dX7_station_9 (by decide) (fun c6 => ?_) (fun c6 => ?_)
    · have h := h.1 c6
      refine lv_iconst (v := (-1 : Int32)) X.1.1 X.1.2.1 dX7_station_27 (by decide) ?_
      exact W.iret X.1.1 X.1.2.1 hr (fun t ht _ => V.q (r := (-1 : Int32)) h ht) V.2.1.2.2 dX7_station_28 X.1.2.2.2.2
    · have h := h.2 c6
      refine lv_iload_n X.1.1 X.1.2.1 dX7_station_12 rfl (lv_at hl 2 rfl) ?_
      refine lv_ldc (v := (16777215 : Int32)) X.1.1 X.1.2.1 X.1.2.2.2.1 (X.w wd_450 rfl _) dX7_station_13 ?_
      refine lv_icmp_gt (tgt := 27) X.1.1 X.1.2.1 dX7_station_15 (by decide) (fun c7 => ?_) (fun c7 => ?_)
      · have h := h.1 c7
        refine lv_iconst (v := (-1 : Int32)) X.1.1 X.1.2.1 dX7_station_27 (by decide) ?_
        exact W.iret X.1.1 X.1.2.1 hr (fun t ht _ => V.q (r := (-1 : Int32)) h ht) V.2.1.2.2 dX7_station_28 X.1.2.2.2.2
      · have h := h.2 c7
        refine lv_aload_n X.1.1 X.1.2.1 dX7_station_18 rfl (lv_at hl 0 rfl) ?_
        refine gf_X7_80 X V k1 dX7_station_19 ?_
        refine lv_bipush (v := (32 : Int32)) X.1.1 X.1.2.1 dX7_station_22 (by decide) ?_
        refine lv_icmp_ne (tgt := 29) X.1.1 X.1.2.1 dX7_station_24 (by decide) (fun c8 => ?_) (fun c8 => ?_)
        · have h := h.1 c8
          refine lv_aload_n X.1.1 X.1.2.1 dX7_station_29 rfl (lv_at hl 0 rfl) ?_
          refine gf_X7_80 X V k1 dX7_station_30 ?_
          refine lv_istore (lv' := [(4, .int (fi S2 28 a0)), (0, .ref a0), (1, .int v1), (2, .int v2), (3, .int v3)]) X.1.1 X.1.2.1 dX7_station_33 hl (by decide) rfl (fun ls hl => ?_)
          refine lv_aload_n X.1.1 X.1.2.1 dX7_station_35 rfl (lv_at hl 1 rfl) ?_
          refine lv_dup X.1.1 X.1.2.1 dX7_station_36 rfl ?_
          refine gf_X7_80 X V k1 dX7_station_37 ?_
          refine lv_iconst (v := (1 : Int32)) X.1.1 X.1.2.1 dX7_station_40 (by decide) ?_
          refine lv_iadd X.1.1 X.1.2.1 dX7_station_41 ?_
          refine pf_X7_80 X V k1 dX7_station_42 (fun H locs V => ?_)
          refine lv_aload_n X.1.1 X.1.2.1 dX7_station_45 rfl (lv_at hl 1 rfl) ?_
          obtain ⟨o9, e10, h⟩ := h
          refine gf_X7_7 X V k1 e10 dX7_station_46 ?_
          refine lv_iload X.1.1 X.1.2.1 dX7_station_49 (lv_at hl 0 rfl) ?_
          refine lv_iload_n X.1.1 X.1.2.1 dX7_station_51 rfl (lv_at hl 2 rfl) ?_
          obtain ⟨k11, h⟩ := h
          obtain ⟨i12, h⟩ := h
          refine r_iast X V k11 i12 dX7_station_52 (fun H locs V => ?_)
          refine lv_aload_n X.1.1 X.1.2.1 dX7_station_53 rfl (lv_at hl 1 rfl) ?_
          obtain ⟨o13, e14, h⟩ := h
          refine gf_X7_13 X V k1 e14 dX7_station_54 ?_
          refine lv_iload X.1.1 X.1.2.1 dX7_station_57 (lv_at hl 0 rfl) ?_
          refine lv_iload_n X.1.1 X.1.2.1 dX7_station_59 rfl (lv_at hl 3 rfl) ?_
          obtain ⟨k15, h⟩ := h
          obtain ⟨i16, h⟩ := h
          refine r_iast X V k15 i16 dX7_station_60 (fun H locs V => ?_)
          refine lv_aload_n X.1.1 X.1.2.1 dX7_station_61 rfl (lv_at hl 1 rfl) ?_
          obtain ⟨o17, e18, h⟩ := h
          refine gf_X7_16 X V k1 e18 dX7_station_62 ?_
          refine lv_iload X.1.1 X.1.2.1 dX7_station_65 (lv_at hl 0 rfl) ?_
          refine lv_iload_n X.1.1 X.1.2.1 dX7_station_67 rfl (lv_at hl 4 rfl) ?_
          obtain ⟨k19, h⟩ := h
          obtain ⟨i20, h⟩ := h
          refine r_iast X V k19 i20 dX7_station_68 (fun H locs V => ?_)
          refine lv_aload_n X.1.1 X.1.2.1 dX7_station_69 rfl (lv_at hl 1 rfl) ?_
          obtain ⟨o21, e22, h⟩ := h
          refine gf_X7_19 X V k1 e22 dX7_station_70 ?_
          refine lv_iload X.1.1 X.1.2.1 dX7_station_73 (lv_at hl 0 rfl) ?_
          refine lv_iconst (v := (0 : Int32)) X.1.1 X.1.2.1 dX7_station_75 (by decide) ?_
          obtain ⟨k23, h⟩ := h
          obtain ⟨i24, h⟩ := h
          refine r_iast X V k23 i24 dX7_station_76 (fun H locs V => ?_)
          refine lv_iload X.1.1 X.1.2.1 dX7_station_77 (lv_at hl 0 rfl) ?_
          exact W.iret X.1.1 X.1.2.1 hr (fun t ht _ => V.q (r := (fi S2 28 a0)) h ht) V.2.1.2.2 dX7_station_79 X.1.2.2.2.2
        · have h := h.2 c8
          refine lv_iconst (v := (-1 : Int32)) X.1.1 X.1.2.1 dX7_station_27 (by decide) ?_
          exact W.iret X.1.1 X.1.2.1 hr (fun t ht _ => V.q (r := (-1 : Int32)) h ht) V.2.1.2.2 dX7_station_28 X.1.2.2.2.2
abbrev rm_X7_move : Room := { frames := 1, cells := 0, slots := 0, locals := 21 }
def wp_X7_move (post : Int32 → HS → Prop) (S : HS) (a0 : Nat) (v1 : Int32) (v2 : Int32) : Prop := kd S a0 = 8 ∧ (wp_X7_isStation (fun r3 S2 => ((r3 = 0 → post (0 : Int32) S2) ∧ (¬ r3 = 0 → wp_X7_isEndpoint (fun r7 S6 => ((¬ r7 = 0 → ∃ o10 : Nat, fr S6 29 a0 = some o10 ∧ (kd S6 o10 / 32 = 1 ∧ (vp_in v1 (ln S6 o10) ∧ (post (1 : Int32) (sai S6 o10 v1.toNatClampNeg v2))))) ∧ (r7 = 0 → post (0 : Int32) S6))) S2 a0 v2))) S a0 v1)
set_option maxHeartbeats 400000 in
set_option maxRecDepth 100000 in
theorem sd_X7_move (l : Launch) (D : va_G) (ka : Nat → ClassId) (sz : Nat) (Z : HS) (post : Int32 → HS → Prop) (a0 : Nat) (v1 : Int32) (v2 : Int32) (h : wp_X7_move post Z a0 v1 v2) : Met l yX7_move [Cond.code yX7_move cX7_move 3 (some .boolean)] rm_X7_move (Px D ka Z sz [.ref a0, .int v1, .int v2]) (Qx eI post D ka Z sz) 0 0 (fA Z sz) := by
  refine Met.ofW (cc := cX7_move) (maxL := 3) (ret := (some .boolean)) (by decide) rfl ?_
  intro p e s m args below meth c s₁ B hml hv
  obtain ⟨rfl, X, V, hsz⟩ := Cx.entry B hml hv
  have hr : meth.sig.returnType = (some .boolean) := B.returns
  have hl := lv_entry ([.ref a0, .int v1, .int v2]) (n := 3) (Nat.le_of_ble_eq_true rfl)
  rw [lg_entry_eq]
  generalize (lg_sl ([.ref a0, .int v1, .int v2]) ++ List.replicate (3 - (lg_sl ([.ref a0, .int v1, .int v2])).length) Slot.unset).toArray = ls at hl ⊢
  have hl : lv_has ls 3 [(0, .ref a0), (1, .int v1), (2, .int v2)] := hl
  have h : wp_X7_move post Z a0 v1 v2 := h
  refine lv_aload_n X.1.1 X.1.2.1 dX7_move_0 rfl (lv_at hl 0 rfl) ?_
  refine lv_iload_n X.1.1 X.1.2.1 dX7_move_1 rfl (lv_at hl 1 rfl) ?_
  obtain ⟨k1, h⟩ := h
  refine r_callV (k := 8) (n := 1) (As := [.int v1]) X V (sd_X7_isStation l D ka _ Z _ a0 v1 h) k1 (by decide) (by decide) rfl wd_455 wd_456 wd_447 wd_457 wd_458 rfl rfl (by decide +kernel) ⟨Nat.le_of_ble_eq_true rfl, Nat.le_of_ble_eq_true rfl⟩ rfl hl.1 rfl (Nat.le_of_ble_eq_true rfl) dX7_move_2 ⟨show 0 ≤ 0 by omega, show 0 ≤ 0 by omega⟩ (fun r3 S2 H locs h m4 V => ?_)
  have k1 := m4.k k1 (by decide)
  refine lv_if_eq (tgt := 16) X.1.1 X.1.2.1 dX7_move_5 (by decide) (fun c5 => ?_) (fun c5 => ?_)
  · have h := h.1 c5
    refine lv_iconst (v := (0 : Int32)) X.1.1 X.1.2.1 dX7_move_16 (by decide) ?_
    exact W.zret X.1.1 X.1.2.1 hr (by decide) (fun t ht _ => V.q (r := (0 : Int32)) h ht) V.2.1.2.2 dX7_move_17 X.1.2.2.2.2
  · have h := h.2 c5
    refine lv_aload_n X.1.1 X.1.2.1 dX7_move_8 rfl (lv_at hl 0 rfl) ?_
    refine lv_iload_n X.1.1 X.1.2.1 dX7_move_9 rfl (lv_at hl 2 rfl) ?_
    refine r_callV (k := 8) (n := 1) (As := [.int v2]) X V (sd_X7_isEndpoint l D ka _ S2 _ a0 v2 h) k1 (by decide) (by decide) rfl wd_445 wd_446 wd_447 wd_448 wd_449 rfl rfl (by decide +kernel) ⟨Nat.le_of_ble_eq_true rfl, Nat.le_of_ble_eq_true rfl⟩ rfl hl.1 rfl (Nat.le_of_ble_eq_true rfl) dX7_move_10 ⟨show 0 ≤ 0 by omega, show 0 ≤ 0 by omega⟩ (fun r7 S6 H locs h m8 V => ?_)
    have k1 := m8.k k1 (by decide)
    refine lv_if_ne (tgt := 18) X.1.1 X.1.2.1 dX7_move_13 (by decide) (fun c9 => ?_) (fun c9 => ?_)
    · have h := h.1 c9
      refine lv_aload_n X.1.1 X.1.2.1 dX7_move_18 rfl (lv_at hl 0 rfl) ?_
      obtain ⟨o10, e11, h⟩ := h
      refine gf_X7_7 X V k1 e11 dX7_move_19 ?_
      refine lv_iload_n X.1.1 X.1.2.1 dX7_move_22 rfl (lv_at hl 1 rfl) ?_
      refine lv_iload_n X.1.1 X.1.2.1 dX7_move_23 rfl (lv_at hl 2 rfl) ?_
      obtain ⟨k12, h⟩ := h
      obtain ⟨i13, h⟩ := h
      refine r_iast X V k12 i13 dX7_move_24 (fun H locs V => ?_)
      refine lv_iconst (v := (1 : Int32)) X.1.1 X.1.2.1 dX7_move_25 (by decide) ?_
      exact W.zret X.1.1 X.1.2.1 hr (by decide) (fun t ht _ => V.q (r := (1 : Int32)) h ht) V.2.1.2.2 dX7_move_26 X.1.2.2.2.2
    · have h := h.2 c9
      refine lv_iconst (v := (0 : Int32)) X.1.1 X.1.2.1 dX7_move_16 (by decide) ?_
      exact W.zret X.1.1 X.1.2.1 hr (by decide) (fun t ht _ => V.q (r := (0 : Int32)) h ht) V.2.1.2.2 dX7_move_17 X.1.2.2.2.2
abbrev rm_X7_way : Room := { frames := 1, cells := 0, slots := 0, locals := 21 }
def wp_X7_way (post : Int32 → HS → Prop) (S : HS) (a0 : Nat) (v1 : Int32) (v2 : Int32) (v3 : Int32) : Prop := kd S a0 = 8 ∧ (wp_X7_isEndpoint (fun r3 S2 => ((r3 = 0 → post (0 : Int32) S2) ∧ (¬ r3 = 0 → wp_X7_isEndpoint (fun r7 S6 => ((r7 = 0 → post (0 : Int32) S6) ∧ (¬ r7 = 0 → ((v1 = v2 → post (0 : Int32) S6) ∧ (¬ v1 = v2 → ((v3 < 0 → post (0 : Int32) S6) ∧ (¬ v3 < 0 → ((v3 ≤ (2 : Int32) → ∃ o13 : Nat, fr S6 35 a0 = some o13 ∧ (kd S6 o13 / 32 = 1 ∧ (vp_in (((8 : Int32) * v1) + v2) (ln S6 o13) ∧ (post (1 : Int32) (sai S6 o13 (((8 : Int32) * v1) + v2).toNatClampNeg v3))))) ∧ (¬ v3 ≤ (2 : Int32) → post (0 : Int32) S6))))))))) S2 a0 v2))) S a0 v1)
set_option maxHeartbeats 400000 in
set_option maxRecDepth 100000 in
theorem sd_X7_way (l : Launch) (D : va_G) (ka : Nat → ClassId) (sz : Nat) (Z : HS) (post : Int32 → HS → Prop) (a0 : Nat) (v1 : Int32) (v2 : Int32) (v3 : Int32) (h : wp_X7_way post Z a0 v1 v2 v3) : Met l yX7_way [Cond.code yX7_way cX7_way 4 (some .boolean)] rm_X7_way (Px D ka Z sz [.ref a0, .int v1, .int v2, .int v3]) (Qx eI post D ka Z sz) 0 0 (fA Z sz) := by
  refine Met.ofW (cc := cX7_way) (maxL := 4) (ret := (some .boolean)) (by decide) rfl ?_
  intro p e s m args below meth c s₁ B hml hv
  obtain ⟨rfl, X, V, hsz⟩ := Cx.entry B hml hv
  have hr : meth.sig.returnType = (some .boolean) := B.returns
  have hl := lv_entry ([.ref a0, .int v1, .int v2, .int v3]) (n := 4) (Nat.le_of_ble_eq_true rfl)
  rw [lg_entry_eq]
  generalize (lg_sl ([.ref a0, .int v1, .int v2, .int v3]) ++ List.replicate (4 - (lg_sl ([.ref a0, .int v1, .int v2, .int v3])).length) Slot.unset).toArray = ls at hl ⊢
  have hl : lv_has ls 4 [(0, .ref a0), (1, .int v1), (2, .int v2), (3, .int v3)] := hl
  have h : wp_X7_way post Z a0 v1 v2 v3 := h
  refine lv_aload_n X.1.1 X.1.2.1 dX7_way_0 rfl (lv_at hl 0 rfl) ?_
  refine lv_iload_n X.1.1 X.1.2.1 dX7_way_1 rfl (lv_at hl 1 rfl) ?_
  obtain ⟨k1, h⟩ := h
  refine r_callV (k := 8) (n := 1) (As := [.int v1]) X V (sd_X7_isEndpoint l D ka _ Z _ a0 v1 h) k1 (by decide) (by decide) rfl wd_445 wd_446 wd_447 wd_448 wd_449 rfl rfl (by decide +kernel) ⟨Nat.le_of_ble_eq_true rfl, Nat.le_of_ble_eq_true rfl⟩ rfl hl.1 rfl (Nat.le_of_ble_eq_true rfl) dX7_way_2 ⟨show 0 ≤ 0 by omega, show 0 ≤ 0 by omega⟩ (fun r3 S2 H locs h m4 V => ?_)
  have k1 := m4.k k1 (by decide)
  refine lv_if_eq (tgt := 30) X.1.1 X.1.2.1 dX7_way_5 (by decide) (fun c5 => ?_) (fun c5 => ?_)
  · have h := h.1 c5
    refine lv_iconst (v := (0 : Int32)) X.1.1 X.1.2.1 dX7_way_30 (by decide) ?_
    exact W.zret X.1.1 X.1.2.1 hr (by decide) (fun t ht _ => V.q (r := (0 : Int32)) h ht) V.2.1.2.2 dX7_way_31 X.1.2.2.2.2
  · have h := h.2 c5
    refine lv_aload_n X.1.1 X.1.2.1 dX7_way_8 rfl (lv_at hl 0 rfl) ?_
    refine lv_iload_n X.1.1 X.1.2.1 dX7_way_9 rfl (lv_at hl 2 rfl) ?_
    refine r_callV (k := 8) (n := 1) (As := [.int v2]) X V (sd_X7_isEndpoint l D ka _ S2 _ a0 v2 h) k1 (by decide) (by decide) rfl wd_445 wd_446 wd_447 wd_448 wd_449 rfl rfl (by decide +kernel) ⟨Nat.le_of_ble_eq_true rfl, Nat.le_of_ble_eq_true rfl⟩ rfl hl.1 rfl (Nat.le_of_ble_eq_true rfl) dX7_way_10 ⟨show 0 ≤ 0 by omega, show 0 ≤ 0 by omega⟩ (fun r7 S6 H locs h m8 V => ?_)
    have k1 := m8.k k1 (by decide)
    refine lv_if_eq (tgt := 30) X.1.1 X.1.2.1 dX7_way_13 (by decide) (fun c9 => ?_) (fun c9 => ?_)
    · have h := h.1 c9
      refine lv_iconst (v := (0 : Int32)) X.1.1 X.1.2.1 dX7_way_30 (by decide) ?_
      exact W.zret X.1.1 X.1.2.1 hr (by decide) (fun t ht _ => V.q (r := (0 : Int32)) h ht) V.2.1.2.2 dX7_way_31 X.1.2.2.2.2
    · have h := h.2 c9
      refine lv_iload_n X.1.1 X.1.2.1 dX7_way_16 rfl (lv_at hl 1 rfl) ?_
      refine lv_iload_n X.1.1 X.1.2.1 dX7_way_17 rfl (lv_at hl 2 rfl) ?_
      refine lv_icmp_eq (tgt := 30) X.1.1 X.1.2.1 dX7_way_18 (by decide) (fun c10 => ?_) (fun c10 => ?_)
      · have h := h.1 c10
        refine lv_iconst (v := (0 : Int32)) X.1.1 X.1.2.1 dX7_way_30 (by decide) ?_
        exact W.zret X.1.1 X.1.2.1 hr (by decide) (fun t ht _ => V.q (r := (0 : Int32)) h ht) V.2.1.2.2 dX7_way_31 X.1.2.2.2.2
      · have h := h.2 c10
        refine lv_iload_n X.1.1 X.1.2.1 dX7_way_21 rfl (lv_at hl 3 rfl) ?_
        refine lv_if_lt (tgt := 30) X.1.1 X.1.2.1 dX7_way_22 (by decide) (fun c11 => ?_) (fun c11 => ?_)
        · have h := h.1 c11
          refine lv_iconst (v := (0 : Int32)) X.1.1 X.1.2.1 dX7_way_30 (by decide) ?_
          exact W.zret X.1.1 X.1.2.1 hr (by decide) (fun t ht _ => V.q (r := (0 : Int32)) h ht) V.2.1.2.2 dX7_way_31 X.1.2.2.2.2
        · have h := h.2 c11
          refine lv_iload_n X.1.1 X.1.2.1 dX7_way_25 rfl (lv_at hl 3 rfl) ?_
          refine lv_iconst (v := (2 : Int32)) X.1.1 X.1.2.1 dX7_way_26 (by decide) ?_
          refine lv_icmp_le (tgt := 32) X.1.1 X.1.2.1 dX7_way_27 (by decide) (fun c12 => ?_) (fun c12 => ?_)
          · have h := h.1 c12
            refine lv_aload_n X.1.1 X.1.2.1 dX7_way_32 rfl (lv_at hl 0 rfl) ?_
            obtain ⟨o13, e14, h⟩ := h
            refine gf_X7_29 X V k1 e14 dX7_way_33 ?_
            refine lv_bipush (v := (8 : Int32)) X.1.1 X.1.2.1 dX7_way_36 (by decide) ?_
            refine lv_iload_n X.1.1 X.1.2.1 dX7_way_38 rfl (lv_at hl 1 rfl) ?_
            refine lv_imul X.1.1 X.1.2.1 dX7_way_39 ?_
            refine lv_iload_n X.1.1 X.1.2.1 dX7_way_40 rfl (lv_at hl 2 rfl) ?_
            refine lv_iadd X.1.1 X.1.2.1 dX7_way_41 ?_
            refine lv_iload_n X.1.1 X.1.2.1 dX7_way_42 rfl (lv_at hl 3 rfl) ?_
            obtain ⟨k15, h⟩ := h
            obtain ⟨i16, h⟩ := h
            refine r_iast X V k15 i16 dX7_way_43 (fun H locs V => ?_)
            refine lv_iconst (v := (1 : Int32)) X.1.1 X.1.2.1 dX7_way_44 (by decide) ?_
            exact W.zret X.1.1 X.1.2.1 hr (by decide) (fun t ht _ => V.q (r := (1 : Int32)) h ht) V.2.1.2.2 dX7_way_45 X.1.2.2.2.2
          · have h := h.2 c12
            refine lv_iconst (v := (0 : Int32)) X.1.1 X.1.2.1 dX7_way_30 (by decide) ?_
            exact W.zret X.1.1 X.1.2.1 hr (by decide) (fun t ht _ => V.q (r := (0 : Int32)) h ht) V.2.1.2.2 dX7_way_31 X.1.2.2.2.2
abbrev rm_X7_feed : Room := { frames := 0, cells := 0, slots := 0, locals := 0 }
def wp_X7_feed (post : Int32 → HS → Prop) (S : HS) (a0 : Nat) (v1 : Int32) : Prop := ((v1 < 0 → post (0 : Int32) S) ∧ (¬ v1 < 0 → (((255 : Int32) < v1 → post (0 : Int32) S) ∧ (¬ (255 : Int32) < v1 → kd S a0 = 8 ∧ (((¬ (fi S 43 a0) = (120 : Int32) → ∃ o5 : Nat, fr S 42 a0 = some o5 ∧ (kd S o5 / 32 = 2 ∧ (vp_in (fi S 43 a0) (ln S o5) ∧ (post (1 : Int32) (sfi (sai S o5 (fi S 43 a0).toNatClampNeg ((v1.toInt8.toInt32).toInt8.toInt32)) 43 a0 ((fi (sai S o5 (fi S 43 a0).toNatClampNeg ((v1.toInt8.toInt32).toInt8.toInt32)) 43 a0) + (1 : Int32))))))) ∧ ((fi S 43 a0) = (120 : Int32) → post (0 : Int32) S)))))))
set_option maxHeartbeats 400000 in
set_option maxRecDepth 100000 in
theorem sd_X7_feed (l : Launch) (D : va_G) (ka : Nat → ClassId) (sz : Nat) (Z : HS) (post : Int32 → HS → Prop) (a0 : Nat) (v1 : Int32) (h : wp_X7_feed post Z a0 v1) : Met l yX7_feed [Cond.code yX7_feed cX7_feed 2 (some .boolean)] rm_X7_feed (Px D ka Z sz [.ref a0, .int v1]) (Qx eI post D ka Z sz) 0 0 (fA Z sz) := by
  refine Met.ofW (cc := cX7_feed) (maxL := 2) (ret := (some .boolean)) (by decide) rfl ?_
  intro p e s m args below meth c s₁ B hml hv
  obtain ⟨rfl, X, V, hsz⟩ := Cx.entry B hml hv
  have hr : meth.sig.returnType = (some .boolean) := B.returns
  have hl := lv_entry ([.ref a0, .int v1]) (n := 2) (Nat.le_of_ble_eq_true rfl)
  rw [lg_entry_eq]
  generalize (lg_sl ([.ref a0, .int v1]) ++ List.replicate (2 - (lg_sl ([.ref a0, .int v1])).length) Slot.unset).toArray = ls at hl ⊢
  have hl : lv_has ls 2 [(0, .ref a0), (1, .int v1)] := hl
  have h : wp_X7_feed post Z a0 v1 := h
  refine lv_iload_n X.1.1 X.1.2.1 dX7_feed_0 rfl (lv_at hl 1 rfl) ?_
  refine lv_if_lt (tgt := 20) X.1.1 X.1.2.1 dX7_feed_1 (by decide) (fun c1 => ?_) (fun c1 => ?_)
  · have h := h.1 c1
    refine lv_iconst (v := (0 : Int32)) X.1.1 X.1.2.1 dX7_feed_20 (by decide) ?_
    exact W.zret X.1.1 X.1.2.1 hr (by decide) (fun t ht _ => V.q (r := (0 : Int32)) h ht) V.2.1.2.2 dX7_feed_21 X.1.2.2.2.2
  · have h := h.2 c1
    refine lv_iload_n X.1.1 X.1.2.1 dX7_feed_4 rfl (lv_at hl 1 rfl) ?_
    refine lv_sipush (v := (255 : Int32)) X.1.1 X.1.2.1 dX7_feed_5 (by decide) ?_
    refine lv_icmp_gt (tgt := 20) X.1.1 X.1.2.1 dX7_feed_8 (by decide) (fun c2 => ?_) (fun c2 => ?_)
    · have h := h.1 c2
      refine lv_iconst (v := (0 : Int32)) X.1.1 X.1.2.1 dX7_feed_20 (by decide) ?_
      exact W.zret X.1.1 X.1.2.1 hr (by decide) (fun t ht _ => V.q (r := (0 : Int32)) h ht) V.2.1.2.2 dX7_feed_21 X.1.2.2.2.2
    · have h := h.2 c2
      refine lv_aload_n X.1.1 X.1.2.1 dX7_feed_11 rfl (lv_at hl 0 rfl) ?_
      obtain ⟨k3, h⟩ := h
      refine gf_X7_93 X V k3 dX7_feed_12 ?_
      refine lv_bipush (v := (120 : Int32)) X.1.1 X.1.2.1 dX7_feed_15 (by decide) ?_
      refine lv_icmp_ne (tgt := 22) X.1.1 X.1.2.1 dX7_feed_17 (by decide) (fun c4 => ?_) (fun c4 => ?_)
      · have h := h.1 c4
        refine lv_aload_n X.1.1 X.1.2.1 dX7_feed_22 rfl (lv_at hl 0 rfl) ?_
        obtain ⟨o5, e6, h⟩ := h
        refine gf_X7_51 X V k3 e6 dX7_feed_23 ?_
        refine lv_aload_n X.1.1 X.1.2.1 dX7_feed_26 rfl (lv_at hl 0 rfl) ?_
        refine gf_X7_93 X V k3 dX7_feed_27 ?_
        refine lv_iload_n X.1.1 X.1.2.1 dX7_feed_30 rfl (lv_at hl 1 rfl) ?_
        refine lv_i2b X.1.1 X.1.2.1 dX7_feed_31 rfl ?_
        obtain ⟨k7, h⟩ := h
        obtain ⟨i8, h⟩ := h
        refine r_bast X V k7 i8 dX7_feed_32 (fun H locs V => ?_)
        refine lv_aload_n X.1.1 X.1.2.1 dX7_feed_33 rfl (lv_at hl 0 rfl) ?_
        refine lv_dup X.1.1 X.1.2.1 dX7_feed_34 rfl ?_
        refine gf_X7_93 X V k3 dX7_feed_35 ?_
        refine lv_iconst (v := (1 : Int32)) X.1.1 X.1.2.1 dX7_feed_38 (by decide) ?_
        refine lv_iadd X.1.1 X.1.2.1 dX7_feed_39 ?_
        refine pf_X7_93 X V k3 dX7_feed_40 (fun H locs V => ?_)
        refine lv_iconst (v := (1 : Int32)) X.1.1 X.1.2.1 dX7_feed_43 (by decide) ?_
        exact W.zret X.1.1 X.1.2.1 hr (by decide) (fun t ht _ => V.q (r := (1 : Int32)) h ht) V.2.1.2.2 dX7_feed_44 X.1.2.2.2.2
      · have h := h.2 c4
        refine lv_iconst (v := (0 : Int32)) X.1.1 X.1.2.1 dX7_feed_20 (by decide) ?_
        exact W.zret X.1.1 X.1.2.1 hr (by decide) (fun t ht _ => V.q (r := (0 : Int32)) h ht) V.2.1.2.2 dX7_feed_21 X.1.2.2.2.2
abbrev rm_X7_has : Room := { frames := 0, cells := 0, slots := 0, locals := 0 }
def wp_X7_has_5 : Nat → (Int32 → HS → Prop) → HS → Nat → Int32 → Int32 → Int32 → Int32 → Prop
  | 0, _, _, _, _, _, _, _ => False
  | n + 1, post, S, b0, x1, x2, x3, x4 => kd S b0 = 8 ∧ ((((fi S 28 b0) ≤ x4 → narrow .boolean (.int x3) = .int x3 ∧ post x3 S) ∧ (¬ (fi S 28 b0) ≤ x4 → ∃ o4 : Nat, fr S 29 b0 = some o4 ∧ (kd S o4 / 32 = 1 ∧ (vp_in x4 (ln S o4) ∧ (((¬ (ai S o4 x4.toNatClampNeg) = x1 → wp_X7_has_5 n post S b0 x1 x2 (x3 ||| (0 : Int32)) (x4 + (1 : Int32))) ∧ ((ai S o4 x4.toNatClampNeg) = x1 → ∃ o9 : Nat, fr S 30 b0 = some o9 ∧ (kd S o9 / 32 = 1 ∧ (vp_in x4 (ln S o9) ∧ (((¬ (ai S o9 x4.toNatClampNeg) = x2 → wp_X7_has_5 n post S b0 x1 x2 (x3 ||| (0 : Int32)) (x4 + (1 : Int32))) ∧ ((ai S o9 x4.toNatClampNeg) = x2 → wp_X7_has_5 n post S b0 x1 x2 (x3 ||| (1 : Int32)) (x4 + (1 : Int32)))))))))))))))
set_option maxHeartbeats 400000 in
set_option maxRecDepth 100000 in
theorem sl_X7_has_5 (l : Launch) (D : va_G) (ka : Nat → ClassId) (sz : Nat) (Z : HS) (post : Int32 → HS → Prop) {p : Program} {e : Env} {s : State} {m : MethodId} {args : Array Value} {below : List Frame} {meth : Method} {c : Code} (X : Cx p s m meth c cX7_has 5 RX7 D ka Z (fA Z sz)) (hr : meth.sig.returnType = (some .boolean))  : ∀ (n : Nat), ∀ (S : HS) (b0 : Nat) (x1 : Int32) (x2 : Int32) (x3 : Int32) (x4 : Int32), wp_X7_has_5 n post S b0 x1 x2 x3 x4 → ∀ (H : Heap) (locs : List Loc) (ls : Array Slot), Hv D ka Z s (fA Z sz) S H locs → lv_has ls 5 [(0, .ref b0), (1, .int x1), (2, .int x2), (3, .int x3), (4, .int x4)] → W p l e rm_X7_has s m args below meth c H locs 0 0 (MQ below (Qx eI post D ka Z sz) args s 0 0 (fA Z sz)) (F0 m 5 ls []) := by
  intro n
  induction n with
  | zero => intro S b0 x1 x2 x3 x4 h; exact h.elim
  | succ n ih =>
    intro S b0 x1 x2 x3 x4 h H locs ls V hl
    refine lv_iload X.1.1 X.1.2.1 dX7_has_5 (lv_at hl 4 rfl) ?_
    refine lv_aload_n X.1.1 X.1.2.1 dX7_has_7 rfl (lv_at hl 0 rfl) ?_
    obtain ⟨k1, h⟩ := h
    refine gf_X7_80 X V k1 dX7_has_8 ?_
    refine lv_icmp_ge (tgt := 50) X.1.1 X.1.2.1 dX7_has_11 (by decide) (fun c2 => ?_) (fun c2 => ?_)
    · have h := h.1 c2
      refine lv_iload_n X.1.1 X.1.2.1 dX7_has_50 rfl (lv_at hl 3 rfl) ?_
      obtain ⟨z3, h⟩ := h
      exact W.zret X.1.1 X.1.2.1 hr z3 (fun t ht _ => V.q (r := x3) h ht) V.2.1.2.2 dX7_has_51 X.1.2.2.2.2
    · have h := h.2 c2
      refine lv_iload_n X.1.1 X.1.2.1 dX7_has_14 rfl (lv_at hl 3 rfl) ?_
      refine lv_aload_n X.1.1 X.1.2.1 dX7_has_15 rfl (lv_at hl 0 rfl) ?_
      obtain ⟨o4, e5, h⟩ := h
      refine gf_X7_7 X V k1 e5 dX7_has_16 ?_
      refine lv_iload X.1.1 X.1.2.1 dX7_has_19 (lv_at hl 4 rfl) ?_
      obtain ⟨k6, h⟩ := h
      obtain ⟨i7, h⟩ := h
      refine r_iald X V k6 i7 dX7_has_21 ?_
      refine lv_iload_n X.1.1 X.1.2.1 dX7_has_22 rfl (lv_at hl 1 rfl) ?_
      refine lv_icmp_ne (tgt := 41) X.1.1 X.1.2.1 dX7_has_23 (by decide) (fun c8 => ?_) (fun c8 => ?_)
      · have h := h.1 c8
        refine lv_iconst (v := (0 : Int32)) X.1.1 X.1.2.1 dX7_has_41 (by decide) ?_
        refine lv_ior X.1.1 X.1.2.1 dX7_has_42 ?_
        refine lv_istore_n (lv' := [(3, .int (x3 ||| (0 : Int32))), (0, .ref b0), (1, .int x1), (2, .int x2), (4, .int x4)]) X.1.1 X.1.2.1 dX7_has_43 rfl hl (by decide) rfl (fun ls hl => ?_)
        refine lv_iinc (v := (x4 + (1 : Int32))) (lv' := [(4, .int (x4 + (1 : Int32))), (3, .int (x3 ||| (0 : Int32))), (0, .ref b0), (1, .int x1), (2, .int x2)]) X.1.1 X.1.2.1 dX7_has_44 hl (k := 4) rfl (congrArg (HAdd.hAdd _) (by decide)) (by decide) rfl (fun ls hl => ?_)
        refine lv_goto (tgt := 5) X.1.1 X.1.2.1 dX7_has_47 (by decide) ?_
        exact ih S b0 x1 x2 (x3 ||| (0 : Int32)) (x4 + (1 : Int32)) h _ _ _ V (lv_sub hl [2, 3, 4, 1, 0] rfl)
      · have h := h.2 c8
        refine lv_aload_n X.1.1 X.1.2.1 dX7_has_26 rfl (lv_at hl 0 rfl) ?_
        obtain ⟨o9, e10, h⟩ := h
        refine gf_X7_13 X V k1 e10 dX7_has_27 ?_
        refine lv_iload X.1.1 X.1.2.1 dX7_has_30 (lv_at hl 4 rfl) ?_
        obtain ⟨k11, h⟩ := h
        obtain ⟨i12, h⟩ := h
        refine r_iald X V k11 i12 dX7_has_32 ?_
        refine lv_iload_n X.1.1 X.1.2.1 dX7_has_33 rfl (lv_at hl 2 rfl) ?_
        refine lv_icmp_ne (tgt := 41) X.1.1 X.1.2.1 dX7_has_34 (by decide) (fun c13 => ?_) (fun c13 => ?_)
        · have h := h.1 c13
          refine lv_iconst (v := (0 : Int32)) X.1.1 X.1.2.1 dX7_has_41 (by decide) ?_
          refine lv_ior X.1.1 X.1.2.1 dX7_has_42 ?_
          refine lv_istore_n (lv' := [(3, .int (x3 ||| (0 : Int32))), (0, .ref b0), (1, .int x1), (2, .int x2), (4, .int x4)]) X.1.1 X.1.2.1 dX7_has_43 rfl hl (by decide) rfl (fun ls hl => ?_)
          refine lv_iinc (v := (x4 + (1 : Int32))) (lv' := [(4, .int (x4 + (1 : Int32))), (3, .int (x3 ||| (0 : Int32))), (0, .ref b0), (1, .int x1), (2, .int x2)]) X.1.1 X.1.2.1 dX7_has_44 hl (k := 4) rfl (congrArg (HAdd.hAdd _) (by decide)) (by decide) rfl (fun ls hl => ?_)
          refine lv_goto (tgt := 5) X.1.1 X.1.2.1 dX7_has_47 (by decide) ?_
          exact ih S b0 x1 x2 (x3 ||| (0 : Int32)) (x4 + (1 : Int32)) h _ _ _ V (lv_sub hl [2, 3, 4, 1, 0] rfl)
        · have h := h.2 c13
          refine lv_iconst (v := (1 : Int32)) X.1.1 X.1.2.1 dX7_has_37 (by decide) ?_
          refine lv_goto (tgt := 42) X.1.1 X.1.2.1 dX7_has_38 (by decide) ?_
          refine lv_ior X.1.1 X.1.2.1 dX7_has_42 ?_
          refine lv_istore_n (lv' := [(3, .int (x3 ||| (1 : Int32))), (0, .ref b0), (1, .int x1), (2, .int x2), (4, .int x4)]) X.1.1 X.1.2.1 dX7_has_43 rfl hl (by decide) rfl (fun ls hl => ?_)
          refine lv_iinc (v := (x4 + (1 : Int32))) (lv' := [(4, .int (x4 + (1 : Int32))), (3, .int (x3 ||| (1 : Int32))), (0, .ref b0), (1, .int x1), (2, .int x2)]) X.1.1 X.1.2.1 dX7_has_44 hl (k := 4) rfl (congrArg (HAdd.hAdd _) (by decide)) (by decide) rfl (fun ls hl => ?_)
          refine lv_goto (tgt := 5) X.1.1 X.1.2.1 dX7_has_47 (by decide) ?_
          exact ih S b0 x1 x2 (x3 ||| (1 : Int32)) (x4 + (1 : Int32)) h _ _ _ V (lv_sub hl [2, 3, 4, 1, 0] rfl)
def wp_X7_has (post : Int32 → HS → Prop) (S : HS) (a0 : Nat) (v1 : Int32) (v2 : Int32) : Prop := ∃ n9, wp_X7_has_5 n9 post S a0 v1 v2 (0 : Int32) (0 : Int32)
set_option maxHeartbeats 400000 in
set_option maxRecDepth 100000 in
theorem sd_X7_has (l : Launch) (D : va_G) (ka : Nat → ClassId) (sz : Nat) (Z : HS) (post : Int32 → HS → Prop) (a0 : Nat) (v1 : Int32) (v2 : Int32) (h : wp_X7_has post Z a0 v1 v2) : Met l yX7_has [Cond.code yX7_has cX7_has 5 (some .boolean)] rm_X7_has (Px D ka Z sz [.ref a0, .int v1, .int v2]) (Qx eI post D ka Z sz) 0 0 (fA Z sz) := by
  refine Met.ofW (cc := cX7_has) (maxL := 5) (ret := (some .boolean)) (by decide) rfl ?_
  intro p e s m args below meth c s₁ B hml hv
  obtain ⟨rfl, X, V, hsz⟩ := Cx.entry B hml hv
  have hr : meth.sig.returnType = (some .boolean) := B.returns
  have hl := lv_entry ([.ref a0, .int v1, .int v2]) (n := 5) (Nat.le_of_ble_eq_true rfl)
  rw [lg_entry_eq]
  generalize (lg_sl ([.ref a0, .int v1, .int v2]) ++ List.replicate (5 - (lg_sl ([.ref a0, .int v1, .int v2])).length) Slot.unset).toArray = ls at hl ⊢
  have hl : lv_has ls 5 [(0, .ref a0), (1, .int v1), (2, .int v2)] := hl
  have h : wp_X7_has post Z a0 v1 v2 := h
  refine lv_iconst (v := (0 : Int32)) X.1.1 X.1.2.1 dX7_has_0 (by decide) ?_
  refine lv_istore_n (lv' := [(3, .int (0 : Int32)), (0, .ref a0), (1, .int v1), (2, .int v2)]) X.1.1 X.1.2.1 dX7_has_1 rfl hl (by decide) rfl (fun ls hl => ?_)
  refine lv_iconst (v := (0 : Int32)) X.1.1 X.1.2.1 dX7_has_2 (by decide) ?_
  refine lv_istore (lv' := [(4, .int (0 : Int32)), (3, .int (0 : Int32)), (0, .ref a0), (1, .int v1), (2, .int v2)]) X.1.1 X.1.2.1 dX7_has_3 hl (by decide) rfl (fun ls hl => ?_)
  obtain ⟨n9, h⟩ := h
  exact sl_X7_has_5 l D ka sz Z post X hr n9 Z a0 v1 v2 (0 : Int32) (0 : Int32) h _ _ _ V (lv_sub hl [2, 3, 4, 1, 0] rfl)
abbrev rm_X7_find : Room := { frames := 0, cells := 0, slots := 0, locals := 0 }
def wp_X7_find_6 : Nat → (Int32 → HS → Prop) → HS → Nat → Int32 → Int32 → Int64 → Int32 → Prop
  | 0, _, _, _, _, _, _, _ => False
  | n + 1, post, S, b0, x1, x2, y3, x5 => kd S b0 = 8 ∧ (∃ o2 : Nat, fr S 37 b0 = some o2 ∧ (kd S o2 / 32 = 1 ∧ (vp_in x1 (ln S o2) ∧ ((((((24 : Int32) * x1) + (ai S o2 x1.toNatClampNeg)) ≤ x5 → post (-1 : Int32) S) ∧ (¬ (((24 : Int32) * x1) + (ai S o2 x1.toNatClampNeg)) ≤ x5 → ∃ o7 : Nat, fr S 38 b0 = some o7 ∧ (kd S o7 / 32 = 1 ∧ (vp_in x5 (ln S o7) ∧ (((¬ (ai S o7 x5.toNatClampNeg) = x2 → wp_X7_find_6 n post S b0 x1 x2 y3 (x5 + (1 : Int32))) ∧ ((ai S o7 x5.toNatClampNeg) = x2 → ∃ o12 : Nat, fr S 39 b0 = some o12 ∧ (kd S o12 / 32 = 3 ∧ (vp_in x5 (ln S o12) ∧ (((¬ (lg_cmp (al S o12 x5.toNatClampNeg) y3) = 0 → wp_X7_find_6 n post S b0 x1 x2 y3 (x5 + (1 : Int32))) ∧ ((lg_cmp (al S o12 x5.toNatClampNeg) y3) = 0 → post x5 S))))))))))))))))
set_option maxHeartbeats 400000 in
set_option maxRecDepth 100000 in
theorem sl_X7_find_6 (l : Launch) (D : va_G) (ka : Nat → ClassId) (sz : Nat) (Z : HS) (post : Int32 → HS → Prop) {p : Program} {e : Env} {s : State} {m : MethodId} {args : Array Value} {below : List Frame} {meth : Method} {c : Code} (X : Cx p s m meth c cX7_find 6 RX7 D ka Z (fA Z sz)) (hr : meth.sig.returnType = (some .int))  : ∀ (n : Nat), ∀ (S : HS) (b0 : Nat) (x1 : Int32) (x2 : Int32) (y3 : Int64) (x5 : Int32), wp_X7_find_6 n post S b0 x1 x2 y3 x5 → ∀ (H : Heap) (locs : List Loc) (ls : Array Slot), Hv D ka Z s (fA Z sz) S H locs → lv_has ls 6 [(0, .ref b0), (1, .int x1), (2, .int x2), (3, .long y3), (5, .int x5)] → W p l e rm_X7_find s m args below meth c H locs 0 0 (MQ below (Qx eI post D ka Z sz) args s 0 0 (fA Z sz)) (F0 m 6 ls []) := by
  intro n
  induction n with
  | zero => intro S b0 x1 x2 y3 x5 h; exact h.elim
  | succ n ih =>
    intro S b0 x1 x2 y3 x5 h H locs ls V hl
    refine lv_iload X.1.1 X.1.2.1 dX7_find_6 (lv_at hl 4 rfl) ?_
    refine lv_bipush (v := (24 : Int32)) X.1.1 X.1.2.1 dX7_find_8 (by decide) ?_
    refine lv_iload_n X.1.1 X.1.2.1 dX7_find_10 rfl (lv_at hl 1 rfl) ?_
    refine lv_imul X.1.1 X.1.2.1 dX7_find_11 ?_
    refine lv_aload_n X.1.1 X.1.2.1 dX7_find_12 rfl (lv_at hl 0 rfl) ?_
    obtain ⟨k1, h⟩ := h
    obtain ⟨o2, e3, h⟩ := h
    refine gf_X7_35 X V k1 e3 dX7_find_13 ?_
    refine lv_iload_n X.1.1 X.1.2.1 dX7_find_16 rfl (lv_at hl 1 rfl) ?_
    obtain ⟨k4, h⟩ := h
    obtain ⟨i5, h⟩ := h
    refine r_iald X V k4 i5 dX7_find_17 ?_
    refine lv_iadd X.1.1 X.1.2.1 dX7_find_18 ?_
    refine lv_icmp_ge (tgt := 54) X.1.1 X.1.2.1 dX7_find_19 (by decide) (fun c6 => ?_) (fun c6 => ?_)
    · have h := h.1 c6
      refine lv_iconst (v := (-1 : Int32)) X.1.1 X.1.2.1 dX7_find_54 (by decide) ?_
      exact W.iret X.1.1 X.1.2.1 hr (fun t ht _ => V.q (r := (-1 : Int32)) h ht) V.2.1.2.2 dX7_find_55 X.1.2.2.2.2
    · have h := h.2 c6
      refine lv_aload_n X.1.1 X.1.2.1 dX7_find_22 rfl (lv_at hl 0 rfl) ?_
      obtain ⟨o7, e8, h⟩ := h
      refine gf_X7_38 X V k1 e8 dX7_find_23 ?_
      refine lv_iload X.1.1 X.1.2.1 dX7_find_26 (lv_at hl 4 rfl) ?_
      obtain ⟨k9, h⟩ := h
      obtain ⟨i10, h⟩ := h
      refine r_iald X V k9 i10 dX7_find_28 ?_
      refine lv_iload_n X.1.1 X.1.2.1 dX7_find_29 rfl (lv_at hl 2 rfl) ?_
      refine lv_icmp_ne (tgt := 48) X.1.1 X.1.2.1 dX7_find_30 (by decide) (fun c11 => ?_) (fun c11 => ?_)
      · have h := h.1 c11
        refine lv_iinc (v := (x5 + (1 : Int32))) (lv' := [(5, .int (x5 + (1 : Int32))), (0, .ref b0), (1, .int x1), (2, .int x2), (3, .long y3)]) X.1.1 X.1.2.1 dX7_find_48 hl (k := 4) rfl (congrArg (HAdd.hAdd _) (by decide)) (by decide) rfl (fun ls hl => ?_)
        refine lv_goto (tgt := 6) X.1.1 X.1.2.1 dX7_find_51 (by decide) ?_
        exact ih S b0 x1 x2 y3 (x5 + (1 : Int32)) h _ _ _ V (lv_sub hl [1, 2, 3, 4, 0] rfl)
      · have h := h.2 c11
        refine lv_aload_n X.1.1 X.1.2.1 dX7_find_33 rfl (lv_at hl 0 rfl) ?_
        obtain ⟨o12, e13, h⟩ := h
        refine gf_X7_41 X V k1 e13 dX7_find_34 ?_
        refine lv_iload X.1.1 X.1.2.1 dX7_find_37 (lv_at hl 4 rfl) ?_
        obtain ⟨k14, h⟩ := h
        obtain ⟨i15, h⟩ := h
        refine r_lald X V k14 i15 dX7_find_39 ?_
        refine lv_lload_n X.1.1 X.1.2.1 dX7_find_40 rfl (lv_at hl 3 rfl) ?_
        refine W.lcmp X.1.1 X.1.2.1 dX7_find_41 ?_
        refine lv_if_ne (tgt := 48) X.1.1 X.1.2.1 dX7_find_42 (by decide) (fun c16 => ?_) (fun c16 => ?_)
        · have h := h.1 c16
          refine lv_iinc (v := (x5 + (1 : Int32))) (lv' := [(5, .int (x5 + (1 : Int32))), (0, .ref b0), (1, .int x1), (2, .int x2), (3, .long y3)]) X.1.1 X.1.2.1 dX7_find_48 hl (k := 4) rfl (congrArg (HAdd.hAdd _) (by decide)) (by decide) rfl (fun ls hl => ?_)
          refine lv_goto (tgt := 6) X.1.1 X.1.2.1 dX7_find_51 (by decide) ?_
          exact ih S b0 x1 x2 y3 (x5 + (1 : Int32)) h _ _ _ V (lv_sub hl [1, 2, 3, 4, 0] rfl)
        · have h := h.2 c16
          refine lv_iload X.1.1 X.1.2.1 dX7_find_45 (lv_at hl 4 rfl) ?_
          exact W.iret X.1.1 X.1.2.1 hr (fun t ht _ => V.q (r := x5) h ht) V.2.1.2.2 dX7_find_47 X.1.2.2.2.2
def wp_X7_find (post : Int32 → HS → Prop) (S : HS) (a0 : Nat) (v1 : Int32) (v2 : Int32) (w3 : Int64) : Prop := ∃ n9, wp_X7_find_6 n9 post S a0 v1 v2 w3 ((24 : Int32) * v1)
set_option maxHeartbeats 400000 in
set_option maxRecDepth 100000 in
theorem sd_X7_find (l : Launch) (D : va_G) (ka : Nat → ClassId) (sz : Nat) (Z : HS) (post : Int32 → HS → Prop) (a0 : Nat) (v1 : Int32) (v2 : Int32) (w3 : Int64) (h : wp_X7_find post Z a0 v1 v2 w3) : Met l yX7_find [Cond.code yX7_find cX7_find 6 (some .int)] rm_X7_find (Px D ka Z sz [.ref a0, .int v1, .int v2, .long w3]) (Qx eI post D ka Z sz) 0 0 (fA Z sz) := by
  refine Met.ofW (cc := cX7_find) (maxL := 6) (ret := (some .int)) (by decide) rfl ?_
  intro p e s m args below meth c s₁ B hml hv
  obtain ⟨rfl, X, V, hsz⟩ := Cx.entry B hml hv
  have hr : meth.sig.returnType = (some .int) := B.returns
  have hl := lv_entry ([.ref a0, .int v1, .int v2, .long w3]) (n := 6) (Nat.le_of_ble_eq_true rfl)
  rw [lg_entry_eq]
  generalize (lg_sl ([.ref a0, .int v1, .int v2, .long w3]) ++ List.replicate (6 - (lg_sl ([.ref a0, .int v1, .int v2, .long w3])).length) Slot.unset).toArray = ls at hl ⊢
  have hl : lv_has ls 6 [(0, .ref a0), (1, .int v1), (2, .int v2), (3, .long w3)] := hl
  have h : wp_X7_find post Z a0 v1 v2 w3 := h
  refine lv_bipush (v := (24 : Int32)) X.1.1 X.1.2.1 dX7_find_0 (by decide) ?_
  refine lv_iload_n X.1.1 X.1.2.1 dX7_find_2 rfl (lv_at hl 1 rfl) ?_
  refine lv_imul X.1.1 X.1.2.1 dX7_find_3 ?_
  refine lv_istore (lv' := [(5, .int ((24 : Int32) * v1)), (0, .ref a0), (1, .int v1), (2, .int v2), (3, .long w3)]) X.1.1 X.1.2.1 dX7_find_4 hl (by decide) rfl (fun ls hl => ?_)
  obtain ⟨n9, h⟩ := h
  exact sl_X7_find_6 l D ka sz Z post X hr n9 Z a0 v1 v2 w3 ((24 : Int32) * v1) h _ _ _ V (lv_sub hl [1, 2, 3, 4, 0] rfl)
abbrev rm_X7_remove : Room := { frames := 0, cells := 0, slots := 0, locals := 0 }
def wp_X7_remove_12 : Nat → (Unit → HS → Prop) → HS → Nat → Int32 → Int32 → Prop
  | 0, _, _, _, _, _ => False
  | n + 1, post, S, b0, x1, x3 => kd S b0 = 8 ∧ (∃ o8 : Nat, fr S 37 b0 = some o8 ∧ (kd S o8 / 32 = 1 ∧ (vp_in x1 (ln S o8) ∧ ((((((24 : Int32) * x1) + (ai S o8 x1.toNatClampNeg)) ≤ x3 → post () S) ∧ (¬ (((24 : Int32) * x1) + (ai S o8 x1.toNatClampNeg)) ≤ x3 → ∃ o13 : Nat, fr S 38 b0 = some o13 ∧ (∃ o15 : Nat, fr S 38 b0 = some o15 ∧ (kd S o15 / 32 = 1 ∧ (vp_in (x3 + (1 : Int32)) (ln S o15) ∧ (kd S o13 / 32 = 1 ∧ (vp_in x3 (ln S o13) ∧ (∃ o21 : Nat, fr (sai S o13 x3.toNatClampNeg (ai S o15 (x3 + (1 : Int32)).toNatClampNeg)) 39 b0 = some o21 ∧ (∃ o23 : Nat, fr (sai S o13 x3.toNatClampNeg (ai S o15 (x3 + (1 : Int32)).toNatClampNeg)) 39 b0 = some o23 ∧ (kd (sai S o13 x3.toNatClampNeg (ai S o15 (x3 + (1 : Int32)).toNatClampNeg)) o23 / 32 = 3 ∧ (vp_in (x3 + (1 : Int32)) (ln (sai S o13 x3.toNatClampNeg (ai S o15 (x3 + (1 : Int32)).toNatClampNeg)) o23) ∧ (kd (sai S o13 x3.toNatClampNeg (ai S o15 (x3 + (1 : Int32)).toNatClampNeg)) o21 / 32 = 3 ∧ (vp_in x3 (ln (sai S o13 x3.toNatClampNeg (ai S o15 (x3 + (1 : Int32)).toNatClampNeg)) o21) ∧ (∃ o29 : Nat, fr (sal (sai S o13 x3.toNatClampNeg (ai S o15 (x3 + (1 : Int32)).toNatClampNeg)) o21 x3.toNatClampNeg (al (sai S o13 x3.toNatClampNeg (ai S o15 (x3 + (1 : Int32)).toNatClampNeg)) o23 (x3 + (1 : Int32)).toNatClampNeg)) 40 b0 = some o29 ∧ (∃ o31 : Nat, fr (sal (sai S o13 x3.toNatClampNeg (ai S o15 (x3 + (1 : Int32)).toNatClampNeg)) o21 x3.toNatClampNeg (al (sai S o13 x3.toNatClampNeg (ai S o15 (x3 + (1 : Int32)).toNatClampNeg)) o23 (x3 + (1 : Int32)).toNatClampNeg)) 40 b0 = some o31 ∧ (kd (sal (sai S o13 x3.toNatClampNeg (ai S o15 (x3 + (1 : Int32)).toNatClampNeg)) o21 x3.toNatClampNeg (al (sai S o13 x3.toNatClampNeg (ai S o15 (x3 + (1 : Int32)).toNatClampNeg)) o23 (x3 + (1 : Int32)).toNatClampNeg)) o31 / 32 = 1 ∧ (vp_in (x3 + (1 : Int32)) (ln (sal (sai S o13 x3.toNatClampNeg (ai S o15 (x3 + (1 : Int32)).toNatClampNeg)) o21 x3.toNatClampNeg (al (sai S o13 x3.toNatClampNeg (ai S o15 (x3 + (1 : Int32)).toNatClampNeg)) o23 (x3 + (1 : Int32)).toNatClampNeg)) o31) ∧ (kd (sal (sai S o13 x3.toNatClampNeg (ai S o15 (x3 + (1 : Int32)).toNatClampNeg)) o21 x3.toNatClampNeg (al (sai S o13 x3.toNatClampNeg (ai S o15 (x3 + (1 : Int32)).toNatClampNeg)) o23 (x3 + (1 : Int32)).toNatClampNeg)) o29 / 32 = 1 ∧ (vp_in x3 (ln (sal (sai S o13 x3.toNatClampNeg (ai S o15 (x3 + (1 : Int32)).toNatClampNeg)) o21 x3.toNatClampNeg (al (sai S o13 x3.toNatClampNeg (ai S o15 (x3 + (1 : Int32)).toNatClampNeg)) o23 (x3 + (1 : Int32)).toNatClampNeg)) o29) ∧ (∃ o37 : Nat, fr (sai (sal (sai S o13 x3.toNatClampNeg (ai S o15 (x3 + (1 : Int32)).toNatClampNeg)) o21 x3.toNatClampNeg (al (sai S o13 x3.toNatClampNeg (ai S o15 (x3 + (1 : Int32)).toNatClampNeg)) o23 (x3 + (1 : Int32)).toNatClampNeg)) o29 x3.toNatClampNeg (ai (sal (sai S o13 x3.toNatClampNeg (ai S o15 (x3 + (1 : Int32)).toNatClampNeg)) o21 x3.toNatClampNeg (al (sai S o13 x3.toNatClampNeg (ai S o15 (x3 + (1 : Int32)).toNatClampNeg)) o23 (x3 + (1 : Int32)).toNatClampNeg)) o31 (x3 + (1 : Int32)).toNatClampNeg)) 41 b0 = some o37 ∧ (∃ o39 : Nat, fr (sai (sal (sai S o13 x3.toNatClampNeg (ai S o15 (x3 + (1 : Int32)).toNatClampNeg)) o21 x3.toNatClampNeg (al (sai S o13 x3.toNatClampNeg (ai S o15 (x3 + (1 : Int32)).toNatClampNeg)) o23 (x3 + (1 : Int32)).toNatClampNeg)) o29 x3.toNatClampNeg (ai (sal (sai S o13 x3.toNatClampNeg (ai S o15 (x3 + (1 : Int32)).toNatClampNeg)) o21 x3.toNatClampNeg (al (sai S o13 x3.toNatClampNeg (ai S o15 (x3 + (1 : Int32)).toNatClampNeg)) o23 (x3 + (1 : Int32)).toNatClampNeg)) o31 (x3 + (1 : Int32)).toNatClampNeg)) 41 b0 = some o39 ∧ (kd (sai (sal (sai S o13 x3.toNatClampNeg (ai S o15 (x3 + (1 : Int32)).toNatClampNeg)) o21 x3.toNatClampNeg (al (sai S o13 x3.toNatClampNeg (ai S o15 (x3 + (1 : Int32)).toNatClampNeg)) o23 (x3 + (1 : Int32)).toNatClampNeg)) o29 x3.toNatClampNeg (ai (sal (sai S o13 x3.toNatClampNeg (ai S o15 (x3 + (1 : Int32)).toNatClampNeg)) o21 x3.toNatClampNeg (al (sai S o13 x3.toNatClampNeg (ai S o15 (x3 + (1 : Int32)).toNatClampNeg)) o23 (x3 + (1 : Int32)).toNatClampNeg)) o31 (x3 + (1 : Int32)).toNatClampNeg)) o39 / 32 = 3 ∧ (vp_in (x3 + (1 : Int32)) (ln (sai (sal (sai S o13 x3.toNatClampNeg (ai S o15 (x3 + (1 : Int32)).toNatClampNeg)) o21 x3.toNatClampNeg (al (sai S o13 x3.toNatClampNeg (ai S o15 (x3 + (1 : Int32)).toNatClampNeg)) o23 (x3 + (1 : Int32)).toNatClampNeg)) o29 x3.toNatClampNeg (ai (sal (sai S o13 x3.toNatClampNeg (ai S o15 (x3 + (1 : Int32)).toNatClampNeg)) o21 x3.toNatClampNeg (al (sai S o13 x3.toNatClampNeg (ai S o15 (x3 + (1 : Int32)).toNatClampNeg)) o23 (x3 + (1 : Int32)).toNatClampNeg)) o31 (x3 + (1 : Int32)).toNatClampNeg)) o39) ∧ (kd (sai (sal (sai S o13 x3.toNatClampNeg (ai S o15 (x3 + (1 : Int32)).toNatClampNeg)) o21 x3.toNatClampNeg (al (sai S o13 x3.toNatClampNeg (ai S o15 (x3 + (1 : Int32)).toNatClampNeg)) o23 (x3 + (1 : Int32)).toNatClampNeg)) o29 x3.toNatClampNeg (ai (sal (sai S o13 x3.toNatClampNeg (ai S o15 (x3 + (1 : Int32)).toNatClampNeg)) o21 x3.toNatClampNeg (al (sai S o13 x3.toNatClampNeg (ai S o15 (x3 + (1 : Int32)).toNatClampNeg)) o23 (x3 + (1 : Int32)).toNatClampNeg)) o31 (x3 + (1 : Int32)).toNatClampNeg)) o37 / 32 = 3 ∧ (vp_in x3 (ln (sai (sal (sai S o13 x3.toNatClampNeg (ai S o15 (x3 + (1 : Int32)).toNatClampNeg)) o21 x3.toNatClampNeg (al (sai S o13 x3.toNatClampNeg (ai S o15 (x3 + (1 : Int32)).toNatClampNeg)) o23 (x3 + (1 : Int32)).toNatClampNeg)) o29 x3.toNatClampNeg (ai (sal (sai S o13 x3.toNatClampNeg (ai S o15 (x3 + (1 : Int32)).toNatClampNeg)) o21 x3.toNatClampNeg (al (sai S o13 x3.toNatClampNeg (ai S o15 (x3 + (1 : Int32)).toNatClampNeg)) o23 (x3 + (1 : Int32)).toNatClampNeg)) o31 (x3 + (1 : Int32)).toNatClampNeg)) o37) ∧ (wp_X7_remove_12 n post (sal (sai (sal (sai S o13 x3.toNatClampNeg (ai S o15 (x3 + (1 : Int32)).toNatClampNeg)) o21 x3.toNatClampNeg (al (sai S o13 x3.toNatClampNeg (ai S o15 (x3 + (1 : Int32)).toNatClampNeg)) o23 (x3 + (1 : Int32)).toNatClampNeg)) o29 x3.toNatClampNeg (ai (sal (sai S o13 x3.toNatClampNeg (ai S o15 (x3 + (1 : Int32)).toNatClampNeg)) o21 x3.toNatClampNeg (al (sai S o13 x3.toNatClampNeg (ai S o15 (x3 + (1 : Int32)).toNatClampNeg)) o23 (x3 + (1 : Int32)).toNatClampNeg)) o31 (x3 + (1 : Int32)).toNatClampNeg)) o37 x3.toNatClampNeg (al (sai (sal (sai S o13 x3.toNatClampNeg (ai S o15 (x3 + (1 : Int32)).toNatClampNeg)) o21 x3.toNatClampNeg (al (sai S o13 x3.toNatClampNeg (ai S o15 (x3 + (1 : Int32)).toNatClampNeg)) o23 (x3 + (1 : Int32)).toNatClampNeg)) o29 x3.toNatClampNeg (ai (sal (sai S o13 x3.toNatClampNeg (ai S o15 (x3 + (1 : Int32)).toNatClampNeg)) o21 x3.toNatClampNeg (al (sai S o13 x3.toNatClampNeg (ai S o15 (x3 + (1 : Int32)).toNatClampNeg)) o23 (x3 + (1 : Int32)).toNatClampNeg)) o31 (x3 + (1 : Int32)).toNatClampNeg)) o39 (x3 + (1 : Int32)).toNatClampNeg)) b0 x1 (x3 + (1 : Int32))))))))))))))))))))))))))))))))
set_option maxHeartbeats 400000 in
set_option maxRecDepth 100000 in
theorem sl_X7_remove_12 (l : Launch) (D : va_G) (ka : Nat → ClassId) (sz : Nat) (Z : HS) (post : Unit → HS → Prop) {p : Program} {e : Env} {s : State} {m : MethodId} {args : Array Value} {below : List Frame} {meth : Method} {c : Code} (X : Cx p s m meth c cX7_remove 4 RX7 D ka Z (fA Z sz)) (hr : meth.sig.returnType = none)  : ∀ (n : Nat), ∀ (S : HS) (b0 : Nat) (x1 : Int32) (x3 : Int32), wp_X7_remove_12 n post S b0 x1 x3 → ∀ (H : Heap) (locs : List Loc) (ls : Array Slot), Hv D ka Z s (fA Z sz) S H locs → lv_has ls 4 [(0, .ref b0), (1, .int x1), (3, .int x3)] → W p l e rm_X7_remove s m args below meth c H locs 0 0 (MQ below (Qx eV post D ka Z sz) args s 0 0 (fA Z sz)) (F0 m 12 ls []) := by
  intro n
  induction n with
  | zero => intro S b0 x1 x3 h; exact h.elim
  | succ n ih =>
    intro S b0 x1 x3 h H locs ls V hl
    refine lv_iload_n X.1.1 X.1.2.1 dX7_remove_12 rfl (lv_at hl 2 rfl) ?_
    refine lv_bipush (v := (24 : Int32)) X.1.1 X.1.2.1 dX7_remove_13 (by decide) ?_
    refine lv_iload_n X.1.1 X.1.2.1 dX7_remove_15 rfl (lv_at hl 1 rfl) ?_
    refine lv_imul X.1.1 X.1.2.1 dX7_remove_16 ?_
    refine lv_aload_n X.1.1 X.1.2.1 dX7_remove_17 rfl (lv_at hl 0 rfl) ?_
    obtain ⟨k7, h⟩ := h
    obtain ⟨o8, e9, h⟩ := h
    refine gf_X7_35 X V k7 e9 dX7_remove_18 ?_
    refine lv_iload_n X.1.1 X.1.2.1 dX7_remove_21 rfl (lv_at hl 1 rfl) ?_
    obtain ⟨k10, h⟩ := h
    obtain ⟨i11, h⟩ := h
    refine r_iald X V k10 i11 dX7_remove_22 ?_
    refine lv_iadd X.1.1 X.1.2.1 dX7_remove_23 ?_
    refine lv_icmp_ge (tgt := 89) X.1.1 X.1.2.1 dX7_remove_24 (by decide) (fun c12 => ?_) (fun c12 => ?_)
    · have h := h.1 c12
      exact W.vret X.1.1 X.1.2.1 hr (fun t ht _ => V.q (r := ()) h ht) V.2.1.2.2 dX7_remove_89 X.1.2.2.2.2
    · have h := h.2 c12
      refine lv_aload_n X.1.1 X.1.2.1 dX7_remove_27 rfl (lv_at hl 0 rfl) ?_
      obtain ⟨o13, e14, h⟩ := h
      refine gf_X7_38 X V k7 e14 dX7_remove_28 ?_
      refine lv_iload_n X.1.1 X.1.2.1 dX7_remove_31 rfl (lv_at hl 2 rfl) ?_
      refine lv_aload_n X.1.1 X.1.2.1 dX7_remove_32 rfl (lv_at hl 0 rfl) ?_
      obtain ⟨o15, e16, h⟩ := h
      refine gf_X7_38 X V k7 e16 dX7_remove_33 ?_
      refine lv_iload_n X.1.1 X.1.2.1 dX7_remove_36 rfl (lv_at hl 2 rfl) ?_
      refine lv_iconst (v := (1 : Int32)) X.1.1 X.1.2.1 dX7_remove_37 (by decide) ?_
      refine lv_iadd X.1.1 X.1.2.1 dX7_remove_38 ?_
      obtain ⟨k17, h⟩ := h
      obtain ⟨i18, h⟩ := h
      refine r_iald X V k17 i18 dX7_remove_39 ?_
      obtain ⟨k19, h⟩ := h
      obtain ⟨i20, h⟩ := h
      refine r_iast X V k19 i20 dX7_remove_40 (fun H locs V => ?_)
      refine lv_aload_n X.1.1 X.1.2.1 dX7_remove_41 rfl (lv_at hl 0 rfl) ?_
      obtain ⟨o21, e22, h⟩ := h
      refine gf_X7_41 X V k7 e22 dX7_remove_42 ?_
      refine lv_iload_n X.1.1 X.1.2.1 dX7_remove_45 rfl (lv_at hl 2 rfl) ?_
      refine lv_aload_n X.1.1 X.1.2.1 dX7_remove_46 rfl (lv_at hl 0 rfl) ?_
      obtain ⟨o23, e24, h⟩ := h
      refine gf_X7_41 X V k7 e24 dX7_remove_47 ?_
      refine lv_iload_n X.1.1 X.1.2.1 dX7_remove_50 rfl (lv_at hl 2 rfl) ?_
      refine lv_iconst (v := (1 : Int32)) X.1.1 X.1.2.1 dX7_remove_51 (by decide) ?_
      refine lv_iadd X.1.1 X.1.2.1 dX7_remove_52 ?_
      obtain ⟨k25, h⟩ := h
      obtain ⟨i26, h⟩ := h
      refine r_lald X V k25 i26 dX7_remove_53 ?_
      obtain ⟨k27, h⟩ := h
      obtain ⟨i28, h⟩ := h
      refine r_last X V k27 i28 dX7_remove_54 (fun H locs V => ?_)
      refine lv_aload_n X.1.1 X.1.2.1 dX7_remove_55 rfl (lv_at hl 0 rfl) ?_
      obtain ⟨o29, e30, h⟩ := h
      refine gf_X7_45 X V k7 e30 dX7_remove_56 ?_
      refine lv_iload_n X.1.1 X.1.2.1 dX7_remove_59 rfl (lv_at hl 2 rfl) ?_
      refine lv_aload_n X.1.1 X.1.2.1 dX7_remove_60 rfl (lv_at hl 0 rfl) ?_
      obtain ⟨o31, e32, h⟩ := h
      refine gf_X7_45 X V k7 e32 dX7_remove_61 ?_
      refine lv_iload_n X.1.1 X.1.2.1 dX7_remove_64 rfl (lv_at hl 2 rfl) ?_
      refine lv_iconst (v := (1 : Int32)) X.1.1 X.1.2.1 dX7_remove_65 (by decide) ?_
      refine lv_iadd X.1.1 X.1.2.1 dX7_remove_66 ?_
      obtain ⟨k33, h⟩ := h
      obtain ⟨i34, h⟩ := h
      refine r_iald X V k33 i34 dX7_remove_67 ?_
      obtain ⟨k35, h⟩ := h
      obtain ⟨i36, h⟩ := h
      refine r_iast X V k35 i36 dX7_remove_68 (fun H locs V => ?_)
      refine lv_aload_n X.1.1 X.1.2.1 dX7_remove_69 rfl (lv_at hl 0 rfl) ?_
      obtain ⟨o37, e38, h⟩ := h
      refine gf_X7_48 X V k7 e38 dX7_remove_70 ?_
      refine lv_iload_n X.1.1 X.1.2.1 dX7_remove_73 rfl (lv_at hl 2 rfl) ?_
      refine lv_aload_n X.1.1 X.1.2.1 dX7_remove_74 rfl (lv_at hl 0 rfl) ?_
      obtain ⟨o39, e40, h⟩ := h
      refine gf_X7_48 X V k7 e40 dX7_remove_75 ?_
      refine lv_iload_n X.1.1 X.1.2.1 dX7_remove_78 rfl (lv_at hl 2 rfl) ?_
      refine lv_iconst (v := (1 : Int32)) X.1.1 X.1.2.1 dX7_remove_79 (by decide) ?_
      refine lv_iadd X.1.1 X.1.2.1 dX7_remove_80 ?_
      obtain ⟨k41, h⟩ := h
      obtain ⟨i42, h⟩ := h
      refine r_lald X V k41 i42 dX7_remove_81 ?_
      obtain ⟨k43, h⟩ := h
      obtain ⟨i44, h⟩ := h
      refine r_last X V k43 i44 dX7_remove_82 (fun H locs V => ?_)
      refine lv_iinc (v := (x3 + (1 : Int32))) (lv' := [(3, .int (x3 + (1 : Int32))), (0, .ref b0), (1, .int x1)]) X.1.1 X.1.2.1 dX7_remove_83 hl (k := 2) rfl (congrArg (HAdd.hAdd _) (by decide)) (by decide) rfl (fun ls hl => ?_)
      refine lv_goto (tgt := 12) X.1.1 X.1.2.1 dX7_remove_86 (by decide) ?_
      exact ih (sal (sai (sal (sai S o13 x3.toNatClampNeg (ai S o15 (x3 + (1 : Int32)).toNatClampNeg)) o21 x3.toNatClampNeg (al (sai S o13 x3.toNatClampNeg (ai S o15 (x3 + (1 : Int32)).toNatClampNeg)) o23 (x3 + (1 : Int32)).toNatClampNeg)) o29 x3.toNatClampNeg (ai (sal (sai S o13 x3.toNatClampNeg (ai S o15 (x3 + (1 : Int32)).toNatClampNeg)) o21 x3.toNatClampNeg (al (sai S o13 x3.toNatClampNeg (ai S o15 (x3 + (1 : Int32)).toNatClampNeg)) o23 (x3 + (1 : Int32)).toNatClampNeg)) o31 (x3 + (1 : Int32)).toNatClampNeg)) o37 x3.toNatClampNeg (al (sai (sal (sai S o13 x3.toNatClampNeg (ai S o15 (x3 + (1 : Int32)).toNatClampNeg)) o21 x3.toNatClampNeg (al (sai S o13 x3.toNatClampNeg (ai S o15 (x3 + (1 : Int32)).toNatClampNeg)) o23 (x3 + (1 : Int32)).toNatClampNeg)) o29 x3.toNatClampNeg (ai (sal (sai S o13 x3.toNatClampNeg (ai S o15 (x3 + (1 : Int32)).toNatClampNeg)) o21 x3.toNatClampNeg (al (sai S o13 x3.toNatClampNeg (ai S o15 (x3 + (1 : Int32)).toNatClampNeg)) o23 (x3 + (1 : Int32)).toNatClampNeg)) o31 (x3 + (1 : Int32)).toNatClampNeg)) o39 (x3 + (1 : Int32)).toNatClampNeg)) b0 x1 (x3 + (1 : Int32)) h _ _ _ V (lv_sub hl [1, 2, 0] rfl)
def wp_X7_remove (post : Unit → HS → Prop) (S : HS) (a0 : Nat) (v1 : Int32) (v2 : Int32) : Prop := kd S a0 = 8 ∧ (∃ o2 : Nat, fr S 37 a0 = some o2 ∧ (kd S o2 / 32 = 1 ∧ (vp_in v1 (ln S o2) ∧ (vp_in v1 (ln S o2) ∧ (∃ n9, wp_X7_remove_12 n9 post (sai S o2 v1.toNatClampNeg ((ai S o2 v1.toNatClampNeg) - (1 : Int32))) a0 v1 v2)))))
set_option maxHeartbeats 400000 in
set_option maxRecDepth 100000 in
theorem sd_X7_remove (l : Launch) (D : va_G) (ka : Nat → ClassId) (sz : Nat) (Z : HS) (post : Unit → HS → Prop) (a0 : Nat) (v1 : Int32) (v2 : Int32) (h : wp_X7_remove post Z a0 v1 v2) : Met l yX7_remove [Cond.code yX7_remove cX7_remove 4 none] rm_X7_remove (Px D ka Z sz [.ref a0, .int v1, .int v2]) (Qx eV post D ka Z sz) 0 0 (fA Z sz) := by
  refine Met.ofW (cc := cX7_remove) (maxL := 4) (ret := none) (by decide) rfl ?_
  intro p e s m args below meth c s₁ B hml hv
  obtain ⟨rfl, X, V, hsz⟩ := Cx.entry B hml hv
  have hr : meth.sig.returnType = none := B.returns
  have hl := lv_entry ([.ref a0, .int v1, .int v2]) (n := 4) (Nat.le_of_ble_eq_true rfl)
  rw [lg_entry_eq]
  generalize (lg_sl ([.ref a0, .int v1, .int v2]) ++ List.replicate (4 - (lg_sl ([.ref a0, .int v1, .int v2])).length) Slot.unset).toArray = ls at hl ⊢
  have hl : lv_has ls 4 [(0, .ref a0), (1, .int v1), (2, .int v2)] := hl
  have h : wp_X7_remove post Z a0 v1 v2 := h
  refine lv_aload_n X.1.1 X.1.2.1 dX7_remove_0 rfl (lv_at hl 0 rfl) ?_
  obtain ⟨k1, h⟩ := h
  obtain ⟨o2, e3, h⟩ := h
  refine gf_X7_35 X V k1 e3 dX7_remove_1 ?_
  refine lv_iload_n X.1.1 X.1.2.1 dX7_remove_4 rfl (lv_at hl 1 rfl) ?_
  refine lv_dup2_11 X.1.1 X.1.2.1 dX7_remove_5 rfl rfl ?_
  obtain ⟨k4, h⟩ := h
  obtain ⟨i5, h⟩ := h
  refine r_iald X V k4 i5 dX7_remove_6 ?_
  refine lv_iconst (v := (1 : Int32)) X.1.1 X.1.2.1 dX7_remove_7 (by decide) ?_
  refine lv_isub X.1.1 X.1.2.1 dX7_remove_8 ?_
  obtain ⟨i6, h⟩ := h
  refine r_iast X V k4 i6 dX7_remove_9 (fun H locs V => ?_)
  refine lv_iload_n X.1.1 X.1.2.1 dX7_remove_10 rfl (lv_at hl 2 rfl) ?_
  refine lv_istore_n (lv' := [(3, .int v2), (0, .ref a0), (1, .int v1), (2, .int v2)]) X.1.1 X.1.2.1 dX7_remove_11 rfl hl (by decide) rfl (fun ls hl => ?_)
  obtain ⟨n9, h⟩ := h
  exact sl_X7_remove_12 l D ka sz Z post X hr n9 (sai Z o2 v1.toNatClampNeg ((ai Z o2 v1.toNatClampNeg) - (1 : Int32))) a0 v1 v2 h _ _ _ V (lv_sub hl [1, 2, 0] rfl)
abbrev rm_X7_learn : Room := { frames := 1, cells := 0, slots := 0, locals := 25 }
def wp_X7_learn_133a (post : Unit → HS → Prop) (S : HS) (b0 : Nat) (x1 : Int32) (x2 : Int32) (y3 : Int64) (x5 : Int32) : Prop := kd S b0 = 8 ∧ (∃ o14 : Nat, fr S 37 b0 = some o14 ∧ (kd S o14 / 32 = 1 ∧ (vp_in x1 (ln S o14) ∧ (∃ o18 : Nat, fr S 38 b0 = some o18 ∧ (kd S o18 / 32 = 1 ∧ (vp_in (((24 : Int32) * x1) + (ai S o14 x1.toNatClampNeg)) (ln S o18) ∧ (∃ o22 : Nat, fr (sai S o18 (((24 : Int32) * x1) + (ai S o14 x1.toNatClampNeg)).toNatClampNeg x2) 39 b0 = some o22 ∧ (kd (sai S o18 (((24 : Int32) * x1) + (ai S o14 x1.toNatClampNeg)).toNatClampNeg x2) o22 / 32 = 3 ∧ (vp_in (((24 : Int32) * x1) + (ai S o14 x1.toNatClampNeg)) (ln (sai S o18 (((24 : Int32) * x1) + (ai S o14 x1.toNatClampNeg)).toNatClampNeg x2) o22) ∧ (∃ o26 : Nat, fr (sal (sai S o18 (((24 : Int32) * x1) + (ai S o14 x1.toNatClampNeg)).toNatClampNeg x2) o22 (((24 : Int32) * x1) + (ai S o14 x1.toNatClampNeg)).toNatClampNeg y3) 40 b0 = some o26 ∧ (kd (sal (sai S o18 (((24 : Int32) * x1) + (ai S o14 x1.toNatClampNeg)).toNatClampNeg x2) o22 (((24 : Int32) * x1) + (ai S o14 x1.toNatClampNeg)).toNatClampNeg y3) o26 / 32 = 1 ∧ (vp_in (((24 : Int32) * x1) + (ai S o14 x1.toNatClampNeg)) (ln (sal (sai S o18 (((24 : Int32) * x1) + (ai S o14 x1.toNatClampNeg)).toNatClampNeg x2) o22 (((24 : Int32) * x1) + (ai S o14 x1.toNatClampNeg)).toNatClampNeg y3) o26) ∧ (∃ o30 : Nat, fr (sai (sal (sai S o18 (((24 : Int32) * x1) + (ai S o14 x1.toNatClampNeg)).toNatClampNeg x2) o22 (((24 : Int32) * x1) + (ai S o14 x1.toNatClampNeg)).toNatClampNeg y3) o26 (((24 : Int32) * x1) + (ai S o14 x1.toNatClampNeg)).toNatClampNeg x5) 41 b0 = some o30 ∧ (kd (sai (sal (sai S o18 (((24 : Int32) * x1) + (ai S o14 x1.toNatClampNeg)).toNatClampNeg x2) o22 (((24 : Int32) * x1) + (ai S o14 x1.toNatClampNeg)).toNatClampNeg y3) o26 (((24 : Int32) * x1) + (ai S o14 x1.toNatClampNeg)).toNatClampNeg x5) o30 / 32 = 3 ∧ (vp_in (((24 : Int32) * x1) + (ai S o14 x1.toNatClampNeg)) (ln (sai (sal (sai S o18 (((24 : Int32) * x1) + (ai S o14 x1.toNatClampNeg)).toNatClampNeg x2) o22 (((24 : Int32) * x1) + (ai S o14 x1.toNatClampNeg)).toNatClampNeg y3) o26 (((24 : Int32) * x1) + (ai S o14 x1.toNatClampNeg)).toNatClampNeg x5) o30) ∧ (∃ o34 : Nat, fr (sal (sai (sal (sai S o18 (((24 : Int32) * x1) + (ai S o14 x1.toNatClampNeg)).toNatClampNeg x2) o22 (((24 : Int32) * x1) + (ai S o14 x1.toNatClampNeg)).toNatClampNeg y3) o26 (((24 : Int32) * x1) + (ai S o14 x1.toNatClampNeg)).toNatClampNeg x5) o30 (((24 : Int32) * x1) + (ai S o14 x1.toNatClampNeg)).toNatClampNeg (0 : Int64)) 37 b0 = some o34 ∧ (kd (sal (sai (sal (sai S o18 (((24 : Int32) * x1) + (ai S o14 x1.toNatClampNeg)).toNatClampNeg x2) o22 (((24 : Int32) * x1) + (ai S o14 x1.toNatClampNeg)).toNatClampNeg y3) o26 (((24 : Int32) * x1) + (ai S o14 x1.toNatClampNeg)).toNatClampNeg x5) o30 (((24 : Int32) * x1) + (ai S o14 x1.toNatClampNeg)).toNatClampNeg (0 : Int64)) o34 / 32 = 1 ∧ (vp_in x1 (ln (sal (sai (sal (sai S o18 (((24 : Int32) * x1) + (ai S o14 x1.toNatClampNeg)).toNatClampNeg x2) o22 (((24 : Int32) * x1) + (ai S o14 x1.toNatClampNeg)).toNatClampNeg y3) o26 (((24 : Int32) * x1) + (ai S o14 x1.toNatClampNeg)).toNatClampNeg x5) o30 (((24 : Int32) * x1) + (ai S o14 x1.toNatClampNeg)).toNatClampNeg (0 : Int64)) o34) ∧ (vp_in x1 (ln (sal (sai (sal (sai S o18 (((24 : Int32) * x1) + (ai S o14 x1.toNatClampNeg)).toNatClampNeg x2) o22 (((24 : Int32) * x1) + (ai S o14 x1.toNatClampNeg)).toNatClampNeg y3) o26 (((24 : Int32) * x1) + (ai S o14 x1.toNatClampNeg)).toNatClampNeg x5) o30 (((24 : Int32) * x1) + (ai S o14 x1.toNatClampNeg)).toNatClampNeg (0 : Int64)) o34) ∧ (∃ o39 : Nat, fr (sai (sal (sai (sal (sai S o18 (((24 : Int32) * x1) + (ai S o14 x1.toNatClampNeg)).toNatClampNeg x2) o22 (((24 : Int32) * x1) + (ai S o14 x1.toNatClampNeg)).toNatClampNeg y3) o26 (((24 : Int32) * x1) + (ai S o14 x1.toNatClampNeg)).toNatClampNeg x5) o30 (((24 : Int32) * x1) + (ai S o14 x1.toNatClampNeg)).toNatClampNeg (0 : Int64)) o34 x1.toNatClampNeg ((ai (sal (sai (sal (sai S o18 (((24 : Int32) * x1) + (ai S o14 x1.toNatClampNeg)).toNatClampNeg x2) o22 (((24 : Int32) * x1) + (ai S o14 x1.toNatClampNeg)).toNatClampNeg y3) o26 (((24 : Int32) * x1) + (ai S o14 x1.toNatClampNeg)).toNatClampNeg x5) o30 (((24 : Int32) * x1) + (ai S o14 x1.toNatClampNeg)).toNatClampNeg (0 : Int64)) o34 x1.toNatClampNeg) + (1 : Int32))) 48 b0 = some o39 ∧ (kd (sai (sal (sai (sal (sai S o18 (((24 : Int32) * x1) + (ai S o14 x1.toNatClampNeg)).toNatClampNeg x2) o22 (((24 : Int32) * x1) + (ai S o14 x1.toNatClampNeg)).toNatClampNeg y3) o26 (((24 : Int32) * x1) + (ai S o14 x1.toNatClampNeg)).toNatClampNeg x5) o30 (((24 : Int32) * x1) + (ai S o14 x1.toNatClampNeg)).toNatClampNeg (0 : Int64)) o34 x1.toNatClampNeg ((ai (sal (sai (sal (sai S o18 (((24 : Int32) * x1) + (ai S o14 x1.toNatClampNeg)).toNatClampNeg x2) o22 (((24 : Int32) * x1) + (ai S o14 x1.toNatClampNeg)).toNatClampNeg y3) o26 (((24 : Int32) * x1) + (ai S o14 x1.toNatClampNeg)).toNatClampNeg x5) o30 (((24 : Int32) * x1) + (ai S o14 x1.toNatClampNeg)).toNatClampNeg (0 : Int64)) o34 x1.toNatClampNeg) + (1 : Int32))) o39 / 32 = 1 ∧ (vp_in (11 : Int32) (ln (sai (sal (sai (sal (sai S o18 (((24 : Int32) * x1) + (ai S o14 x1.toNatClampNeg)).toNatClampNeg x2) o22 (((24 : Int32) * x1) + (ai S o14 x1.toNatClampNeg)).toNatClampNeg y3) o26 (((24 : Int32) * x1) + (ai S o14 x1.toNatClampNeg)).toNatClampNeg x5) o30 (((24 : Int32) * x1) + (ai S o14 x1.toNatClampNeg)).toNatClampNeg (0 : Int64)) o34 x1.toNatClampNeg ((ai (sal (sai (sal (sai S o18 (((24 : Int32) * x1) + (ai S o14 x1.toNatClampNeg)).toNatClampNeg x2) o22 (((24 : Int32) * x1) + (ai S o14 x1.toNatClampNeg)).toNatClampNeg y3) o26 (((24 : Int32) * x1) + (ai S o14 x1.toNatClampNeg)).toNatClampNeg x5) o30 (((24 : Int32) * x1) + (ai S o14 x1.toNatClampNeg)).toNatClampNeg (0 : Int64)) o34 x1.toNatClampNeg) + (1 : Int32))) o39) ∧ (vp_in (11 : Int32) (ln (sai (sal (sai (sal (sai S o18 (((24 : Int32) * x1) + (ai S o14 x1.toNatClampNeg)).toNatClampNeg x2) o22 (((24 : Int32) * x1) + (ai S o14 x1.toNatClampNeg)).toNatClampNeg y3) o26 (((24 : Int32) * x1) + (ai S o14 x1.toNatClampNeg)).toNatClampNeg x5) o30 (((24 : Int32) * x1) + (ai S o14 x1.toNatClampNeg)).toNatClampNeg (0 : Int64)) o34 x1.toNatClampNeg ((ai (sal (sai (sal (sai S o18 (((24 : Int32) * x1) + (ai S o14 x1.toNatClampNeg)).toNatClampNeg x2) o22 (((24 : Int32) * x1) + (ai S o14 x1.toNatClampNeg)).toNatClampNeg y3) o26 (((24 : Int32) * x1) + (ai S o14 x1.toNatClampNeg)).toNatClampNeg x5) o30 (((24 : Int32) * x1) + (ai S o14 x1.toNatClampNeg)).toNatClampNeg (0 : Int64)) o34 x1.toNatClampNeg) + (1 : Int32))) o39) ∧ (post () (sai (sai (sal (sai (sal (sai S o18 (((24 : Int32) * x1) + (ai S o14 x1.toNatClampNeg)).toNatClampNeg x2) o22 (((24 : Int32) * x1) + (ai S o14 x1.toNatClampNeg)).toNatClampNeg y3) o26 (((24 : Int32) * x1) + (ai S o14 x1.toNatClampNeg)).toNatClampNeg x5) o30 (((24 : Int32) * x1) + (ai S o14 x1.toNatClampNeg)).toNatClampNeg (0 : Int64)) o34 x1.toNatClampNeg ((ai (sal (sai (sal (sai S o18 (((24 : Int32) * x1) + (ai S o14 x1.toNatClampNeg)).toNatClampNeg x2) o22 (((24 : Int32) * x1) + (ai S o14 x1.toNatClampNeg)).toNatClampNeg y3) o26 (((24 : Int32) * x1) + (ai S o14 x1.toNatClampNeg)).toNatClampNeg x5) o30 (((24 : Int32) * x1) + (ai S o14 x1.toNatClampNeg)).toNatClampNeg (0 : Int64)) o34 x1.toNatClampNeg) + (1 : Int32))) o39 (11 : Int32).toNatClampNeg ((ai (sai (sal (sai (sal (sai S o18 (((24 : Int32) * x1) + (ai S o14 x1.toNatClampNeg)).toNatClampNeg x2) o22 (((24 : Int32) * x1) + (ai S o14 x1.toNatClampNeg)).toNatClampNeg y3) o26 (((24 : Int32) * x1) + (ai S o14 x1.toNatClampNeg)).toNatClampNeg x5) o30 (((24 : Int32) * x1) + (ai S o14 x1.toNatClampNeg)).toNatClampNeg (0 : Int64)) o34 x1.toNatClampNeg ((ai (sal (sai (sal (sai S o18 (((24 : Int32) * x1) + (ai S o14 x1.toNatClampNeg)).toNatClampNeg x2) o22 (((24 : Int32) * x1) + (ai S o14 x1.toNatClampNeg)).toNatClampNeg y3) o26 (((24 : Int32) * x1) + (ai S o14 x1.toNatClampNeg)).toNatClampNeg x5) o30 (((24 : Int32) * x1) + (ai S o14 x1.toNatClampNeg)).toNatClampNeg (0 : Int64)) o34 x1.toNatClampNeg) + (1 : Int32))) o39 (11 : Int32).toNatClampNeg) + (1 : Int32)))))))))))))))))))))))))))
set_option maxHeartbeats 400000 in
set_option maxRecDepth 100000 in
theorem sl_X7_learn_133a (l : Launch) (D : va_G) (ka : Nat → ClassId) (sz : Nat) (Z : HS) (post : Unit → HS → Prop) {p : Program} {e : Env} {s : State} {m : MethodId} {args : Array Value} {below : List Frame} {meth : Method} {c : Code} (X : Cx p s m meth c cX7_learn 9 RX7 D ka Z (fA Z sz)) (hr : meth.sig.returnType = none)  : ∀ (S : HS) (b0 : Nat) (x1 : Int32) (x2 : Int32) (y3 : Int64) (x5 : Int32), wp_X7_learn_133a post S b0 x1 x2 y3 x5 → ∀ (H : Heap) (locs : List Loc) (ls : Array Slot), Hv D ka Z s (fA Z sz) S H locs → lv_has ls 9 [(0, .ref b0), (1, .int x1), (2, .int x2), (3, .long y3), (5, .int x5)] → W p l e rm_X7_learn s m args below meth c H locs 0 0 (MQ below (Qx eV post D ka Z sz) args s 0 0 (fA Z sz)) (F0 m 133 ls []) := by
  intro S b0 x1 x2 y3 x5 h H locs ls V hl
  refine lv_bipush (v := (24 : Int32)) X.1.1 X.1.2.1 dX7_learn_133 (by decide) ?_
  refine lv_iload_n X.1.1 X.1.2.1 dX7_learn_135 rfl (lv_at hl 1 rfl) ?_
  refine lv_imul X.1.1 X.1.2.1 dX7_learn_136 ?_
  refine lv_aload_n X.1.1 X.1.2.1 dX7_learn_137 rfl (lv_at hl 0 rfl) ?_
  obtain ⟨k13, h⟩ := h
  obtain ⟨o14, e15, h⟩ := h
  refine gf_X7_35 X V k13 e15 dX7_learn_138 ?_
  refine lv_iload_n X.1.1 X.1.2.1 dX7_learn_141 rfl (lv_at hl 1 rfl) ?_
  obtain ⟨k16, h⟩ := h
  obtain ⟨i17, h⟩ := h
  refine r_iald X V k16 i17 dX7_learn_142 ?_
  refine lv_iadd X.1.1 X.1.2.1 dX7_learn_143 ?_
  refine lv_istore (lv' := [(6, .int (((24 : Int32) * x1) + (ai S o14 x1.toNatClampNeg))), (0, .ref b0), (1, .int x1), (2, .int x2), (3, .long y3), (5, .int x5)]) X.1.1 X.1.2.1 dX7_learn_144 hl (by decide) rfl (fun ls hl => ?_)
  refine lv_aload_n X.1.1 X.1.2.1 dX7_learn_146 rfl (lv_at hl 1 rfl) ?_
  obtain ⟨o18, e19, h⟩ := h
  refine gf_X7_38 X V k13 e19 dX7_learn_147 ?_
  refine lv_iload X.1.1 X.1.2.1 dX7_learn_150 (lv_at hl 0 rfl) ?_
  refine lv_iload_n X.1.1 X.1.2.1 dX7_learn_152 rfl (lv_at hl 3 rfl) ?_
  obtain ⟨k20, h⟩ := h
  obtain ⟨i21, h⟩ := h
  refine r_iast X V k20 i21 dX7_learn_153 (fun H locs V => ?_)
  refine lv_aload_n X.1.1 X.1.2.1 dX7_learn_154 rfl (lv_at hl 1 rfl) ?_
  obtain ⟨o22, e23, h⟩ := h
  refine gf_X7_41 X V k13 e23 dX7_learn_155 ?_
  refine lv_iload X.1.1 X.1.2.1 dX7_learn_158 (lv_at hl 0 rfl) ?_
  refine lv_lload_n X.1.1 X.1.2.1 dX7_learn_160 rfl (lv_at hl 4 rfl) ?_
  obtain ⟨k24, h⟩ := h
  obtain ⟨i25, h⟩ := h
  refine r_last X V k24 i25 dX7_learn_161 (fun H locs V => ?_)
  refine lv_aload_n X.1.1 X.1.2.1 dX7_learn_162 rfl (lv_at hl 1 rfl) ?_
  obtain ⟨o26, e27, h⟩ := h
  refine gf_X7_45 X V k13 e27 dX7_learn_163 ?_
  refine lv_iload X.1.1 X.1.2.1 dX7_learn_166 (lv_at hl 0 rfl) ?_
  refine lv_iload X.1.1 X.1.2.1 dX7_learn_168 (lv_at hl 5 rfl) ?_
  obtain ⟨k28, h⟩ := h
  obtain ⟨i29, h⟩ := h
  refine r_iast X V k28 i29 dX7_learn_170 (fun H locs V => ?_)
  refine lv_aload_n X.1.1 X.1.2.1 dX7_learn_171 rfl (lv_at hl 1 rfl) ?_
  obtain ⟨o30, e31, h⟩ := h
  refine gf_X7_48 X V k13 e31 dX7_learn_172 ?_
  refine lv_iload X.1.1 X.1.2.1 dX7_learn_175 (lv_at hl 0 rfl) ?_
  refine lv_lconst (v := (0 : Int64)) X.1.1 X.1.2.1 dX7_learn_177 (by decide) ?_
  obtain ⟨k32, h⟩ := h
  obtain ⟨i33, h⟩ := h
  refine r_last X V k32 i33 dX7_learn_178 (fun H locs V => ?_)
  refine lv_aload_n X.1.1 X.1.2.1 dX7_learn_179 rfl (lv_at hl 1 rfl) ?_
  obtain ⟨o34, e35, h⟩ := h
  refine gf_X7_35 X V k13 e35 dX7_learn_180 ?_
  refine lv_iload_n X.1.1 X.1.2.1 dX7_learn_183 rfl (lv_at hl 2 rfl) ?_
  refine lv_dup2_11 X.1.1 X.1.2.1 dX7_learn_184 rfl rfl ?_
  obtain ⟨k36, h⟩ := h
  obtain ⟨i37, h⟩ := h
  refine r_iald X V k36 i37 dX7_learn_185 ?_
  refine lv_iconst (v := (1 : Int32)) X.1.1 X.1.2.1 dX7_learn_186 (by decide) ?_
  refine lv_iadd X.1.1 X.1.2.1 dX7_learn_187 ?_
  obtain ⟨i38, h⟩ := h
  refine r_iast X V k36 i38 dX7_learn_188 (fun H locs V => ?_)
  refine lv_aload_n X.1.1 X.1.2.1 dX7_learn_189 rfl (lv_at hl 1 rfl) ?_
  obtain ⟨o39, e40, h⟩ := h
  refine gf_X7_63 X V k13 e40 dX7_learn_190 ?_
  refine lv_bipush (v := (11 : Int32)) X.1.1 X.1.2.1 dX7_learn_193 (by decide) ?_
  refine lv_dup2_11 X.1.1 X.1.2.1 dX7_learn_195 rfl rfl ?_
  obtain ⟨k41, h⟩ := h
  obtain ⟨i42, h⟩ := h
  refine r_iald X V k41 i42 dX7_learn_196 ?_
  refine lv_iconst (v := (1 : Int32)) X.1.1 X.1.2.1 dX7_learn_197 (by decide) ?_
  refine lv_iadd X.1.1 X.1.2.1 dX7_learn_198 ?_
  obtain ⟨i43, h⟩ := h
  refine r_iast X V k41 i43 dX7_learn_199 (fun H locs V => ?_)
  exact W.vret X.1.1 X.1.2.1 hr (fun t ht _ => V.q (r := ()) h ht) V.2.1.2.2 dX7_learn_200 X.1.2.2.2.2
def wp_X7_learn_70 : Nat → (Unit → HS → Prop) → HS → Nat → Int32 → Int32 → Int64 → Int32 → Int32 → Int32 → Prop
  | 0, _, _, _, _, _, _, _, _, _ => False
  | n + 1, post, S, b0, x1, x2, y3, x5, x7, x8 => (((((24 : Int32) * x1) + (24 : Int32)) ≤ x8 → kd S b0 = 8 ∧ (wp_X7_remove (fun _ S46 => ∃ o49 : Nat, fr S46 48 b0 = some o49 ∧ (kd S46 o49 / 32 = 1 ∧ (vp_in (12 : Int32) (ln S46 o49) ∧ (vp_in (12 : Int32) (ln S46 o49) ∧ (wp_X7_learn_133a post (sai S46 o49 (12 : Int32).toNatClampNeg ((ai S46 o49 (12 : Int32).toNatClampNeg) + (1 : Int32))) b0 x1 x2 y3 x5))))) S b0 x1 x7)) ∧ (¬ (((24 : Int32) * x1) + (24 : Int32)) ≤ x8 → kd S b0 = 8 ∧ (∃ o55 : Nat, fr S 41 b0 = some o55 ∧ (kd S o55 / 32 = 3 ∧ (vp_in x8 (ln S o55) ∧ (∃ o59 : Nat, fr S 41 b0 = some o59 ∧ (kd S o59 / 32 = 3 ∧ (vp_in x7 (ln S o59) ∧ ((((lg_cmp (al S o55 x8.toNatClampNeg) (al S o59 x7.toNatClampNeg)) ≤ 0 → wp_X7_learn_70 n post S b0 x1 x2 y3 x5 x7 (x8 + (1 : Int32))) ∧ (¬ (lg_cmp (al S o55 x8.toNatClampNeg) (al S o59 x7.toNatClampNeg)) ≤ 0 → wp_X7_learn_70 n post S b0 x1 x2 y3 x5 x8 (x8 + (1 : Int32)))))))))))))
set_option maxHeartbeats 400000 in
set_option maxRecDepth 100000 in
theorem sl_X7_learn_70 (l : Launch) (D : va_G) (ka : Nat → ClassId) (sz : Nat) (Z : HS) (post : Unit → HS → Prop) {p : Program} {e : Env} {s : State} {m : MethodId} {args : Array Value} {below : List Frame} {meth : Method} {c : Code} (X : Cx p s m meth c cX7_learn 9 RX7 D ka Z (fA Z sz)) (hr : meth.sig.returnType = none)  : ∀ (n : Nat), ∀ (S : HS) (b0 : Nat) (x1 : Int32) (x2 : Int32) (y3 : Int64) (x5 : Int32) (x7 : Int32) (x8 : Int32), wp_X7_learn_70 n post S b0 x1 x2 y3 x5 x7 x8 → ∀ (H : Heap) (locs : List Loc) (ls : Array Slot), Hv D ka Z s (fA Z sz) S H locs → lv_has ls 9 [(0, .ref b0), (1, .int x1), (2, .int x2), (3, .long y3), (5, .int x5), (7, .int x7), (8, .int x8)] → W p l e rm_X7_learn s m args below meth c H locs 0 0 (MQ below (Qx eV post D ka Z sz) args s 0 0 (fA Z sz)) (F0 m 70 ls []) := by
  intro n
  induction n with
  | zero => intro S b0 x1 x2 y3 x5 x7 x8 h; exact h.elim
  | succ n ih =>
    intro S b0 x1 x2 y3 x5 x7 x8 h H locs ls V hl
    refine lv_iload X.1.1 X.1.2.1 dX7_learn_70 (lv_at hl 6 rfl) ?_
    refine lv_bipush (v := (24 : Int32)) X.1.1 X.1.2.1 dX7_learn_72 (by decide) ?_
    refine lv_iload_n X.1.1 X.1.2.1 dX7_learn_74 rfl (lv_at hl 1 rfl) ?_
    refine lv_imul X.1.1 X.1.2.1 dX7_learn_75 ?_
    refine lv_bipush (v := (24 : Int32)) X.1.1 X.1.2.1 dX7_learn_76 (by decide) ?_
    refine lv_iadd X.1.1 X.1.2.1 dX7_learn_78 ?_
    refine lv_icmp_ge (tgt := 115) X.1.1 X.1.2.1 dX7_learn_79 (by decide) (fun c44 => ?_) (fun c44 => ?_)
    · have h := h.1 c44
      refine lv_aload_n X.1.1 X.1.2.1 dX7_learn_115 rfl (lv_at hl 0 rfl) ?_
      refine lv_iload_n X.1.1 X.1.2.1 dX7_learn_116 rfl (lv_at hl 1 rfl) ?_
      refine lv_iload X.1.1 X.1.2.1 dX7_learn_117 (lv_at hl 5 rfl) ?_
      obtain ⟨k45, h⟩ := h
      refine r_callV (k := 8) (n := 2) (As := [.int x1, .int x7]) X V (sd_X7_remove l D ka _ S _ b0 x1 x7 h) k45 (by decide) (by decide) rfl wd_469 wd_470 wd_447 wd_471 wd_472 rfl rfl (by decide +kernel) ⟨Nat.le_of_ble_eq_true rfl, Nat.le_of_ble_eq_true rfl⟩ rfl hl.1 rfl (Nat.le_of_ble_eq_true rfl) dX7_learn_119 ⟨show 0 ≤ 0 by omega, show 0 ≤ 0 by omega⟩ (fun r47 S46 H locs h m48 V => ?_)
      have k45 := m48.k k45 (by decide)
      refine lv_aload_n X.1.1 X.1.2.1 dX7_learn_122 rfl (lv_at hl 0 rfl) ?_
      obtain ⟨o49, e50, h⟩ := h
      refine gf_X7_63 X V k45 e50 dX7_learn_123 ?_
      refine lv_bipush (v := (12 : Int32)) X.1.1 X.1.2.1 dX7_learn_126 (by decide) ?_
      refine lv_dup2_11 X.1.1 X.1.2.1 dX7_learn_128 rfl rfl ?_
      obtain ⟨k51, h⟩ := h
      obtain ⟨i52, h⟩ := h
      refine r_iald X V k51 i52 dX7_learn_129 ?_
      refine lv_iconst (v := (1 : Int32)) X.1.1 X.1.2.1 dX7_learn_130 (by decide) ?_
      refine lv_iadd X.1.1 X.1.2.1 dX7_learn_131 ?_
      obtain ⟨i53, h⟩ := h
      refine r_iast X V k51 i53 dX7_learn_132 (fun H locs V => ?_)
      exact sl_X7_learn_133a l D ka sz Z post X hr (sai S46 o49 (12 : Int32).toNatClampNeg ((ai S46 o49 (12 : Int32).toNatClampNeg) + (1 : Int32))) b0 x1 x2 y3 x5 h _ _ _ V (lv_sub hl [0, 1, 2, 3, 4] rfl)
    · have h := h.2 c44
      refine lv_aload_n X.1.1 X.1.2.1 dX7_learn_82 rfl (lv_at hl 0 rfl) ?_
      obtain ⟨k54, h⟩ := h
      obtain ⟨o55, e56, h⟩ := h
      refine gf_X7_48 X V k54 e56 dX7_learn_83 ?_
      refine lv_iload X.1.1 X.1.2.1 dX7_learn_86 (lv_at hl 6 rfl) ?_
      obtain ⟨k57, h⟩ := h
      obtain ⟨i58, h⟩ := h
      refine r_lald X V k57 i58 dX7_learn_88 ?_
      refine lv_aload_n X.1.1 X.1.2.1 dX7_learn_89 rfl (lv_at hl 0 rfl) ?_
      obtain ⟨o59, e60, h⟩ := h
      refine gf_X7_48 X V k54 e60 dX7_learn_90 ?_
      refine lv_iload X.1.1 X.1.2.1 dX7_learn_93 (lv_at hl 5 rfl) ?_
      obtain ⟨k61, h⟩ := h
      obtain ⟨i62, h⟩ := h
      refine r_lald X V k61 i62 dX7_learn_95 ?_
      refine W.lcmp X.1.1 X.1.2.1 dX7_learn_96 ?_
      refine lv_if_le (tgt := 105) X.1.1 X.1.2.1 dX7_learn_97 (by decide) (fun c63 => ?_) (fun c63 => ?_)
      · have h := h.1 c63
        refine lv_iload X.1.1 X.1.2.1 dX7_learn_105 (lv_at hl 5 rfl) ?_
        refine lv_istore (lv' := [(7, .int x7), (0, .ref b0), (1, .int x1), (2, .int x2), (3, .long y3), (5, .int x5), (8, .int x8)]) X.1.1 X.1.2.1 dX7_learn_107 hl (by decide) rfl (fun ls hl => ?_)
        refine lv_iinc (v := (x8 + (1 : Int32))) (lv' := [(8, .int (x8 + (1 : Int32))), (7, .int x7), (0, .ref b0), (1, .int x1), (2, .int x2), (3, .long y3), (5, .int x5)]) X.1.1 X.1.2.1 dX7_learn_109 hl (k := 6) rfl (congrArg (HAdd.hAdd _) (by decide)) (by decide) rfl (fun ls hl => ?_)
        refine lv_goto (tgt := 70) X.1.1 X.1.2.1 dX7_learn_112 (by decide) ?_
        exact ih S b0 x1 x2 y3 x5 x7 (x8 + (1 : Int32)) h _ _ _ V (lv_sub hl [2, 3, 4, 5, 6, 1, 0] rfl)
      · have h := h.2 c63
        refine lv_iload X.1.1 X.1.2.1 dX7_learn_100 (lv_at hl 6 rfl) ?_
        refine lv_goto (tgt := 107) X.1.1 X.1.2.1 dX7_learn_102 (by decide) ?_
        refine lv_istore (lv' := [(7, .int x8), (0, .ref b0), (1, .int x1), (2, .int x2), (3, .long y3), (5, .int x5), (8, .int x8)]) X.1.1 X.1.2.1 dX7_learn_107 hl (by decide) rfl (fun ls hl => ?_)
        refine lv_iinc (v := (x8 + (1 : Int32))) (lv' := [(8, .int (x8 + (1 : Int32))), (7, .int x8), (0, .ref b0), (1, .int x1), (2, .int x2), (3, .long y3), (5, .int x5)]) X.1.1 X.1.2.1 dX7_learn_109 hl (k := 6) rfl (congrArg (HAdd.hAdd _) (by decide)) (by decide) rfl (fun ls hl => ?_)
        refine lv_goto (tgt := 70) X.1.1 X.1.2.1 dX7_learn_112 (by decide) ?_
        exact ih S b0 x1 x2 y3 x5 x8 (x8 + (1 : Int32)) h _ _ _ V (lv_sub hl [2, 3, 4, 5, 6, 1, 0] rfl)
def wp_X7_learn_47a (post : Unit → HS → Prop) (S : HS) (b0 : Nat) (x1 : Int32) (x2 : Int32) (y3 : Int64) (x5 : Int32) : Prop := kd S b0 = 8 ∧ (∃ o8 : Nat, fr S 37 b0 = some o8 ∧ (kd S o8 / 32 = 1 ∧ (vp_in x1 (ln S o8) ∧ (((¬ (ai S o8 x1.toNatClampNeg) = (24 : Int32) → wp_X7_learn_133a post S b0 x1 x2 y3 x5) ∧ ((ai S o8 x1.toNatClampNeg) = (24 : Int32) → ∃ n9, wp_X7_learn_70 n9 post S b0 x1 x2 y3 x5 ((24 : Int32) * x1) ((24 : Int32) * x1)))))))
set_option maxHeartbeats 400000 in
set_option maxRecDepth 100000 in
theorem sl_X7_learn_47a (l : Launch) (D : va_G) (ka : Nat → ClassId) (sz : Nat) (Z : HS) (post : Unit → HS → Prop) {p : Program} {e : Env} {s : State} {m : MethodId} {args : Array Value} {below : List Frame} {meth : Method} {c : Code} (X : Cx p s m meth c cX7_learn 9 RX7 D ka Z (fA Z sz)) (hr : meth.sig.returnType = none)  : ∀ (S : HS) (b0 : Nat) (x1 : Int32) (x2 : Int32) (y3 : Int64) (x5 : Int32), wp_X7_learn_47a post S b0 x1 x2 y3 x5 → ∀ (H : Heap) (locs : List Loc) (ls : Array Slot), Hv D ka Z s (fA Z sz) S H locs → lv_has ls 9 [(0, .ref b0), (1, .int x1), (2, .int x2), (3, .long y3), (5, .int x5)] → W p l e rm_X7_learn s m args below meth c H locs 0 0 (MQ below (Qx eV post D ka Z sz) args s 0 0 (fA Z sz)) (F0 m 47 ls []) := by
  intro S b0 x1 x2 y3 x5 h H locs ls V hl
  refine lv_aload_n X.1.1 X.1.2.1 dX7_learn_47 rfl (lv_at hl 0 rfl) ?_
  obtain ⟨k7, h⟩ := h
  obtain ⟨o8, e9, h⟩ := h
  refine gf_X7_35 X V k7 e9 dX7_learn_48 ?_
  refine lv_iload_n X.1.1 X.1.2.1 dX7_learn_51 rfl (lv_at hl 1 rfl) ?_
  obtain ⟨k10, h⟩ := h
  obtain ⟨i11, h⟩ := h
  refine r_iald X V k10 i11 dX7_learn_52 ?_
  refine lv_bipush (v := (24 : Int32)) X.1.1 X.1.2.1 dX7_learn_53 (by decide) ?_
  refine lv_icmp_ne (tgt := 133) X.1.1 X.1.2.1 dX7_learn_55 (by decide) (fun c12 => ?_) (fun c12 => ?_)
  · have h := h.1 c12
    exact sl_X7_learn_133a l D ka sz Z post X hr S b0 x1 x2 y3 x5 h _ _ _ V (lv_sub hl [0, 1, 2, 3, 4] rfl)
  · have h := h.2 c12
    refine lv_bipush (v := (24 : Int32)) X.1.1 X.1.2.1 dX7_learn_58 (by decide) ?_
    refine lv_iload_n X.1.1 X.1.2.1 dX7_learn_60 rfl (lv_at hl 1 rfl) ?_
    refine lv_imul X.1.1 X.1.2.1 dX7_learn_61 ?_
    refine lv_istore (lv' := [(7, .int ((24 : Int32) * x1)), (0, .ref b0), (1, .int x1), (2, .int x2), (3, .long y3), (5, .int x5)]) X.1.1 X.1.2.1 dX7_learn_62 hl (by decide) rfl (fun ls hl => ?_)
    refine lv_bipush (v := (24 : Int32)) X.1.1 X.1.2.1 dX7_learn_64 (by decide) ?_
    refine lv_iload_n X.1.1 X.1.2.1 dX7_learn_66 rfl (lv_at hl 2 rfl) ?_
    refine lv_imul X.1.1 X.1.2.1 dX7_learn_67 ?_
    refine lv_istore (lv' := [(8, .int ((24 : Int32) * x1)), (7, .int ((24 : Int32) * x1)), (0, .ref b0), (1, .int x1), (2, .int x2), (3, .long y3), (5, .int x5)]) X.1.1 X.1.2.1 dX7_learn_68 hl (by decide) rfl (fun ls hl => ?_)
    obtain ⟨n9, h⟩ := h
    exact sl_X7_learn_70 l D ka sz Z post X hr n9 S b0 x1 x2 y3 x5 ((24 : Int32) * x1) ((24 : Int32) * x1) h _ _ _ V (lv_sub hl [2, 3, 4, 5, 6, 1, 0] rfl)
def wp_X7_learn_35a (post : Unit → HS → Prop) (S : HS) (b0 : Nat) (x1 : Int32) (x2 : Int32) (y3 : Int64) (x5 : Int32) (x6 : Int32) : Prop := ((x6 < 0 → wp_X7_learn_47a post S b0 x1 x2 y3 x5) ∧ (¬ x6 < 0 → kd S b0 = 8 ∧ (wp_X7_remove (fun _ S65 => wp_X7_learn_47a post S65 b0 x1 x2 y3 x5) S b0 x1 x6)))
set_option maxHeartbeats 400000 in
set_option maxRecDepth 100000 in
theorem sl_X7_learn_35a (l : Launch) (D : va_G) (ka : Nat → ClassId) (sz : Nat) (Z : HS) (post : Unit → HS → Prop) {p : Program} {e : Env} {s : State} {m : MethodId} {args : Array Value} {below : List Frame} {meth : Method} {c : Code} (X : Cx p s m meth c cX7_learn 9 RX7 D ka Z (fA Z sz)) (hr : meth.sig.returnType = none)  : ∀ (S : HS) (b0 : Nat) (x1 : Int32) (x2 : Int32) (y3 : Int64) (x5 : Int32) (x6 : Int32), wp_X7_learn_35a post S b0 x1 x2 y3 x5 x6 → ∀ (H : Heap) (locs : List Loc) (ls : Array Slot), Hv D ka Z s (fA Z sz) S H locs → lv_has ls 9 [(0, .ref b0), (1, .int x1), (2, .int x2), (3, .long y3), (5, .int x5), (6, .int x6)] → W p l e rm_X7_learn s m args below meth c H locs 0 0 (MQ below (Qx eV post D ka Z sz) args s 0 0 (fA Z sz)) (F0 m 35 ls []) := by
  intro S b0 x1 x2 y3 x5 x6 h H locs ls V hl
  refine lv_iload X.1.1 X.1.2.1 dX7_learn_35 (lv_at hl 5 rfl) ?_
  refine lv_if_lt (tgt := 47) X.1.1 X.1.2.1 dX7_learn_37 (by decide) (fun c6 => ?_) (fun c6 => ?_)
  · have h := h.1 c6
    exact sl_X7_learn_47a l D ka sz Z post X hr S b0 x1 x2 y3 x5 h _ _ _ V (lv_sub hl [0, 1, 2, 3, 4] rfl)
  · have h := h.2 c6
    refine lv_aload_n X.1.1 X.1.2.1 dX7_learn_40 rfl (lv_at hl 0 rfl) ?_
    refine lv_iload_n X.1.1 X.1.2.1 dX7_learn_41 rfl (lv_at hl 1 rfl) ?_
    refine lv_iload X.1.1 X.1.2.1 dX7_learn_42 (lv_at hl 5 rfl) ?_
    obtain ⟨k64, h⟩ := h
    refine r_callV (k := 8) (n := 2) (As := [.int x1, .int x6]) X V (sd_X7_remove l D ka _ S _ b0 x1 x6 h) k64 (by decide) (by decide) rfl wd_469 wd_470 wd_447 wd_471 wd_472 rfl rfl (by decide +kernel) ⟨Nat.le_of_ble_eq_true rfl, Nat.le_of_ble_eq_true rfl⟩ rfl hl.1 rfl (Nat.le_of_ble_eq_true rfl) dX7_learn_44 ⟨show 0 ≤ 0 by omega, show 0 ≤ 0 by omega⟩ (fun r66 S65 H locs h m67 V => ?_)
    have k64 := m67.k k64 (by decide)
    exact sl_X7_learn_47a l D ka sz Z post X hr S65 b0 x1 x2 y3 x5 h _ _ _ V (lv_sub hl [0, 1, 2, 3, 4] rfl)
def wp_X7_learn (post : Unit → HS → Prop) (S : HS) (a0 : Nat) (v1 : Int32) (v2 : Int32) (w3 : Int64) (v5 : Int32) : Prop := kd S a0 = 8 ∧ (wp_X7_find (fun r3 S2 => ((r3 < 0 → wp_X7_learn_35a post S2 a0 v1 v2 w3 v5 r3) ∧ (¬ r3 < 0 → ∃ o68 : Nat, fr S2 40 a0 = some o68 ∧ (kd S2 o68 / 32 = 1 ∧ (vp_in r3 (ln S2 o68) ∧ (((¬ (ai S2 o68 r3.toNatClampNeg) = v5 → wp_X7_learn_35a post S2 a0 v1 v2 w3 v5 r3) ∧ ((ai S2 o68 r3.toNatClampNeg) = v5 → ∃ o73 : Nat, fr S2 41 a0 = some o73 ∧ (kd S2 o73 / 32 = 3 ∧ (vp_in r3 (ln S2 o73) ∧ (post () (sal S2 o73 r3.toNatClampNeg (0 : Int64))))))))))))) S a0 v1 v2 w3)
set_option maxHeartbeats 400000 in
set_option maxRecDepth 100000 in
theorem sd_X7_learn (l : Launch) (D : va_G) (ka : Nat → ClassId) (sz : Nat) (Z : HS) (post : Unit → HS → Prop) (a0 : Nat) (v1 : Int32) (v2 : Int32) (w3 : Int64) (v5 : Int32) (h : wp_X7_learn post Z a0 v1 v2 w3 v5) : Met l yX7_learn [Cond.code yX7_learn cX7_learn 9 none] rm_X7_learn (Px D ka Z sz [.ref a0, .int v1, .int v2, .long w3, .int v5]) (Qx eV post D ka Z sz) 0 0 (fA Z sz) := by
  refine Met.ofW (cc := cX7_learn) (maxL := 9) (ret := none) (by decide) rfl ?_
  intro p e s m args below meth c s₁ B hml hv
  obtain ⟨rfl, X, V, hsz⟩ := Cx.entry B hml hv
  have hr : meth.sig.returnType = none := B.returns
  have hl := lv_entry ([.ref a0, .int v1, .int v2, .long w3, .int v5]) (n := 9) (Nat.le_of_ble_eq_true rfl)
  rw [lg_entry_eq]
  generalize (lg_sl ([.ref a0, .int v1, .int v2, .long w3, .int v5]) ++ List.replicate (9 - (lg_sl ([.ref a0, .int v1, .int v2, .long w3, .int v5])).length) Slot.unset).toArray = ls at hl ⊢
  have hl : lv_has ls 9 [(0, .ref a0), (1, .int v1), (2, .int v2), (3, .long w3), (5, .int v5)] := hl
  have h : wp_X7_learn post Z a0 v1 v2 w3 v5 := h
  refine lv_aload_n X.1.1 X.1.2.1 dX7_learn_0 rfl (lv_at hl 0 rfl) ?_
  refine lv_iload_n X.1.1 X.1.2.1 dX7_learn_1 rfl (lv_at hl 1 rfl) ?_
  refine lv_iload_n X.1.1 X.1.2.1 dX7_learn_2 rfl (lv_at hl 2 rfl) ?_
  refine lv_lload_n X.1.1 X.1.2.1 dX7_learn_3 rfl (lv_at hl 3 rfl) ?_
  obtain ⟨k1, h⟩ := h
  refine r_callV (k := 8) (n := 3) (As := [.int v1, .int v2, .long w3]) X V (sd_X7_find l D ka _ Z _ a0 v1 v2 w3 h) k1 (by decide) (by decide) rfl wd_465 wd_466 wd_447 wd_467 wd_468 rfl rfl (by decide +kernel) ⟨Nat.le_of_ble_eq_true rfl, Nat.le_of_ble_eq_true rfl⟩ rfl hl.1 rfl (Nat.le_of_ble_eq_true rfl) dX7_learn_4 ⟨show 0 ≤ 0 by omega, show 0 ≤ 0 by omega⟩ (fun r3 S2 H locs h m4 V => ?_)
  have k1 := m4.k k1 (by decide)
  refine lv_istore (lv' := [(6, .int r3), (0, .ref a0), (1, .int v1), (2, .int v2), (3, .long w3), (5, .int v5)]) X.1.1 X.1.2.1 dX7_learn_7 hl (by decide) rfl (fun ls hl => ?_)
  refine lv_iload X.1.1 X.1.2.1 dX7_learn_9 (lv_at hl 0 rfl) ?_
  refine lv_if_lt (tgt := 35) X.1.1 X.1.2.1 dX7_learn_11 (by decide) (fun c5 => ?_) (fun c5 => ?_)
  · have h := h.1 c5
    exact sl_X7_learn_35a l D ka sz Z post X hr S2 a0 v1 v2 w3 v5 r3 h _ _ _ V (lv_sub hl [1, 2, 3, 4, 5, 0] rfl)
  · have h := h.2 c5
    refine lv_aload_n X.1.1 X.1.2.1 dX7_learn_14 rfl (lv_at hl 1 rfl) ?_
    obtain ⟨o68, e69, h⟩ := h
    refine gf_X7_45 X V k1 e69 dX7_learn_15 ?_
    refine lv_iload X.1.1 X.1.2.1 dX7_learn_18 (lv_at hl 0 rfl) ?_
    obtain ⟨k70, h⟩ := h
    obtain ⟨i71, h⟩ := h
    refine r_iald X V k70 i71 dX7_learn_20 ?_
    refine lv_iload X.1.1 X.1.2.1 dX7_learn_21 (lv_at hl 5 rfl) ?_
    refine lv_icmp_ne (tgt := 35) X.1.1 X.1.2.1 dX7_learn_23 (by decide) (fun c72 => ?_) (fun c72 => ?_)
    · have h := h.1 c72
      exact sl_X7_learn_35a l D ka sz Z post X hr S2 a0 v1 v2 w3 v5 r3 h _ _ _ V (lv_sub hl [1, 2, 3, 4, 5, 0] rfl)
    · have h := h.2 c72
      refine lv_aload_n X.1.1 X.1.2.1 dX7_learn_26 rfl (lv_at hl 1 rfl) ?_
      obtain ⟨o73, e74, h⟩ := h
      refine gf_X7_48 X V k1 e74 dX7_learn_27 ?_
      refine lv_iload X.1.1 X.1.2.1 dX7_learn_30 (lv_at hl 0 rfl) ?_
      refine lv_lconst (v := (0 : Int64)) X.1.1 X.1.2.1 dX7_learn_32 (by decide) ?_
      obtain ⟨k75, h⟩ := h
      obtain ⟨i76, h⟩ := h
      refine r_last X V k75 i76 dX7_learn_33 (fun H locs V => ?_)
      exact W.vret X.1.1 X.1.2.1 hr (fun t ht _ => V.q (r := ()) h ht) V.2.1.2.2 dX7_learn_34 X.1.2.2.2.2
abbrev rm_X7_macAt : Room := { frames := 0, cells := 0, slots := 0, locals := 0 }
def wp_X7_macAt_5 : Nat → (Int64 → HS → Prop) → HS → Nat → Int32 → Int64 → Int32 → Prop
  | 0, _, _, _, _, _, _ => False
  | n + 1, post, S, b1, x2, y3, x5 => (((x2 + (6 : Int32)) ≤ x5 → post y3 S) ∧ (¬ (x2 + (6 : Int32)) ≤ x5 → kd S b1 / 32 = 2 ∧ (vp_in x5 (ln S b1) ∧ (wp_X7_macAt_5 n post S b1 x2 ((y3 <<< ((8 : Int32).toInt64 &&& 63)) ||| ((ai S b1 x5.toNatClampNeg) &&& (255 : Int32)).toInt64) (x5 + (1 : Int32))))))
set_option maxHeartbeats 400000 in
set_option maxRecDepth 100000 in
theorem sl_X7_macAt_5 (l : Launch) (D : va_G) (ka : Nat → ClassId) (sz : Nat) (Z : HS) (post : Int64 → HS → Prop) {p : Program} {e : Env} {s : State} {m : MethodId} {args : Array Value} {below : List Frame} {meth : Method} {c : Code} (X : Cx p s m meth c cX7_macAt 6 RX7 D ka Z (fA Z sz)) (hr : meth.sig.returnType = (some .long))  : ∀ (n : Nat), ∀ (S : HS) (b1 : Nat) (x2 : Int32) (y3 : Int64) (x5 : Int32), wp_X7_macAt_5 n post S b1 x2 y3 x5 → ∀ (H : Heap) (locs : List Loc) (ls : Array Slot), Hv D ka Z s (fA Z sz) S H locs → lv_has ls 6 [(1, .ref b1), (2, .int x2), (3, .long y3), (5, .int x5)] → W p l e rm_X7_macAt s m args below meth c H locs 0 0 (MQ below (Qx eL post D ka Z sz) args s 0 0 (fA Z sz)) (F0 m 5 ls []) := by
  intro n
  induction n with
  | zero => intro S b1 x2 y3 x5 h; exact h.elim
  | succ n ih =>
    intro S b1 x2 y3 x5 h H locs ls V hl
    refine lv_iload X.1.1 X.1.2.1 dX7_macAt_5 (lv_at hl 3 rfl) ?_
    refine lv_iload_n X.1.1 X.1.2.1 dX7_macAt_7 rfl (lv_at hl 1 rfl) ?_
    refine lv_bipush (v := (6 : Int32)) X.1.1 X.1.2.1 dX7_macAt_8 (by decide) ?_
    refine lv_iadd X.1.1 X.1.2.1 dX7_macAt_10 ?_
    refine lv_icmp_ge (tgt := 35) X.1.1 X.1.2.1 dX7_macAt_11 (by decide) (fun c1 => ?_) (fun c1 => ?_)
    · have h := h.1 c1
      refine lv_lload_n X.1.1 X.1.2.1 dX7_macAt_35 rfl (lv_at hl 2 rfl) ?_
      exact W.lret X.1.1 X.1.2.1 hr (fun t ht _ => V.q (r := y3) h ht) V.2.1.2.2 dX7_macAt_36 X.1.2.2.2.2
    · have h := h.2 c1
      refine lv_lload_n X.1.1 X.1.2.1 dX7_macAt_14 rfl (lv_at hl 2 rfl) ?_
      refine lv_bipush (v := (8 : Int32)) X.1.1 X.1.2.1 dX7_macAt_15 (by decide) ?_
      refine lv_lshl X.1.1 X.1.2.1 dX7_macAt_17 rfl ?_
      refine lv_aload_n X.1.1 X.1.2.1 dX7_macAt_18 rfl (lv_at hl 0 rfl) ?_
      refine lv_iload X.1.1 X.1.2.1 dX7_macAt_19 (lv_at hl 3 rfl) ?_
      obtain ⟨k2, h⟩ := h
      obtain ⟨i3, h⟩ := h
      refine r_bald X V k2 i3 dX7_macAt_21 ?_
      refine lv_sipush (v := (255 : Int32)) X.1.1 X.1.2.1 dX7_macAt_22 (by decide) ?_
      refine lv_iand X.1.1 X.1.2.1 dX7_macAt_25 ?_
      refine lv_i2l X.1.1 X.1.2.1 dX7_macAt_26 rfl ?_
      refine lv_lor X.1.1 X.1.2.1 dX7_macAt_27 ?_
      refine lv_lstore_n (lv' := [(3, .long ((y3 <<< ((8 : Int32).toInt64 &&& 63)) ||| ((ai S b1 x5.toNatClampNeg) &&& (255 : Int32)).toInt64)), (1, .ref b1), (2, .int x2), (5, .int x5)]) X.1.1 X.1.2.1 dX7_macAt_28 rfl hl (by decide) rfl (fun ls hl => ?_)
      refine lv_iinc (v := (x5 + (1 : Int32))) (lv' := [(5, .int (x5 + (1 : Int32))), (3, .long ((y3 <<< ((8 : Int32).toInt64 &&& 63)) ||| ((ai S b1 x5.toNatClampNeg) &&& (255 : Int32)).toInt64)), (1, .ref b1), (2, .int x2)]) X.1.1 X.1.2.1 dX7_macAt_29 hl (k := 3) rfl (congrArg (HAdd.hAdd _) (by decide)) (by decide) rfl (fun ls hl => ?_)
      refine lv_goto (tgt := 5) X.1.1 X.1.2.1 dX7_macAt_32 (by decide) ?_
      exact ih S b1 x2 ((y3 <<< ((8 : Int32).toInt64 &&& 63)) ||| ((ai S b1 x5.toNatClampNeg) &&& (255 : Int32)).toInt64) (x5 + (1 : Int32)) h _ _ _ V (lv_sub hl [2, 3, 1, 0] rfl)
def wp_X7_macAt (post : Int64 → HS → Prop) (S : HS) (a0 : Nat) (a1 : Nat) (v2 : Int32) : Prop := ∃ n9, wp_X7_macAt_5 n9 post S a1 v2 (0 : Int64) v2
set_option maxHeartbeats 400000 in
set_option maxRecDepth 100000 in
theorem sd_X7_macAt (l : Launch) (D : va_G) (ka : Nat → ClassId) (sz : Nat) (Z : HS) (post : Int64 → HS → Prop) (a0 : Nat) (a1 : Nat) (v2 : Int32) (h : wp_X7_macAt post Z a0 a1 v2) : Met l yX7_macAt [Cond.code yX7_macAt cX7_macAt 6 (some .long)] rm_X7_macAt (Px D ka Z sz [.ref a0, .ref a1, .int v2]) (Qx eL post D ka Z sz) 0 0 (fA Z sz) := by
  refine Met.ofW (cc := cX7_macAt) (maxL := 6) (ret := (some .long)) (by decide) rfl ?_
  intro p e s m args below meth c s₁ B hml hv
  obtain ⟨rfl, X, V, hsz⟩ := Cx.entry B hml hv
  have hr : meth.sig.returnType = (some .long) := B.returns
  have hl := lv_entry ([.ref a0, .ref a1, .int v2]) (n := 6) (Nat.le_of_ble_eq_true rfl)
  rw [lg_entry_eq]
  generalize (lg_sl ([.ref a0, .ref a1, .int v2]) ++ List.replicate (6 - (lg_sl ([.ref a0, .ref a1, .int v2])).length) Slot.unset).toArray = ls at hl ⊢
  have hl : lv_has ls 6 [(0, .ref a0), (1, .ref a1), (2, .int v2)] := hl
  have h : wp_X7_macAt post Z a0 a1 v2 := h
  refine lv_lconst (v := (0 : Int64)) X.1.1 X.1.2.1 dX7_macAt_0 (by decide) ?_
  refine lv_lstore_n (lv' := [(3, .long (0 : Int64)), (0, .ref a0), (1, .ref a1), (2, .int v2)]) X.1.1 X.1.2.1 dX7_macAt_1 rfl hl (by decide) rfl (fun ls hl => ?_)
  refine lv_iload_n X.1.1 X.1.2.1 dX7_macAt_2 rfl (lv_at hl 3 rfl) ?_
  refine lv_istore (lv' := [(5, .int v2), (3, .long (0 : Int64)), (0, .ref a0), (1, .ref a1), (2, .int v2)]) X.1.1 X.1.2.1 dX7_macAt_3 hl (by decide) rfl (fun ls hl => ?_)
  obtain ⟨n9, h⟩ := h
  exact sl_X7_macAt_5 l D ka sz Z post X hr n9 Z a1 v2 (0 : Int64) v2 h _ _ _ V (lv_sub hl [3, 4, 1, 0] rfl)
abbrev rm_X7_comesTo : Room := { frames := 0, cells := 0, slots := 0, locals := 0 }
def wp_X7_comesTo_100 : Nat → (Unit → HS → Prop) → HS → Nat → Int32 → Int32 → Prop
  | 0, _, _, _, _, _ => False
  | n + 1, post, S, b0, x1, x2 => kd S b0 = 8 ∧ ((((fi S 52 b0) ≤ x2 → post () S) ∧ (¬ (fi S 52 b0) ≤ x2 → ∃ o15 : Nat, fr S 33 b0 = some o15 ∧ (∃ o17 : Nat, fr S 51 b0 = some o17 ∧ (kd S o17 / 32 = 2 ∧ (vp_in x2 (ln S o17) ∧ (kd S o15 / 32 = 2 ∧ (vp_in (((720 : Int32) * x1) + x2) (ln S o15) ∧ (wp_X7_comesTo_100 n post (sai S o15 (((720 : Int32) * x1) + x2).toNatClampNeg ((ai S o17 x2.toNatClampNeg).toInt8.toInt32)) b0 x1 (x2 + (1 : Int32)))))))))))
set_option maxHeartbeats 400000 in
set_option maxRecDepth 100000 in
theorem sl_X7_comesTo_100 (l : Launch) (D : va_G) (ka : Nat → ClassId) (sz : Nat) (Z : HS) (post : Unit → HS → Prop) {p : Program} {e : Env} {s : State} {m : MethodId} {args : Array Value} {below : List Frame} {meth : Method} {c : Code} (X : Cx p s m meth c cX7_comesTo 5 RX7 D ka Z (fA Z sz)) (hr : meth.sig.returnType = none)  : ∀ (n : Nat), ∀ (S : HS) (b0 : Nat) (x1 : Int32) (x2 : Int32), wp_X7_comesTo_100 n post S b0 x1 x2 → ∀ (H : Heap) (locs : List Loc) (ls : Array Slot), Hv D ka Z s (fA Z sz) S H locs → lv_has ls 5 [(0, .ref b0), (1, .int x1), (2, .int x2)] → W p l e rm_X7_comesTo s m args below meth c H locs 0 0 (MQ below (Qx eV post D ka Z sz) args s 0 0 (fA Z sz)) (F0 m 100 ls []) := by
  intro n
  induction n with
  | zero => intro S b0 x1 x2 h; exact h.elim
  | succ n ih =>
    intro S b0 x1 x2 h H locs ls V hl
    refine lv_iload_n X.1.1 X.1.2.1 dX7_comesTo_100 rfl (lv_at hl 2 rfl) ?_
    refine lv_aload_n X.1.1 X.1.2.1 dX7_comesTo_101 rfl (lv_at hl 0 rfl) ?_
    obtain ⟨k13, h⟩ := h
    refine gf_X7_104 X V k13 dX7_comesTo_102 ?_
    refine lv_icmp_ge (tgt := 132) X.1.1 X.1.2.1 dX7_comesTo_105 (by decide) (fun c14 => ?_) (fun c14 => ?_)
    · have h := h.1 c14
      exact W.vret X.1.1 X.1.2.1 hr (fun t ht _ => V.q (r := ()) h ht) V.2.1.2.2 dX7_comesTo_132 X.1.2.2.2.2
    · have h := h.2 c14
      refine lv_aload_n X.1.1 X.1.2.1 dX7_comesTo_108 rfl (lv_at hl 0 rfl) ?_
      obtain ⟨o15, e16, h⟩ := h
      refine gf_X7_22 X V k13 e16 dX7_comesTo_109 ?_
      refine lv_sipush (v := (720 : Int32)) X.1.1 X.1.2.1 dX7_comesTo_112 (by decide) ?_
      refine lv_iload_n X.1.1 X.1.2.1 dX7_comesTo_115 rfl (lv_at hl 1 rfl) ?_
      refine lv_imul X.1.1 X.1.2.1 dX7_comesTo_116 ?_
      refine lv_iload_n X.1.1 X.1.2.1 dX7_comesTo_117 rfl (lv_at hl 2 rfl) ?_
      refine lv_iadd X.1.1 X.1.2.1 dX7_comesTo_118 ?_
      refine lv_aload_n X.1.1 X.1.2.1 dX7_comesTo_119 rfl (lv_at hl 0 rfl) ?_
      obtain ⟨o17, e18, h⟩ := h
      refine gf_X7_69 X V k13 e18 dX7_comesTo_120 ?_
      refine lv_iload_n X.1.1 X.1.2.1 dX7_comesTo_123 rfl (lv_at hl 2 rfl) ?_
      obtain ⟨k19, h⟩ := h
      obtain ⟨i20, h⟩ := h
      refine r_bald X V k19 i20 dX7_comesTo_124 ?_
      obtain ⟨k21, h⟩ := h
      obtain ⟨i22, h⟩ := h
      refine r_bast X V k21 i22 dX7_comesTo_125 (fun H locs V => ?_)
      refine lv_iinc (v := (x2 + (1 : Int32))) (lv' := [(2, .int (x2 + (1 : Int32))), (0, .ref b0), (1, .int x1)]) X.1.1 X.1.2.1 dX7_comesTo_126 hl (k := 2) rfl (congrArg (HAdd.hAdd _) (by decide)) (by decide) rfl (fun ls hl => ?_)
      refine lv_goto (tgt := 100) X.1.1 X.1.2.1 dX7_comesTo_129 (by decide) ?_
      exact ih (sai S o15 (((720 : Int32) * x1) + x2).toNatClampNeg ((ai S o17 x2.toNatClampNeg).toInt8.toInt32)) b0 x1 (x2 + (1 : Int32)) h _ _ _ V (lv_sub hl [1, 2, 0] rfl)
def wp_X7_comesTo_40 : Nat → (Unit → HS → Prop) → (HS → Nat → Int32 → Int32 → Prop) → HS → Nat → Int32 → Int32 → Int32 → Int32 → Prop
  | 0, _, _, _, _, _, _, _, _ => False
  | n + 1, post, K12, S, b0, x1, x2, x3, x4 => (((120 : Int32) ≤ x4 → K12 S b0 x1 (x2 + (-1 : Int32))) ∧ (¬ (120 : Int32) ≤ x4 → kd S b0 = 8 ∧ (∃ o34 : Nat, fr S 33 b0 = some o34 ∧ (∃ o36 : Nat, fr S 33 b0 = some o36 ∧ (kd S o36 / 32 = 2 ∧ (vp_in (((120 : Int32) * (x3 - (1 : Int32))) + x4) (ln S o36) ∧ (kd S o34 / 32 = 2 ∧ (vp_in (((120 : Int32) * x3) + x4) (ln S o34) ∧ (wp_X7_comesTo_40 n post K12 (sai S o34 (((120 : Int32) * x3) + x4).toNatClampNeg ((ai S o36 (((120 : Int32) * (x3 - (1 : Int32))) + x4).toNatClampNeg).toInt8.toInt32)) b0 x1 x2 x3 (x4 + (1 : Int32)))))))))))
set_option maxHeartbeats 400000 in
set_option maxRecDepth 100000 in
theorem sl_X7_comesTo_40 (l : Launch) (D : va_G) (ka : Nat → ClassId) (sz : Nat) (Z : HS) (post : Unit → HS → Prop) {p : Program} {e : Env} {s : State} {m : MethodId} {args : Array Value} {below : List Frame} {meth : Method} {c : Code} (X : Cx p s m meth c cX7_comesTo 5 RX7 D ka Z (fA Z sz)) (hr : meth.sig.returnType = none)  {K12 : HS → Nat → Int32 → Int32 → Prop} (hK12 : ∀ (S : HS) (b0 : Nat) (x1 : Int32) (x2 : Int32), K12 S b0 x1 x2 → ∀ (H : Heap) (locs : List Loc) (ls : Array Slot), Hv D ka Z s (fA Z sz) S H locs → lv_has ls 5 [(0, .ref b0), (1, .int x1), (2, .int x2)] → W p l e rm_X7_comesTo s m args below meth c H locs 0 0 (MQ below (Qx eV post D ka Z sz) args s 0 0 (fA Z sz)) (F0 m 12 ls [])) : ∀ (n : Nat), ∀ (S : HS) (b0 : Nat) (x1 : Int32) (x2 : Int32) (x3 : Int32) (x4 : Int32), wp_X7_comesTo_40 n post K12 S b0 x1 x2 x3 x4 → ∀ (H : Heap) (locs : List Loc) (ls : Array Slot), Hv D ka Z s (fA Z sz) S H locs → lv_has ls 5 [(0, .ref b0), (1, .int x1), (2, .int x2), (3, .int x3), (4, .int x4)] → W p l e rm_X7_comesTo s m args below meth c H locs 0 0 (MQ below (Qx eV post D ka Z sz) args s 0 0 (fA Z sz)) (F0 m 40 ls []) := by
  intro n
  induction n with
  | zero => intro S b0 x1 x2 x3 x4 h; exact h.elim
  | succ n ih =>
    intro S b0 x1 x2 x3 x4 h H locs ls V hl
    refine lv_iload X.1.1 X.1.2.1 dX7_comesTo_40 (lv_at hl 4 rfl) ?_
    refine lv_bipush (v := (120 : Int32)) X.1.1 X.1.2.1 dX7_comesTo_42 (by decide) ?_
    refine lv_icmp_ge (tgt := 79) X.1.1 X.1.2.1 dX7_comesTo_44 (by decide) (fun c32 => ?_) (fun c32 => ?_)
    · have h := h.1 c32
      refine lv_iinc (v := (x2 + (-1 : Int32))) (lv' := [(2, .int (x2 + (-1 : Int32))), (0, .ref b0), (1, .int x1), (3, .int x3), (4, .int x4)]) X.1.1 X.1.2.1 dX7_comesTo_79 hl (k := 2) rfl (congrArg (HAdd.hAdd _) (by decide)) (by decide) rfl (fun ls hl => ?_)
      refine lv_goto (tgt := 12) X.1.1 X.1.2.1 dX7_comesTo_82 (by decide) ?_
      exact hK12 S b0 x1 (x2 + (-1 : Int32)) h _ _ _ V (lv_sub hl [1, 2, 0] rfl)
    · have h := h.2 c32
      refine lv_aload_n X.1.1 X.1.2.1 dX7_comesTo_47 rfl (lv_at hl 0 rfl) ?_
      obtain ⟨k33, h⟩ := h
      obtain ⟨o34, e35, h⟩ := h
      refine gf_X7_22 X V k33 e35 dX7_comesTo_48 ?_
      refine lv_bipush (v := (120 : Int32)) X.1.1 X.1.2.1 dX7_comesTo_51 (by decide) ?_
      refine lv_iload_n X.1.1 X.1.2.1 dX7_comesTo_53 rfl (lv_at hl 3 rfl) ?_
      refine lv_imul X.1.1 X.1.2.1 dX7_comesTo_54 ?_
      refine lv_iload X.1.1 X.1.2.1 dX7_comesTo_55 (lv_at hl 4 rfl) ?_
      refine lv_iadd X.1.1 X.1.2.1 dX7_comesTo_57 ?_
      refine lv_aload_n X.1.1 X.1.2.1 dX7_comesTo_58 rfl (lv_at hl 0 rfl) ?_
      obtain ⟨o36, e37, h⟩ := h
      refine gf_X7_22 X V k33 e37 dX7_comesTo_59 ?_
      refine lv_bipush (v := (120 : Int32)) X.1.1 X.1.2.1 dX7_comesTo_62 (by decide) ?_
      refine lv_iload_n X.1.1 X.1.2.1 dX7_comesTo_64 rfl (lv_at hl 3 rfl) ?_
      refine lv_iconst (v := (1 : Int32)) X.1.1 X.1.2.1 dX7_comesTo_65 (by decide) ?_
      refine lv_isub X.1.1 X.1.2.1 dX7_comesTo_66 ?_
      refine lv_imul X.1.1 X.1.2.1 dX7_comesTo_67 ?_
      refine lv_iload X.1.1 X.1.2.1 dX7_comesTo_68 (lv_at hl 4 rfl) ?_
      refine lv_iadd X.1.1 X.1.2.1 dX7_comesTo_70 ?_
      obtain ⟨k38, h⟩ := h
      obtain ⟨i39, h⟩ := h
      refine r_bald X V k38 i39 dX7_comesTo_71 ?_
      obtain ⟨k40, h⟩ := h
      obtain ⟨i41, h⟩ := h
      refine r_bast X V k40 i41 dX7_comesTo_72 (fun H locs V => ?_)
      refine lv_iinc (v := (x4 + (1 : Int32))) (lv' := [(4, .int (x4 + (1 : Int32))), (0, .ref b0), (1, .int x1), (2, .int x2), (3, .int x3)]) X.1.1 X.1.2.1 dX7_comesTo_73 hl (k := 4) rfl (congrArg (HAdd.hAdd _) (by decide)) (by decide) rfl (fun ls hl => ?_)
      refine lv_goto (tgt := 40) X.1.1 X.1.2.1 dX7_comesTo_76 (by decide) ?_
      exact ih (sai S o34 (((120 : Int32) * x3) + x4).toNatClampNeg ((ai S o36 (((120 : Int32) * (x3 - (1 : Int32))) + x4).toNatClampNeg).toInt8.toInt32)) b0 x1 x2 x3 (x4 + (1 : Int32)) h _ _ _ V (lv_sub hl [1, 2, 3, 4, 0] rfl)
def wp_X7_comesTo_12 : Nat → (Unit → HS → Prop) → HS → Nat → Int32 → Int32 → Prop
  | 0, _, _, _, _, _ => False
  | n + 1, post, S, b0, x1, x2 => ((x2 ≤ 0 → kd S b0 = 8 ∧ (∃ o9 : Nat, fr S 34 b0 = some o9 ∧ (kd S o9 / 32 = 1 ∧ (vp_in ((6 : Int32) * x1) (ln S o9) ∧ (∃ n9, wp_X7_comesTo_100 n9 post (sai S o9 ((6 : Int32) * x1).toNatClampNeg (fi S 52 b0)) b0 x1 (0 : Int32)))))) ∧ (¬ x2 ≤ 0 → kd S b0 = 8 ∧ (∃ o24 : Nat, fr S 34 b0 = some o24 ∧ (∃ o26 : Nat, fr S 34 b0 = some o26 ∧ (kd S o26 / 32 = 1 ∧ (vp_in ((((6 : Int32) * x1) + x2) - (1 : Int32)) (ln S o26) ∧ (kd S o24 / 32 = 1 ∧ (vp_in (((6 : Int32) * x1) + x2) (ln S o24) ∧ (∃ n9, wp_X7_comesTo_40 n9 post (fun Sk b0k x1k x2k => wp_X7_comesTo_12 n post Sk b0k x1k x2k) (sai S o24 (((6 : Int32) * x1) + x2).toNatClampNeg (ai S o26 ((((6 : Int32) * x1) + x2) - (1 : Int32)).toNatClampNeg)) b0 x1 x2 (((6 : Int32) * x1) + x2) (0 : Int32))))))))))
set_option maxHeartbeats 400000 in
set_option maxRecDepth 100000 in
theorem sl_X7_comesTo_12 (l : Launch) (D : va_G) (ka : Nat → ClassId) (sz : Nat) (Z : HS) (post : Unit → HS → Prop) {p : Program} {e : Env} {s : State} {m : MethodId} {args : Array Value} {below : List Frame} {meth : Method} {c : Code} (X : Cx p s m meth c cX7_comesTo 5 RX7 D ka Z (fA Z sz)) (hr : meth.sig.returnType = none)  : ∀ (n : Nat), ∀ (S : HS) (b0 : Nat) (x1 : Int32) (x2 : Int32), wp_X7_comesTo_12 n post S b0 x1 x2 → ∀ (H : Heap) (locs : List Loc) (ls : Array Slot), Hv D ka Z s (fA Z sz) S H locs → lv_has ls 5 [(0, .ref b0), (1, .int x1), (2, .int x2)] → W p l e rm_X7_comesTo s m args below meth c H locs 0 0 (MQ below (Qx eV post D ka Z sz) args s 0 0 (fA Z sz)) (F0 m 12 ls []) := by
  intro n
  induction n with
  | zero => intro S b0 x1 x2 h; exact h.elim
  | succ n ih =>
    intro S b0 x1 x2 h H locs ls V hl
    refine lv_iload_n X.1.1 X.1.2.1 dX7_comesTo_12 rfl (lv_at hl 2 rfl) ?_
    refine lv_if_le (tgt := 85) X.1.1 X.1.2.1 dX7_comesTo_13 (by decide) (fun c7 => ?_) (fun c7 => ?_)
    · have h := h.1 c7
      refine lv_aload_n X.1.1 X.1.2.1 dX7_comesTo_85 rfl (lv_at hl 0 rfl) ?_
      obtain ⟨k8, h⟩ := h
      obtain ⟨o9, e10, h⟩ := h
      refine gf_X7_26 X V k8 e10 dX7_comesTo_86 ?_
      refine lv_bipush (v := (6 : Int32)) X.1.1 X.1.2.1 dX7_comesTo_89 (by decide) ?_
      refine lv_iload_n X.1.1 X.1.2.1 dX7_comesTo_91 rfl (lv_at hl 1 rfl) ?_
      refine lv_imul X.1.1 X.1.2.1 dX7_comesTo_92 ?_
      refine lv_aload_n X.1.1 X.1.2.1 dX7_comesTo_93 rfl (lv_at hl 0 rfl) ?_
      refine gf_X7_104 X V k8 dX7_comesTo_94 ?_
      obtain ⟨k11, h⟩ := h
      obtain ⟨i12, h⟩ := h
      refine r_iast X V k11 i12 dX7_comesTo_97 (fun H locs V => ?_)
      refine lv_iconst (v := (0 : Int32)) X.1.1 X.1.2.1 dX7_comesTo_98 (by decide) ?_
      refine lv_istore_n (lv' := [(2, .int (0 : Int32)), (0, .ref b0), (1, .int x1)]) X.1.1 X.1.2.1 dX7_comesTo_99 rfl hl (by decide) rfl (fun ls hl => ?_)
      obtain ⟨n9, h⟩ := h
      exact sl_X7_comesTo_100 l D ka sz Z post X hr n9 (sai S o9 ((6 : Int32) * x1).toNatClampNeg (fi S 52 b0)) b0 x1 (0 : Int32) h _ _ _ V (lv_sub hl [1, 2, 0] rfl)
    · have h := h.2 c7
      refine lv_bipush (v := (6 : Int32)) X.1.1 X.1.2.1 dX7_comesTo_16 (by decide) ?_
      refine lv_iload_n X.1.1 X.1.2.1 dX7_comesTo_18 rfl (lv_at hl 1 rfl) ?_
      refine lv_imul X.1.1 X.1.2.1 dX7_comesTo_19 ?_
      refine lv_iload_n X.1.1 X.1.2.1 dX7_comesTo_20 rfl (lv_at hl 2 rfl) ?_
      refine lv_iadd X.1.1 X.1.2.1 dX7_comesTo_21 ?_
      refine lv_istore_n (lv' := [(3, .int (((6 : Int32) * x1) + x2)), (0, .ref b0), (1, .int x1), (2, .int x2)]) X.1.1 X.1.2.1 dX7_comesTo_22 rfl hl (by decide) rfl (fun ls hl => ?_)
      refine lv_aload_n X.1.1 X.1.2.1 dX7_comesTo_23 rfl (lv_at hl 1 rfl) ?_
      obtain ⟨k23, h⟩ := h
      obtain ⟨o24, e25, h⟩ := h
      refine gf_X7_26 X V k23 e25 dX7_comesTo_24 ?_
      refine lv_iload_n X.1.1 X.1.2.1 dX7_comesTo_27 rfl (lv_at hl 0 rfl) ?_
      refine lv_aload_n X.1.1 X.1.2.1 dX7_comesTo_28 rfl (lv_at hl 1 rfl) ?_
      obtain ⟨o26, e27, h⟩ := h
      refine gf_X7_26 X V k23 e27 dX7_comesTo_29 ?_
      refine lv_iload_n X.1.1 X.1.2.1 dX7_comesTo_32 rfl (lv_at hl 0 rfl) ?_
      refine lv_iconst (v := (1 : Int32)) X.1.1 X.1.2.1 dX7_comesTo_33 (by decide) ?_
      refine lv_isub X.1.1 X.1.2.1 dX7_comesTo_34 ?_
      obtain ⟨k28, h⟩ := h
      obtain ⟨i29, h⟩ := h
      refine r_iald X V k28 i29 dX7_comesTo_35 ?_
      obtain ⟨k30, h⟩ := h
      obtain ⟨i31, h⟩ := h
      refine r_iast X V k30 i31 dX7_comesTo_36 (fun H locs V => ?_)
      refine lv_iconst (v := (0 : Int32)) X.1.1 X.1.2.1 dX7_comesTo_37 (by decide) ?_
      refine lv_istore (lv' := [(4, .int (0 : Int32)), (3, .int (((6 : Int32) * x1) + x2)), (0, .ref b0), (1, .int x1), (2, .int x2)]) X.1.1 X.1.2.1 dX7_comesTo_38 hl (by decide) rfl (fun ls hl => ?_)
      obtain ⟨n9, h⟩ := h
      exact sl_X7_comesTo_40 l D ka sz Z post X hr ih n9 (sai S o24 (((6 : Int32) * x1) + x2).toNatClampNeg (ai S o26 ((((6 : Int32) * x1) + x2) - (1 : Int32)).toNatClampNeg)) b0 x1 x2 (((6 : Int32) * x1) + x2) (0 : Int32) h _ _ _ V (lv_sub hl [2, 3, 4, 1, 0] rfl)
def wp_X7_comesTo (post : Unit → HS → Prop) (S : HS) (a0 : Nat) (v1 : Int32) : Prop := kd S a0 = 8 ∧ (∃ o2 : Nat, fr S 32 a0 = some o2 ∧ (kd S o2 / 32 = 1 ∧ (vp_in v1 (ln S o2) ∧ (vp_in v1 (ln S o2) ∧ (∃ n9, wp_X7_comesTo_12 n9 post (sai S o2 v1.toNatClampNeg ((ai S o2 v1.toNatClampNeg) + (1 : Int32))) a0 v1 (5 : Int32))))))
set_option maxHeartbeats 400000 in
set_option maxRecDepth 100000 in
theorem sd_X7_comesTo (l : Launch) (D : va_G) (ka : Nat → ClassId) (sz : Nat) (Z : HS) (post : Unit → HS → Prop) (a0 : Nat) (v1 : Int32) (h : wp_X7_comesTo post Z a0 v1) : Met l yX7_comesTo [Cond.code yX7_comesTo cX7_comesTo 5 none] rm_X7_comesTo (Px D ka Z sz [.ref a0, .int v1]) (Qx eV post D ka Z sz) 0 0 (fA Z sz) := by
  refine Met.ofW (cc := cX7_comesTo) (maxL := 5) (ret := none) (by decide) rfl ?_
  intro p e s m args below meth c s₁ B hml hv
  obtain ⟨rfl, X, V, hsz⟩ := Cx.entry B hml hv
  have hr : meth.sig.returnType = none := B.returns
  have hl := lv_entry ([.ref a0, .int v1]) (n := 5) (Nat.le_of_ble_eq_true rfl)
  rw [lg_entry_eq]
  generalize (lg_sl ([.ref a0, .int v1]) ++ List.replicate (5 - (lg_sl ([.ref a0, .int v1])).length) Slot.unset).toArray = ls at hl ⊢
  have hl : lv_has ls 5 [(0, .ref a0), (1, .int v1)] := hl
  have h : wp_X7_comesTo post Z a0 v1 := h
  refine lv_aload_n X.1.1 X.1.2.1 dX7_comesTo_0 rfl (lv_at hl 0 rfl) ?_
  obtain ⟨k1, h⟩ := h
  obtain ⟨o2, e3, h⟩ := h
  refine gf_X7_19 X V k1 e3 dX7_comesTo_1 ?_
  refine lv_iload_n X.1.1 X.1.2.1 dX7_comesTo_4 rfl (lv_at hl 1 rfl) ?_
  refine lv_dup2_11 X.1.1 X.1.2.1 dX7_comesTo_5 rfl rfl ?_
  obtain ⟨k4, h⟩ := h
  obtain ⟨i5, h⟩ := h
  refine r_iald X V k4 i5 dX7_comesTo_6 ?_
  refine lv_iconst (v := (1 : Int32)) X.1.1 X.1.2.1 dX7_comesTo_7 (by decide) ?_
  refine lv_iadd X.1.1 X.1.2.1 dX7_comesTo_8 ?_
  obtain ⟨i6, h⟩ := h
  refine r_iast X V k4 i6 dX7_comesTo_9 (fun H locs V => ?_)
  refine lv_iconst (v := (5 : Int32)) X.1.1 X.1.2.1 dX7_comesTo_10 (by decide) ?_
  refine lv_istore_n (lv' := [(2, .int (5 : Int32)), (0, .ref a0), (1, .int v1)]) X.1.1 X.1.2.1 dX7_comesTo_11 rfl hl (by decide) rfl (fun ls hl => ?_)
  obtain ⟨n9, h⟩ := h
  exact sl_X7_comesTo_12 l D ka sz Z post X hr n9 (sai Z o2 v1.toNatClampNeg ((ai Z o2 v1.toNatClampNeg) + (1 : Int32))) a0 v1 (5 : Int32) h _ _ _ V (lv_sub hl [1, 2, 0] rfl)
abbrev rm_X7_comesToAll : Room := { frames := 1, cells := 0, slots := 0, locals := 24 }
def wp_X7_comesToAll_3 : Nat → (Unit → HS → Prop) → HS → Nat → Int32 → Int32 → Int32 → Int32 → Prop
  | 0, _, _, _, _, _, _, _ => False
  | n + 1, post, S, b0, x1, x2, x3, x4 => kd S b0 = 8 ∧ ((((fi S 28 b0) ≤ x4 → post () S) ∧ (¬ (fi S 28 b0) ≤ x4 → ((x4 = x3 → wp_X7_comesToAll_3 n post S b0 x1 x2 x3 (x4 + (1 : Int32))) ∧ (¬ x4 = x3 → ∃ o4 : Nat, fr S 29 b0 = some o4 ∧ (kd S o4 / 32 = 1 ∧ (vp_in x4 (ln S o4) ∧ (((¬ (ai S o4 x4.toNatClampNeg) = x1 → wp_X7_comesToAll_3 n post S b0 x1 x2 x3 (x4 + (1 : Int32))) ∧ ((ai S o4 x4.toNatClampNeg) = x1 → ∃ o9 : Nat, fr S 30 b0 = some o9 ∧ (kd S o9 / 32 = 1 ∧ (vp_in x4 (ln S o9) ∧ (((¬ (ai S o9 x4.toNatClampNeg) = x2 → wp_X7_comesToAll_3 n post S b0 x1 x2 x3 (x4 + (1 : Int32))) ∧ ((ai S o9 x4.toNatClampNeg) = x2 → wp_X7_comesTo (fun _ S14 => wp_X7_comesToAll_3 n post S14 b0 x1 x2 x3 (x4 + (1 : Int32))) S b0 x4)))))))))))))))
set_option maxHeartbeats 400000 in
set_option maxRecDepth 100000 in
theorem sl_X7_comesToAll_3 (l : Launch) (D : va_G) (ka : Nat → ClassId) (sz : Nat) (Z : HS) (post : Unit → HS → Prop) {p : Program} {e : Env} {s : State} {m : MethodId} {args : Array Value} {below : List Frame} {meth : Method} {c : Code} (X : Cx p s m meth c cX7_comesToAll 5 RX7 D ka Z (fA Z sz)) (hr : meth.sig.returnType = none)  : ∀ (n : Nat), ∀ (S : HS) (b0 : Nat) (x1 : Int32) (x2 : Int32) (x3 : Int32) (x4 : Int32), wp_X7_comesToAll_3 n post S b0 x1 x2 x3 x4 → ∀ (H : Heap) (locs : List Loc) (ls : Array Slot), Hv D ka Z s (fA Z sz) S H locs → lv_has ls 5 [(0, .ref b0), (1, .int x1), (2, .int x2), (3, .int x3), (4, .int x4)] → W p l e rm_X7_comesToAll s m args below meth c H locs 0 0 (MQ below (Qx eV post D ka Z sz) args s 0 0 (fA Z sz)) (F0 m 3 ls []) := by
  intro n
  induction n with
  | zero => intro S b0 x1 x2 x3 x4 h; exact h.elim
  | succ n ih =>
    intro S b0 x1 x2 x3 x4 h H locs ls V hl
    refine lv_iload X.1.1 X.1.2.1 dX7_comesToAll_3 (lv_at hl 4 rfl) ?_
    refine lv_aload_n X.1.1 X.1.2.1 dX7_comesToAll_5 rfl (lv_at hl 0 rfl) ?_
    obtain ⟨k1, h⟩ := h
    refine gf_X7_80 X V k1 dX7_comesToAll_6 ?_
    refine lv_icmp_ge (tgt := 52) X.1.1 X.1.2.1 dX7_comesToAll_9 (by decide) (fun c2 => ?_) (fun c2 => ?_)
    · have h := h.1 c2
      exact W.vret X.1.1 X.1.2.1 hr (fun t ht _ => V.q (r := ()) h ht) V.2.1.2.2 dX7_comesToAll_52 X.1.2.2.2.2
    · have h := h.2 c2
      refine lv_iload X.1.1 X.1.2.1 dX7_comesToAll_12 (lv_at hl 4 rfl) ?_
      refine lv_iload_n X.1.1 X.1.2.1 dX7_comesToAll_14 rfl (lv_at hl 3 rfl) ?_
      refine lv_icmp_eq (tgt := 46) X.1.1 X.1.2.1 dX7_comesToAll_15 (by decide) (fun c3 => ?_) (fun c3 => ?_)
      · have h := h.1 c3
        refine lv_iinc (v := (x4 + (1 : Int32))) (lv' := [(4, .int (x4 + (1 : Int32))), (0, .ref b0), (1, .int x1), (2, .int x2), (3, .int x3)]) X.1.1 X.1.2.1 dX7_comesToAll_46 hl (k := 4) rfl (congrArg (HAdd.hAdd _) (by decide)) (by decide) rfl (fun ls hl => ?_)
        refine lv_goto (tgt := 3) X.1.1 X.1.2.1 dX7_comesToAll_49 (by decide) ?_
        exact ih S b0 x1 x2 x3 (x4 + (1 : Int32)) h _ _ _ V (lv_sub hl [1, 2, 3, 4, 0] rfl)
      · have h := h.2 c3
        refine lv_aload_n X.1.1 X.1.2.1 dX7_comesToAll_18 rfl (lv_at hl 0 rfl) ?_
        obtain ⟨o4, e5, h⟩ := h
        refine gf_X7_7 X V k1 e5 dX7_comesToAll_19 ?_
        refine lv_iload X.1.1 X.1.2.1 dX7_comesToAll_22 (lv_at hl 4 rfl) ?_
        obtain ⟨k6, h⟩ := h
        obtain ⟨i7, h⟩ := h
        refine r_iald X V k6 i7 dX7_comesToAll_24 ?_
        refine lv_iload_n X.1.1 X.1.2.1 dX7_comesToAll_25 rfl (lv_at hl 1 rfl) ?_
        refine lv_icmp_ne (tgt := 46) X.1.1 X.1.2.1 dX7_comesToAll_26 (by decide) (fun c8 => ?_) (fun c8 => ?_)
        · have h := h.1 c8
          refine lv_iinc (v := (x4 + (1 : Int32))) (lv' := [(4, .int (x4 + (1 : Int32))), (0, .ref b0), (1, .int x1), (2, .int x2), (3, .int x3)]) X.1.1 X.1.2.1 dX7_comesToAll_46 hl (k := 4) rfl (congrArg (HAdd.hAdd _) (by decide)) (by decide) rfl (fun ls hl => ?_)
          refine lv_goto (tgt := 3) X.1.1 X.1.2.1 dX7_comesToAll_49 (by decide) ?_
          exact ih S b0 x1 x2 x3 (x4 + (1 : Int32)) h _ _ _ V (lv_sub hl [1, 2, 3, 4, 0] rfl)
        · have h := h.2 c8
          refine lv_aload_n X.1.1 X.1.2.1 dX7_comesToAll_29 rfl (lv_at hl 0 rfl) ?_
          obtain ⟨o9, e10, h⟩ := h
          refine gf_X7_13 X V k1 e10 dX7_comesToAll_30 ?_
          refine lv_iload X.1.1 X.1.2.1 dX7_comesToAll_33 (lv_at hl 4 rfl) ?_
          obtain ⟨k11, h⟩ := h
          obtain ⟨i12, h⟩ := h
          refine r_iald X V k11 i12 dX7_comesToAll_35 ?_
          refine lv_iload_n X.1.1 X.1.2.1 dX7_comesToAll_36 rfl (lv_at hl 2 rfl) ?_
          refine lv_icmp_ne (tgt := 46) X.1.1 X.1.2.1 dX7_comesToAll_37 (by decide) (fun c13 => ?_) (fun c13 => ?_)
          · have h := h.1 c13
            refine lv_iinc (v := (x4 + (1 : Int32))) (lv' := [(4, .int (x4 + (1 : Int32))), (0, .ref b0), (1, .int x1), (2, .int x2), (3, .int x3)]) X.1.1 X.1.2.1 dX7_comesToAll_46 hl (k := 4) rfl (congrArg (HAdd.hAdd _) (by decide)) (by decide) rfl (fun ls hl => ?_)
            refine lv_goto (tgt := 3) X.1.1 X.1.2.1 dX7_comesToAll_49 (by decide) ?_
            exact ih S b0 x1 x2 x3 (x4 + (1 : Int32)) h _ _ _ V (lv_sub hl [1, 2, 3, 4, 0] rfl)
          · have h := h.2 c13
            refine lv_aload_n X.1.1 X.1.2.1 dX7_comesToAll_40 rfl (lv_at hl 0 rfl) ?_
            refine lv_iload X.1.1 X.1.2.1 dX7_comesToAll_41 (lv_at hl 4 rfl) ?_
            refine r_callV (k := 8) (n := 1) (As := [.int x4]) X V (sd_X7_comesTo l D ka _ S _ b0 x4 h) k1 (by decide) (by decide) rfl wd_477 wd_478 wd_447 wd_479 wd_480 rfl rfl (by decide +kernel) ⟨Nat.le_of_ble_eq_true rfl, Nat.le_of_ble_eq_true rfl⟩ rfl hl.1 rfl (Nat.le_of_ble_eq_true rfl) dX7_comesToAll_43 ⟨show 0 ≤ 0 by omega, show 0 ≤ 0 by omega⟩ (fun r15 S14 H locs h m16 V => ?_)
            have k1 := m16.k k1 (by decide)
            have k6 := m16.t k6 (by decide)
            have k11 := m16.t k11 (by decide)
            refine lv_iinc (v := (x4 + (1 : Int32))) (lv' := [(4, .int (x4 + (1 : Int32))), (0, .ref b0), (1, .int x1), (2, .int x2), (3, .int x3)]) X.1.1 X.1.2.1 dX7_comesToAll_46 hl (k := 4) rfl (congrArg (HAdd.hAdd _) (by decide)) (by decide) rfl (fun ls hl => ?_)
            refine lv_goto (tgt := 3) X.1.1 X.1.2.1 dX7_comesToAll_49 (by decide) ?_
            exact ih S14 b0 x1 x2 x3 (x4 + (1 : Int32)) h _ _ _ V (lv_sub hl [1, 2, 3, 4, 0] rfl)
def wp_X7_comesToAll (post : Unit → HS → Prop) (S : HS) (a0 : Nat) (v1 : Int32) (v2 : Int32) (v3 : Int32) : Prop := ∃ n9, wp_X7_comesToAll_3 n9 post S a0 v1 v2 v3 (0 : Int32)
set_option maxHeartbeats 400000 in
set_option maxRecDepth 100000 in
theorem sd_X7_comesToAll (l : Launch) (D : va_G) (ka : Nat → ClassId) (sz : Nat) (Z : HS) (post : Unit → HS → Prop) (a0 : Nat) (v1 : Int32) (v2 : Int32) (v3 : Int32) (h : wp_X7_comesToAll post Z a0 v1 v2 v3) : Met l yX7_comesToAll [Cond.code yX7_comesToAll cX7_comesToAll 5 none] rm_X7_comesToAll (Px D ka Z sz [.ref a0, .int v1, .int v2, .int v3]) (Qx eV post D ka Z sz) 0 0 (fA Z sz) := by
  refine Met.ofW (cc := cX7_comesToAll) (maxL := 5) (ret := none) (by decide) rfl ?_
  intro p e s m args below meth c s₁ B hml hv
  obtain ⟨rfl, X, V, hsz⟩ := Cx.entry B hml hv
  have hr : meth.sig.returnType = none := B.returns
  have hl := lv_entry ([.ref a0, .int v1, .int v2, .int v3]) (n := 5) (Nat.le_of_ble_eq_true rfl)
  rw [lg_entry_eq]
  generalize (lg_sl ([.ref a0, .int v1, .int v2, .int v3]) ++ List.replicate (5 - (lg_sl ([.ref a0, .int v1, .int v2, .int v3])).length) Slot.unset).toArray = ls at hl ⊢
  have hl : lv_has ls 5 [(0, .ref a0), (1, .int v1), (2, .int v2), (3, .int v3)] := hl
  have h : wp_X7_comesToAll post Z a0 v1 v2 v3 := h
  refine lv_iconst (v := (0 : Int32)) X.1.1 X.1.2.1 dX7_comesToAll_0 (by decide) ?_
  refine lv_istore (lv' := [(4, .int (0 : Int32)), (0, .ref a0), (1, .int v1), (2, .int v2), (3, .int v3)]) X.1.1 X.1.2.1 dX7_comesToAll_1 hl (by decide) rfl (fun ls hl => ?_)
  obtain ⟨n9, h⟩ := h
  exact sl_X7_comesToAll_3 l D ka sz Z post X hr n9 Z a0 v1 v2 v3 (0 : Int32) h _ _ _ V (lv_sub hl [1, 2, 3, 4, 0] rfl)
abbrev rm_X7_sum : Room := { frames := 0, cells := 0, slots := 0, locals := 0 }
def wp_X7_sum_54 : Nat → (Int32 → HS → Prop) → HS → Int32 → Prop
  | 0, _, _, _ => False
  | n + 1, post, S, x3 => ((x3 ≤ (65535 : Int32) → post (x3 ^^^ (65535 : Int32)) S) ∧ (¬ x3 ≤ (65535 : Int32) → wp_X7_sum_54 n post S ((x3 &&& (65535 : Int32)) + (x3 >>> ((16 : Int32) &&& 31)))))
set_option maxHeartbeats 400000 in
set_option maxRecDepth 100000 in
theorem sl_X7_sum_54 (l : Launch) (D : va_G) (ka : Nat → ClassId) (sz : Nat) (Z : HS) (post : Int32 → HS → Prop) {p : Program} {e : Env} {s : State} {m : MethodId} {args : Array Value} {below : List Frame} {meth : Method} {c : Code} (X : Cx p s m meth c cX7_sum 5 RX7 D ka Z (fA Z sz)) (hr : meth.sig.returnType = (some .int))  : ∀ (n : Nat), ∀ (S : HS) (x3 : Int32), wp_X7_sum_54 n post S x3 → ∀ (H : Heap) (locs : List Loc) (ls : Array Slot), Hv D ka Z s (fA Z sz) S H locs → lv_has ls 5 [(3, .int x3)] → W p l e rm_X7_sum s m args below meth c H locs 0 0 (MQ below (Qx eI post D ka Z sz) args s 0 0 (fA Z sz)) (F0 m 54 ls []) := by
  intro n
  induction n with
  | zero => intro S x3 h; exact h.elim
  | succ n ih =>
    intro S x3 h H locs ls V hl
    refine lv_iload_n X.1.1 X.1.2.1 dX7_sum_54 rfl (lv_at hl 0 rfl) ?_
    refine lv_ldc (v := (65535 : Int32)) X.1.1 X.1.2.1 X.1.2.2.2.1 (X.w wd_481 rfl _) dX7_sum_55 ?_
    refine lv_icmp_le (tgt := 73) X.1.1 X.1.2.1 dX7_sum_57 (by decide) (fun c2 => ?_) (fun c2 => ?_)
    · have h := h.1 c2
      refine lv_iload_n X.1.1 X.1.2.1 dX7_sum_73 rfl (lv_at hl 0 rfl) ?_
      refine lv_ldc (v := (65535 : Int32)) X.1.1 X.1.2.1 X.1.2.2.2.1 (X.w wd_481 rfl _) dX7_sum_74 ?_
      refine lv_ixor X.1.1 X.1.2.1 dX7_sum_76 ?_
      exact W.iret X.1.1 X.1.2.1 hr (fun t ht _ => V.q (r := (x3 ^^^ (65535 : Int32))) h ht) V.2.1.2.2 dX7_sum_77 X.1.2.2.2.2
    · have h := h.2 c2
      refine lv_iload_n X.1.1 X.1.2.1 dX7_sum_60 rfl (lv_at hl 0 rfl) ?_
      refine lv_ldc (v := (65535 : Int32)) X.1.1 X.1.2.1 X.1.2.2.2.1 (X.w wd_481 rfl _) dX7_sum_61 ?_
      refine lv_iand X.1.1 X.1.2.1 dX7_sum_63 ?_
      refine lv_iload_n X.1.1 X.1.2.1 dX7_sum_64 rfl (lv_at hl 0 rfl) ?_
      refine lv_bipush (v := (16 : Int32)) X.1.1 X.1.2.1 dX7_sum_65 (by decide) ?_
      refine lv_ishr X.1.1 X.1.2.1 dX7_sum_67 ?_
      refine lv_iadd X.1.1 X.1.2.1 dX7_sum_68 ?_
      refine lv_istore_n (lv' := [(3, .int ((x3 &&& (65535 : Int32)) + (x3 >>> ((16 : Int32) &&& 31))))]) X.1.1 X.1.2.1 dX7_sum_69 rfl hl (by decide) rfl (fun ls hl => ?_)
      refine lv_goto (tgt := 54) X.1.1 X.1.2.1 dX7_sum_70 (by decide) ?_
      exact ih S ((x3 &&& (65535 : Int32)) + (x3 >>> ((16 : Int32) &&& 31))) h _ _ _ V (lv_sub hl [0] rfl)
def wp_X7_sum_5 : Nat → (Int32 → HS → Prop) → HS → Nat → Int32 → Int32 → Int32 → Prop
  | 0, _, _, _, _, _, _ => False
  | n + 1, post, S, b0, x2, x3, x4 => ((x2 ≤ x4 → ∃ n9, wp_X7_sum_54 n9 post S x3) ∧ (¬ x2 ≤ x4 → kd S b0 / 32 = 2 ∧ (vp_in x4 (ln S b0) ∧ (((x2 ≤ (x4 + (1 : Int32)) → wp_X7_sum_5 n post S b0 x2 (x3 + ((((ai S b0 x4.toNatClampNeg) &&& (255 : Int32)) <<< ((8 : Int32) &&& 31)) ||| (0 : Int32))) (x4 + (2 : Int32))) ∧ (¬ x2 ≤ (x4 + (1 : Int32)) → vp_in (x4 + (1 : Int32)) (ln S b0) ∧ (wp_X7_sum_5 n post S b0 x2 (x3 + ((((ai S b0 x4.toNatClampNeg) &&& (255 : Int32)) <<< ((8 : Int32) &&& 31)) ||| ((ai S b0 (x4 + (1 : Int32)).toNatClampNeg) &&& (255 : Int32)))) (x4 + (2 : Int32)))))))))
set_option maxHeartbeats 400000 in
set_option maxRecDepth 100000 in
theorem sl_X7_sum_5 (l : Launch) (D : va_G) (ka : Nat → ClassId) (sz : Nat) (Z : HS) (post : Int32 → HS → Prop) {p : Program} {e : Env} {s : State} {m : MethodId} {args : Array Value} {below : List Frame} {meth : Method} {c : Code} (X : Cx p s m meth c cX7_sum 5 RX7 D ka Z (fA Z sz)) (hr : meth.sig.returnType = (some .int))  : ∀ (n : Nat), ∀ (S : HS) (b0 : Nat) (x2 : Int32) (x3 : Int32) (x4 : Int32), wp_X7_sum_5 n post S b0 x2 x3 x4 → ∀ (H : Heap) (locs : List Loc) (ls : Array Slot), Hv D ka Z s (fA Z sz) S H locs → lv_has ls 5 [(0, .ref b0), (2, .int x2), (3, .int x3), (4, .int x4)] → W p l e rm_X7_sum s m args below meth c H locs 0 0 (MQ below (Qx eI post D ka Z sz) args s 0 0 (fA Z sz)) (F0 m 5 ls []) := by
  intro n
  induction n with
  | zero => intro S b0 x2 x3 x4 h; exact h.elim
  | succ n ih =>
    intro S b0 x2 x3 x4 h H locs ls V hl
    refine lv_iload X.1.1 X.1.2.1 dX7_sum_5 (lv_at hl 3 rfl) ?_
    refine lv_iload_n X.1.1 X.1.2.1 dX7_sum_7 rfl (lv_at hl 1 rfl) ?_
    refine lv_icmp_ge (tgt := 54) X.1.1 X.1.2.1 dX7_sum_8 (by decide) (fun c1 => ?_) (fun c1 => ?_)
    · have h := h.1 c1
      obtain ⟨n9, h⟩ := h
      exact sl_X7_sum_54 l D ka sz Z post X hr n9 S x3 h _ _ _ V (lv_sub hl [2] rfl)
    · have h := h.2 c1
      refine lv_iload_n X.1.1 X.1.2.1 dX7_sum_11 rfl (lv_at hl 2 rfl) ?_
      refine lv_aload_n X.1.1 X.1.2.1 dX7_sum_12 rfl (lv_at hl 0 rfl) ?_
      refine lv_iload X.1.1 X.1.2.1 dX7_sum_13 (lv_at hl 3 rfl) ?_
      obtain ⟨k3, h⟩ := h
      obtain ⟨i4, h⟩ := h
      refine r_bald X V k3 i4 dX7_sum_15 ?_
      refine lv_sipush (v := (255 : Int32)) X.1.1 X.1.2.1 dX7_sum_16 (by decide) ?_
      refine lv_iand X.1.1 X.1.2.1 dX7_sum_19 ?_
      refine lv_bipush (v := (8 : Int32)) X.1.1 X.1.2.1 dX7_sum_20 (by decide) ?_
      refine lv_ishl X.1.1 X.1.2.1 dX7_sum_22 ?_
      refine lv_iload X.1.1 X.1.2.1 dX7_sum_23 (lv_at hl 3 rfl) ?_
      refine lv_iconst (v := (1 : Int32)) X.1.1 X.1.2.1 dX7_sum_25 (by decide) ?_
      refine lv_iadd X.1.1 X.1.2.1 dX7_sum_26 ?_
      refine lv_iload_n X.1.1 X.1.2.1 dX7_sum_27 rfl (lv_at hl 1 rfl) ?_
      refine lv_icmp_ge (tgt := 44) X.1.1 X.1.2.1 dX7_sum_28 (by decide) (fun c5 => ?_) (fun c5 => ?_)
      · have h := h.1 c5
        refine lv_iconst (v := (0 : Int32)) X.1.1 X.1.2.1 dX7_sum_44 (by decide) ?_
        refine lv_ior X.1.1 X.1.2.1 dX7_sum_45 ?_
        refine lv_iadd X.1.1 X.1.2.1 dX7_sum_46 ?_
        refine lv_istore_n (lv' := [(3, .int (x3 + ((((ai S b0 x4.toNatClampNeg) &&& (255 : Int32)) <<< ((8 : Int32) &&& 31)) ||| (0 : Int32)))), (0, .ref b0), (2, .int x2), (4, .int x4)]) X.1.1 X.1.2.1 dX7_sum_47 rfl hl (by decide) rfl (fun ls hl => ?_)
        refine lv_iinc (v := (x4 + (2 : Int32))) (lv' := [(4, .int (x4 + (2 : Int32))), (3, .int (x3 + ((((ai S b0 x4.toNatClampNeg) &&& (255 : Int32)) <<< ((8 : Int32) &&& 31)) ||| (0 : Int32)))), (0, .ref b0), (2, .int x2)]) X.1.1 X.1.2.1 dX7_sum_48 hl (k := 3) rfl (congrArg (HAdd.hAdd _) (by decide)) (by decide) rfl (fun ls hl => ?_)
        refine lv_goto (tgt := 5) X.1.1 X.1.2.1 dX7_sum_51 (by decide) ?_
        exact ih S b0 x2 (x3 + ((((ai S b0 x4.toNatClampNeg) &&& (255 : Int32)) <<< ((8 : Int32) &&& 31)) ||| (0 : Int32))) (x4 + (2 : Int32)) h _ _ _ V (lv_sub hl [2, 3, 1, 0] rfl)
      · have h := h.2 c5
        refine lv_aload_n X.1.1 X.1.2.1 dX7_sum_31 rfl (lv_at hl 0 rfl) ?_
        refine lv_iload X.1.1 X.1.2.1 dX7_sum_32 (lv_at hl 3 rfl) ?_
        refine lv_iconst (v := (1 : Int32)) X.1.1 X.1.2.1 dX7_sum_34 (by decide) ?_
        refine lv_iadd X.1.1 X.1.2.1 dX7_sum_35 ?_
        obtain ⟨i6, h⟩ := h
        refine r_bald X V k3 i6 dX7_sum_36 ?_
        refine lv_sipush (v := (255 : Int32)) X.1.1 X.1.2.1 dX7_sum_37 (by decide) ?_
        refine lv_iand X.1.1 X.1.2.1 dX7_sum_40 ?_
        refine lv_goto (tgt := 45) X.1.1 X.1.2.1 dX7_sum_41 (by decide) ?_
        refine lv_ior X.1.1 X.1.2.1 dX7_sum_45 ?_
        refine lv_iadd X.1.1 X.1.2.1 dX7_sum_46 ?_
        refine lv_istore_n (lv' := [(3, .int (x3 + ((((ai S b0 x4.toNatClampNeg) &&& (255 : Int32)) <<< ((8 : Int32) &&& 31)) ||| ((ai S b0 (x4 + (1 : Int32)).toNatClampNeg) &&& (255 : Int32))))), (0, .ref b0), (2, .int x2), (4, .int x4)]) X.1.1 X.1.2.1 dX7_sum_47 rfl hl (by decide) rfl (fun ls hl => ?_)
        refine lv_iinc (v := (x4 + (2 : Int32))) (lv' := [(4, .int (x4 + (2 : Int32))), (3, .int (x3 + ((((ai S b0 x4.toNatClampNeg) &&& (255 : Int32)) <<< ((8 : Int32) &&& 31)) ||| ((ai S b0 (x4 + (1 : Int32)).toNatClampNeg) &&& (255 : Int32))))), (0, .ref b0), (2, .int x2)]) X.1.1 X.1.2.1 dX7_sum_48 hl (k := 3) rfl (congrArg (HAdd.hAdd _) (by decide)) (by decide) rfl (fun ls hl => ?_)
        refine lv_goto (tgt := 5) X.1.1 X.1.2.1 dX7_sum_51 (by decide) ?_
        exact ih S b0 x2 (x3 + ((((ai S b0 x4.toNatClampNeg) &&& (255 : Int32)) <<< ((8 : Int32) &&& 31)) ||| ((ai S b0 (x4 + (1 : Int32)).toNatClampNeg) &&& (255 : Int32)))) (x4 + (2 : Int32)) h _ _ _ V (lv_sub hl [2, 3, 1, 0] rfl)
def wp_X7_sum (post : Int32 → HS → Prop) (S : HS) (a0 : Nat) (v1 : Int32) (v2 : Int32) : Prop := ∃ n9, wp_X7_sum_5 n9 post S a0 v2 (0 : Int32) v1
set_option maxHeartbeats 400000 in
set_option maxRecDepth 100000 in
theorem sd_X7_sum (l : Launch) (D : va_G) (ka : Nat → ClassId) (sz : Nat) (Z : HS) (post : Int32 → HS → Prop) (a0 : Nat) (v1 : Int32) (v2 : Int32) (h : wp_X7_sum post Z a0 v1 v2) : Met l yX7_sum [Cond.code yX7_sum cX7_sum 5 (some .int)] rm_X7_sum (Px D ka Z sz [.ref a0, .int v1, .int v2]) (Qx eI post D ka Z sz) 0 0 (fA Z sz) := by
  refine Met.ofW (cc := cX7_sum) (maxL := 5) (ret := (some .int)) (by decide) rfl ?_
  intro p e s m args below meth c s₁ B hml hv
  obtain ⟨rfl, X, V, hsz⟩ := Cx.entry B hml hv
  have hr : meth.sig.returnType = (some .int) := B.returns
  have hl := lv_entry ([.ref a0, .int v1, .int v2]) (n := 5) (Nat.le_of_ble_eq_true rfl)
  rw [lg_entry_eq]
  generalize (lg_sl ([.ref a0, .int v1, .int v2]) ++ List.replicate (5 - (lg_sl ([.ref a0, .int v1, .int v2])).length) Slot.unset).toArray = ls at hl ⊢
  have hl : lv_has ls 5 [(0, .ref a0), (1, .int v1), (2, .int v2)] := hl
  have h : wp_X7_sum post Z a0 v1 v2 := h
  refine lv_iconst (v := (0 : Int32)) X.1.1 X.1.2.1 dX7_sum_0 (by decide) ?_
  refine lv_istore_n (lv' := [(3, .int (0 : Int32)), (0, .ref a0), (1, .int v1), (2, .int v2)]) X.1.1 X.1.2.1 dX7_sum_1 rfl hl (by decide) rfl (fun ls hl => ?_)
  refine lv_iload_n X.1.1 X.1.2.1 dX7_sum_2 rfl (lv_at hl 2 rfl) ?_
  refine lv_istore (lv' := [(4, .int v1), (3, .int (0 : Int32)), (0, .ref a0), (1, .int v1), (2, .int v2)]) X.1.1 X.1.2.1 dX7_sum_3 hl (by decide) rfl (fun ls hl => ?_)
  obtain ⟨n9, h⟩ := h
  exact sl_X7_sum_5 l D ka sz Z post X hr n9 Z a0 v2 (0 : Int32) v1 h _ _ _ V (lv_sub hl [2, 4, 1, 0] rfl)
abbrev rm_X7_put : Room := { frames := 0, cells := 0, slots := 0, locals := 0 }
def wp_X7_put_7 : Nat → (Unit → HS → Prop) → HS → Nat → Int32 → Int32 → Prop
  | 0, _, _, _, _, _ => False
  | n + 1, post, S, b0, x1, x3 => ((x3 < 0 → post () S) ∧ (¬ x3 < 0 → kd S b0 = 8 ∧ (∃ o3 : Nat, fr S 49 b0 = some o3 ∧ (kd S o3 / 32 = 2 ∧ (vp_in (fi S 50 b0) (ln S o3) ∧ (wp_X7_put_7 n post (sfi (sai S o3 (fi S 50 b0).toNatClampNeg (((x1 >>> (x3 &&& 31)).toInt8.toInt32).toInt8.toInt32)) 50 b0 ((fi (sai S o3 (fi S 50 b0).toNatClampNeg (((x1 >>> (x3 &&& 31)).toInt8.toInt32).toInt8.toInt32)) 50 b0) + (1 : Int32))) b0 x1 (x3 + (-8 : Int32))))))))
set_option maxHeartbeats 400000 in
set_option maxRecDepth 100000 in
theorem sl_X7_put_7 (l : Launch) (D : va_G) (ka : Nat → ClassId) (sz : Nat) (Z : HS) (post : Unit → HS → Prop) {p : Program} {e : Env} {s : State} {m : MethodId} {args : Array Value} {below : List Frame} {meth : Method} {c : Code} (X : Cx p s m meth c cX7_put 4 RX7 D ka Z (fA Z sz)) (hr : meth.sig.returnType = none)  : ∀ (n : Nat), ∀ (S : HS) (b0 : Nat) (x1 : Int32) (x3 : Int32), wp_X7_put_7 n post S b0 x1 x3 → ∀ (H : Heap) (locs : List Loc) (ls : Array Slot), Hv D ka Z s (fA Z sz) S H locs → lv_has ls 4 [(0, .ref b0), (1, .int x1), (3, .int x3)] → W p l e rm_X7_put s m args below meth c H locs 0 0 (MQ below (Qx eV post D ka Z sz) args s 0 0 (fA Z sz)) (F0 m 7 ls []) := by
  intro n
  induction n with
  | zero => intro S b0 x1 x3 h; exact h.elim
  | succ n ih =>
    intro S b0 x1 x3 h H locs ls V hl
    refine lv_iload_n X.1.1 X.1.2.1 dX7_put_7 rfl (lv_at hl 2 rfl) ?_
    refine lv_if_lt (tgt := 40) X.1.1 X.1.2.1 dX7_put_8 (by decide) (fun c1 => ?_) (fun c1 => ?_)
    · have h := h.1 c1
      exact W.vret X.1.1 X.1.2.1 hr (fun t ht _ => V.q (r := ()) h ht) V.2.1.2.2 dX7_put_40 X.1.2.2.2.2
    · have h := h.2 c1
      refine lv_aload_n X.1.1 X.1.2.1 dX7_put_11 rfl (lv_at hl 0 rfl) ?_
      obtain ⟨k2, h⟩ := h
      obtain ⟨o3, e4, h⟩ := h
      refine gf_X7_66 X V k2 e4 dX7_put_12 ?_
      refine lv_aload_n X.1.1 X.1.2.1 dX7_put_15 rfl (lv_at hl 0 rfl) ?_
      refine gf_X7_112 X V k2 dX7_put_16 ?_
      refine lv_iload_n X.1.1 X.1.2.1 dX7_put_19 rfl (lv_at hl 1 rfl) ?_
      refine lv_iload_n X.1.1 X.1.2.1 dX7_put_20 rfl (lv_at hl 2 rfl) ?_
      refine lv_ishr X.1.1 X.1.2.1 dX7_put_21 ?_
      refine lv_i2b X.1.1 X.1.2.1 dX7_put_22 rfl ?_
      obtain ⟨k5, h⟩ := h
      obtain ⟨i6, h⟩ := h
      refine r_bast X V k5 i6 dX7_put_23 (fun H locs V => ?_)
      refine lv_aload_n X.1.1 X.1.2.1 dX7_put_24 rfl (lv_at hl 0 rfl) ?_
      refine lv_dup X.1.1 X.1.2.1 dX7_put_25 rfl ?_
      refine gf_X7_112 X V k2 dX7_put_26 ?_
      refine lv_iconst (v := (1 : Int32)) X.1.1 X.1.2.1 dX7_put_29 (by decide) ?_
      refine lv_iadd X.1.1 X.1.2.1 dX7_put_30 ?_
      refine pf_X7_112 X V k2 dX7_put_31 (fun H locs V => ?_)
      refine lv_iinc (v := (x3 + (-8 : Int32))) (lv' := [(3, .int (x3 + (-8 : Int32))), (0, .ref b0), (1, .int x1)]) X.1.1 X.1.2.1 dX7_put_34 hl (k := 2) rfl (congrArg (HAdd.hAdd _) (by decide)) (by decide) rfl (fun ls hl => ?_)
      refine lv_goto (tgt := 7) X.1.1 X.1.2.1 dX7_put_37 (by decide) ?_
      exact ih (sfi (sai S o3 (fi S 50 b0).toNatClampNeg (((x1 >>> (x3 &&& 31)).toInt8.toInt32).toInt8.toInt32)) 50 b0 ((fi (sai S o3 (fi S 50 b0).toNatClampNeg (((x1 >>> (x3 &&& 31)).toInt8.toInt32).toInt8.toInt32)) 50 b0) + (1 : Int32))) b0 x1 (x3 + (-8 : Int32)) h _ _ _ V (lv_sub hl [1, 2, 0] rfl)
def wp_X7_put (post : Unit → HS → Prop) (S : HS) (a0 : Nat) (v1 : Int32) (v2 : Int32) : Prop := ∃ n9, wp_X7_put_7 n9 post S a0 v1 ((8 : Int32) * (v2 - (1 : Int32)))
set_option maxHeartbeats 400000 in
set_option maxRecDepth 100000 in
theorem sd_X7_put (l : Launch) (D : va_G) (ka : Nat → ClassId) (sz : Nat) (Z : HS) (post : Unit → HS → Prop) (a0 : Nat) (v1 : Int32) (v2 : Int32) (h : wp_X7_put post Z a0 v1 v2) : Met l yX7_put [Cond.code yX7_put cX7_put 4 none] rm_X7_put (Px D ka Z sz [.ref a0, .int v1, .int v2]) (Qx eV post D ka Z sz) 0 0 (fA Z sz) := by
  refine Met.ofW (cc := cX7_put) (maxL := 4) (ret := none) (by decide) rfl ?_
  intro p e s m args below meth c s₁ B hml hv
  obtain ⟨rfl, X, V, hsz⟩ := Cx.entry B hml hv
  have hr : meth.sig.returnType = none := B.returns
  have hl := lv_entry ([.ref a0, .int v1, .int v2]) (n := 4) (Nat.le_of_ble_eq_true rfl)
  rw [lg_entry_eq]
  generalize (lg_sl ([.ref a0, .int v1, .int v2]) ++ List.replicate (4 - (lg_sl ([.ref a0, .int v1, .int v2])).length) Slot.unset).toArray = ls at hl ⊢
  have hl : lv_has ls 4 [(0, .ref a0), (1, .int v1), (2, .int v2)] := hl
  have h : wp_X7_put post Z a0 v1 v2 := h
  refine lv_bipush (v := (8 : Int32)) X.1.1 X.1.2.1 dX7_put_0 (by decide) ?_
  refine lv_iload_n X.1.1 X.1.2.1 dX7_put_2 rfl (lv_at hl 2 rfl) ?_
  refine lv_iconst (v := (1 : Int32)) X.1.1 X.1.2.1 dX7_put_3 (by decide) ?_
  refine lv_isub X.1.1 X.1.2.1 dX7_put_4 ?_
  refine lv_imul X.1.1 X.1.2.1 dX7_put_5 ?_
  refine lv_istore_n (lv' := [(3, .int ((8 : Int32) * (v2 - (1 : Int32)))), (0, .ref a0), (1, .int v1), (2, .int v2)]) X.1.1 X.1.2.1 dX7_put_6 rfl hl (by decide) rfl (fun ls hl => ?_)
  obtain ⟨n9, h⟩ := h
  exact sl_X7_put_7 l D ka sz Z post X hr n9 Z a0 v1 ((8 : Int32) * (v2 - (1 : Int32))) h _ _ _ V (lv_sub hl [1, 2, 0] rfl)
abbrev rm_X7_set : Room := { frames := 0, cells := 0, slots := 0, locals := 0 }
def wp_X7_set (post : Unit → HS → Prop) (S : HS) (a0 : Nat) (v1 : Int32) (v2 : Int32) : Prop := kd S a0 = 8 ∧ (∃ o2 : Nat, fr S 49 a0 = some o2 ∧ (kd S o2 / 32 = 2 ∧ (vp_in v1 (ln S o2) ∧ (∃ o6 : Nat, fr (sai S o2 v1.toNatClampNeg (((v2 >>> ((8 : Int32) &&& 31)).toInt8.toInt32).toInt8.toInt32)) 49 a0 = some o6 ∧ (kd (sai S o2 v1.toNatClampNeg (((v2 >>> ((8 : Int32) &&& 31)).toInt8.toInt32).toInt8.toInt32)) o6 / 32 = 2 ∧ (vp_in (v1 + (1 : Int32)) (ln (sai S o2 v1.toNatClampNeg (((v2 >>> ((8 : Int32) &&& 31)).toInt8.toInt32).toInt8.toInt32)) o6) ∧ (post () (sai (sai S o2 v1.toNatClampNeg (((v2 >>> ((8 : Int32) &&& 31)).toInt8.toInt32).toInt8.toInt32)) o6 (v1 + (1 : Int32)).toNatClampNeg ((v2.toInt8.toInt32).toInt8.toInt32)))))))))
set_option maxHeartbeats 400000 in
set_option maxRecDepth 100000 in
theorem sd_X7_set (l : Launch) (D : va_G) (ka : Nat → ClassId) (sz : Nat) (Z : HS) (post : Unit → HS → Prop) (a0 : Nat) (v1 : Int32) (v2 : Int32) (h : wp_X7_set post Z a0 v1 v2) : Met l yX7_set [Cond.code yX7_set cX7_set 3 none] rm_X7_set (Px D ka Z sz [.ref a0, .int v1, .int v2]) (Qx eV post D ka Z sz) 0 0 (fA Z sz) := by
  refine Met.ofW (cc := cX7_set) (maxL := 3) (ret := none) (by decide) rfl ?_
  intro p e s m args below meth c s₁ B hml hv
  obtain ⟨rfl, X, V, hsz⟩ := Cx.entry B hml hv
  have hr : meth.sig.returnType = none := B.returns
  have hl := lv_entry ([.ref a0, .int v1, .int v2]) (n := 3) (Nat.le_of_ble_eq_true rfl)
  rw [lg_entry_eq]
  generalize (lg_sl ([.ref a0, .int v1, .int v2]) ++ List.replicate (3 - (lg_sl ([.ref a0, .int v1, .int v2])).length) Slot.unset).toArray = ls at hl ⊢
  have hl : lv_has ls 3 [(0, .ref a0), (1, .int v1), (2, .int v2)] := hl
  have h : wp_X7_set post Z a0 v1 v2 := h
  refine lv_aload_n X.1.1 X.1.2.1 dX7_set_0 rfl (lv_at hl 0 rfl) ?_
  obtain ⟨k1, h⟩ := h
  obtain ⟨o2, e3, h⟩ := h
  refine gf_X7_66 X V k1 e3 dX7_set_1 ?_
  refine lv_iload_n X.1.1 X.1.2.1 dX7_set_4 rfl (lv_at hl 1 rfl) ?_
  refine lv_iload_n X.1.1 X.1.2.1 dX7_set_5 rfl (lv_at hl 2 rfl) ?_
  refine lv_bipush (v := (8 : Int32)) X.1.1 X.1.2.1 dX7_set_6 (by decide) ?_
  refine lv_ishr X.1.1 X.1.2.1 dX7_set_8 ?_
  refine lv_i2b X.1.1 X.1.2.1 dX7_set_9 rfl ?_
  obtain ⟨k4, h⟩ := h
  obtain ⟨i5, h⟩ := h
  refine r_bast X V k4 i5 dX7_set_10 (fun H locs V => ?_)
  refine lv_aload_n X.1.1 X.1.2.1 dX7_set_11 rfl (lv_at hl 0 rfl) ?_
  obtain ⟨o6, e7, h⟩ := h
  refine gf_X7_66 X V k1 e7 dX7_set_12 ?_
  refine lv_iload_n X.1.1 X.1.2.1 dX7_set_15 rfl (lv_at hl 1 rfl) ?_
  refine lv_iconst (v := (1 : Int32)) X.1.1 X.1.2.1 dX7_set_16 (by decide) ?_
  refine lv_iadd X.1.1 X.1.2.1 dX7_set_17 ?_
  refine lv_iload_n X.1.1 X.1.2.1 dX7_set_18 rfl (lv_at hl 2 rfl) ?_
  refine lv_i2b X.1.1 X.1.2.1 dX7_set_19 rfl ?_
  obtain ⟨k8, h⟩ := h
  obtain ⟨i9, h⟩ := h
  refine r_bast X V k8 i9 dX7_set_20 (fun H locs V => ?_)
  exact W.vret X.1.1 X.1.2.1 hr (fun t ht _ => V.q (r := ()) h ht) V.2.1.2.2 dX7_set_21 X.1.2.2.2.2
