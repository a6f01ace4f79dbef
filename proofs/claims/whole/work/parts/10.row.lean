abbrev rm_X3_init : Room := { frames := 1, cells := 1, slots := 120, locals := 12 }
def wp_X3_init (post : Unit → HS → Prop) (S : HS) (a0 : Nat) (v1 : Int32) : Prop := ((v1 ≤ 0 → ∀ o2 : Nat, kd S o2 = 0 → (kd (snw S o2 33 0) a0 = 5 ∧ (post () (sfr (snw S o2 33 0) 14 a0 (some o2))))) ∧ (¬ v1 ≤ 0 → (¬ v1 < 0 ∧ v1.toNatClampNeg ≤ 120) ∧ (∀ o6 : Nat, kd S o6 = 0 → (kd (snw S o6 33 (v1.toNatClampNeg)) a0 = 5 ∧ (post () (sfr (snw S o6 33 (v1.toNatClampNeg)) 14 a0 (some o6)))))))
set_option maxHeartbeats 400000 in
set_option maxRecDepth 100000 in
theorem sd_X3_init (l : Launch) (D : va_G) (ka : Nat → ClassId) (sz : Nat) (Z : HS) (post : Unit → HS → Prop) (a0 : Nat) (v1 : Int32) (h : wp_X3_init post Z a0 v1) : Met l yX3_init [Cond.code yX3_init cX3_init 2 none] rm_X3_init (Px D ka Z sz [.ref a0, .int v1]) (Qx eV post D ka Z sz) 1 120 (fA Z sz) := by
  refine Met.ofW (cc := cX3_init) (maxL := 2) (ret := none) (by decide) rfl ?_
  intro p e s m args below meth c s₁ B hml hv
  obtain ⟨rfl, X, V, hsz⟩ := Cx.entry B hml hv
  have hr : meth.sig.returnType = none := B.returns
  have hin2 : meth.name = "<init>" := (name_of_methodNamed B.named B.method).1
  have hl := lv_entry ([.ref a0, .int v1]) (n := 2) (Nat.le_of_ble_eq_true rfl)
  rw [lg_entry_eq]
  generalize (lg_sl ([.ref a0, .int v1]) ++ List.replicate (2 - (lg_sl ([.ref a0, .int v1])).length) Slot.unset).toArray = ls at hl ⊢
  have hl : lv_has ls 2 [(0, .ref a0), (1, .int v1)] := hl
  have h : wp_X3_init post Z a0 v1 := h
  refine lv_aload_n X.1.1 X.1.2.1 dX3_init_0 rfl (lv_at hl 0 rfl) ?_
  refine W.objInit X.1.1 X.1.2.1 X.1.2.2.2.1 (X.w wd_0 rfl _) (X.w wd_1 rfl _) (X.w wd_2 rfl _) rfl (by rw [X.1.2.2.1]; exact hl.1) rfl dX3_init_1 (Nat.le_of_ble_eq_true rfl) (Nat.le_of_ble_eq_true rfl) ?_
  refine W.eq (g2 := F0 m 4 ls []) rfl ?_
  refine lv_aload_n X.1.1 X.1.2.1 dX3_init_4 rfl (lv_at hl 0 rfl) ?_
  refine lv_iload_n X.1.1 X.1.2.1 dX3_init_5 rfl (lv_at hl 1 rfl) ?_
  refine lv_if_le (tgt := 13) X.1.1 X.1.2.1 dX3_init_6 (by decide) (fun c1 => ?_) (fun c1 => ?_)
  · have h := h.1 c1
    refine lv_iconst (v := (0 : Int32)) X.1.1 X.1.2.1 dX3_init_13 (by decide) ?_
    refine r_newa (t := 0) (k := 33) (ty := .int) (N' := 0) (a0 := (0, .inl (fun _ => 0))) X V wd_3 rfl rfl (fun _ => rfl) (by decide) (by decide) (fun q => na_33) (by decide) (by decide) (by decide) (show 1 ≤ 1 by omega) (show 0 ≤ 120 by omega) dX3_init_14 (fun o2 H z3 V => ?_)
    have h := h o2 z3
    refine W.widen (k := 1) (n := 0) (by omega) (by omega) ?_
    have k4 : kd (snw Z o2 33 0) o2 / 32 = 1 := by show va_up (kd _) _ _ _ / 32 = _; rw [va_up_self]
    obtain ⟨k5, h⟩ := h
    refine pf_X3_9 X V k5 hin2 dX3_init_16 (fun H locs V => ?_)
    refine W.widen (k := 1) (n := 120) (by omega) (by omega) ?_
    exact W.vret X.1.1 X.1.2.1 hr (fun t ht _ => V.q (r := ()) h ht) V.2.1.2.2 dX3_init_19 X.1.2.2.2.2
  · have h := h.2 c1
    refine lv_iload_n X.1.1 X.1.2.1 dX3_init_9 rfl (lv_at hl 1 rfl) ?_
    refine lv_goto (tgt := 14) X.1.1 X.1.2.1 dX3_init_10 (by decide) ?_
    obtain ⟨⟨n8, n9⟩, h⟩ := h
    refine r_newa (t := 0) (k := 33) (ty := .int) (N' := v1.toNatClampNeg) (a0 := (v1.toNatClampNeg, .inl (fun _ => 0))) X V wd_3 rfl rfl (fun _ => rfl) (by decide) (by decide) (fun q => na_33) n8 rfl (by have := n9; simp [componentBytes]; omega) (show 1 ≤ 1 by omega) (show 0 + v1.toNatClampNeg ≤ 120 by omega) dX3_init_14 (fun o6 H z7 V => ?_)
    have h := h o6 z7
    refine W.widen (k := 1) (n := 120) (by omega) (by omega) ?_
    have k10 : kd (snw Z o6 33 (v1.toNatClampNeg)) o6 / 32 = 1 := by show va_up (kd _) _ _ _ / 32 = _; rw [va_up_self]
    obtain ⟨k11, h⟩ := h
    refine pf_X3_9 X V k11 hin2 dX3_init_16 (fun H locs V => ?_)
    refine W.widen (k := 1) (n := 120) (by omega) (by omega) ?_
    exact W.vret X.1.1 X.1.2.1 hr (fun t ht _ => V.q (r := ()) h ht) V.2.1.2.2 dX3_init_19 X.1.2.2.2.2
abbrev rm_X3_holds : Room := { frames := 0, cells := 0, slots := 0, locals := 0 }
def wp_X3_holds (post : Int32 → HS → Prop) (S : HS) (a0 : Nat) (v1 : Int32) : Prop := ((v1 < 0 → post (0 : Int32) S) ∧ (¬ v1 < 0 → kd S a0 = 5 ∧ ((((fi S 15 a0) ≤ v1 → post (0 : Int32) S) ∧ (¬ (fi S 15 a0) ≤ v1 → post (1 : Int32) S)))))
set_option maxHeartbeats 400000 in
set_option maxRecDepth 100000 in
theorem sd_X3_holds (l : Launch) (D : va_G) (ka : Nat → ClassId) (sz : Nat) (Z : HS) (post : Int32 → HS → Prop) (a0 : Nat) (v1 : Int32) (h : wp_X3_holds post Z a0 v1) : Met l yX3_holds [Cond.code yX3_holds cX3_holds 2 (some .boolean)] rm_X3_holds (Px D ka Z sz [.ref a0, .int v1]) (Qx eI post D ka Z sz) 0 0 (fA Z sz) := by
  refine Met.ofW (cc := cX3_holds) (maxL := 2) (ret := (some .boolean)) (by decide) rfl ?_
  intro p e s m args below meth c s₁ B hml hv
  obtain ⟨rfl, X, V, hsz⟩ := Cx.entry B hml hv
  have hr : meth.sig.returnType = (some .boolean) := B.returns
  have hl := lv_entry ([.ref a0, .int v1]) (n := 2) (Nat.le_of_ble_eq_true rfl)
  rw [lg_entry_eq]
  generalize (lg_sl ([.ref a0, .int v1]) ++ List.replicate (2 - (lg_sl ([.ref a0, .int v1])).length) Slot.unset).toArray = ls at hl ⊢
  have hl : lv_has ls 2 [(0, .ref a0), (1, .int v1)] := hl
  have h : wp_X3_holds post Z a0 v1 := h
  refine lv_iload_n X.1.1 X.1.2.1 dX3_holds_0 rfl (lv_at hl 1 rfl) ?_
  refine lv_if_lt (tgt := 16) X.1.1 X.1.2.1 dX3_holds_1 (by decide) (fun c1 => ?_) (fun c1 => ?_)
  · have h := h.1 c1
    refine lv_iconst (v := (0 : Int32)) X.1.1 X.1.2.1 dX3_holds_16 (by decide) ?_
    exact W.zret X.1.1 X.1.2.1 hr (by decide) (fun t ht _ => V.q (r := (0 : Int32)) h ht) V.2.1.2.2 dX3_holds_17 X.1.2.2.2.2
  · have h := h.2 c1
    refine lv_iload_n X.1.1 X.1.2.1 dX3_holds_4 rfl (lv_at hl 1 rfl) ?_
    refine lv_aload_n X.1.1 X.1.2.1 dX3_holds_5 rfl (lv_at hl 0 rfl) ?_
    obtain ⟨k2, h⟩ := h
    refine gf_X3_15 X V k2 dX3_holds_6 ?_
    refine lv_icmp_ge (tgt := 16) X.1.1 X.1.2.1 dX3_holds_9 (by decide) (fun c3 => ?_) (fun c3 => ?_)
    · have h := h.1 c3
      refine lv_iconst (v := (0 : Int32)) X.1.1 X.1.2.1 dX3_holds_16 (by decide) ?_
      exact W.zret X.1.1 X.1.2.1 hr (by decide) (fun t ht _ => V.q (r := (0 : Int32)) h ht) V.2.1.2.2 dX3_holds_17 X.1.2.2.2.2
    · have h := h.2 c3
      refine lv_iconst (v := (1 : Int32)) X.1.1 X.1.2.1 dX3_holds_12 (by decide) ?_
      refine lv_goto (tgt := 17) X.1.1 X.1.2.1 dX3_holds_13 (by decide) ?_
      exact W.zret X.1.1 X.1.2.1 hr (by decide) (fun t ht _ => V.q (r := (1 : Int32)) h ht) V.2.1.2.2 dX3_holds_17 X.1.2.2.2.2
abbrev rm_X3_at : Room := { frames := 0, cells := 0, slots := 0, locals := 0 }
def wp_X3_at (post : Int32 → HS → Prop) (S : HS) (a0 : Nat) (v1 : Int32) : Prop := ((v1 < 0 → post (-1 : Int32) S) ∧ (¬ v1 < 0 → kd S a0 = 5 ∧ ((((fi S 15 a0) ≤ v1 → post (-1 : Int32) S) ∧ (¬ (fi S 15 a0) ≤ v1 → ∃ o4 : Nat, fr S 14 a0 = some o4 ∧ (kd S o4 / 32 = 1 ∧ (vp_in v1 (ln S o4) ∧ (post (ai S o4 v1.toNatClampNeg) S))))))))
set_option maxHeartbeats 400000 in
set_option maxRecDepth 100000 in
theorem sd_X3_at (l : Launch) (D : va_G) (ka : Nat → ClassId) (sz : Nat) (Z : HS) (post : Int32 → HS → Prop) (a0 : Nat) (v1 : Int32) (h : wp_X3_at post Z a0 v1) : Met l yX3_at [Cond.code yX3_at cX3_at 2 (some .int)] rm_X3_at (Px D ka Z sz [.ref a0, .int v1]) (Qx eI post D ka Z sz) 0 0 (fA Z sz) := by
  refine Met.ofW (cc := cX3_at) (maxL := 2) (ret := (some .int)) (by decide) rfl ?_
  intro p e s m args below meth c s₁ B hml hv
  obtain ⟨rfl, X, V, hsz⟩ := Cx.entry B hml hv
  have hr : meth.sig.returnType = (some .int) := B.returns
  have hl := lv_entry ([.ref a0, .int v1]) (n := 2) (Nat.le_of_ble_eq_true rfl)
  rw [lg_entry_eq]
  generalize (lg_sl ([.ref a0, .int v1]) ++ List.replicate (2 - (lg_sl ([.ref a0, .int v1])).length) Slot.unset).toArray = ls at hl ⊢
  have hl : lv_has ls 2 [(0, .ref a0), (1, .int v1)] := hl
  have h : wp_X3_at post Z a0 v1 := h
  refine lv_iload_n X.1.1 X.1.2.1 dX3_at_0 rfl (lv_at hl 1 rfl) ?_
  refine lv_if_lt (tgt := 21) X.1.1 X.1.2.1 dX3_at_1 (by decide) (fun c1 => ?_) (fun c1 => ?_)
  · have h := h.1 c1
    refine lv_iconst (v := (-1 : Int32)) X.1.1 X.1.2.1 dX3_at_21 (by decide) ?_
    exact W.iret X.1.1 X.1.2.1 hr (fun t ht _ => V.q (r := (-1 : Int32)) h ht) V.2.1.2.2 dX3_at_22 X.1.2.2.2.2
  · have h := h.2 c1
    refine lv_iload_n X.1.1 X.1.2.1 dX3_at_4 rfl (lv_at hl 1 rfl) ?_
    refine lv_aload_n X.1.1 X.1.2.1 dX3_at_5 rfl (lv_at hl 0 rfl) ?_
    obtain ⟨k2, h⟩ := h
    refine gf_X3_15 X V k2 dX3_at_6 ?_
    refine lv_icmp_ge (tgt := 21) X.1.1 X.1.2.1 dX3_at_9 (by decide) (fun c3 => ?_) (fun c3 => ?_)
    · have h := h.1 c3
      refine lv_iconst (v := (-1 : Int32)) X.1.1 X.1.2.1 dX3_at_21 (by decide) ?_
      exact W.iret X.1.1 X.1.2.1 hr (fun t ht _ => V.q (r := (-1 : Int32)) h ht) V.2.1.2.2 dX3_at_22 X.1.2.2.2.2
    · have h := h.2 c3
      refine lv_aload_n X.1.1 X.1.2.1 dX3_at_12 rfl (lv_at hl 0 rfl) ?_
      obtain ⟨o4, e5, h⟩ := h
      refine gf_X3_9 X V k2 e5 dX3_at_13 ?_
      refine lv_iload_n X.1.1 X.1.2.1 dX3_at_16 rfl (lv_at hl 1 rfl) ?_
      obtain ⟨k6, h⟩ := h
      obtain ⟨i7, h⟩ := h
      refine r_iald X V k6 i7 dX3_at_17 ?_
      refine lv_goto (tgt := 22) X.1.1 X.1.2.1 dX3_at_18 (by decide) ?_
      exact W.iret X.1.1 X.1.2.1 hr (fun t ht _ => V.q (r := (ai Z o4 v1.toNatClampNeg)) h ht) V.2.1.2.2 dX3_at_22 X.1.2.2.2.2
abbrev rm_X3_clear : Room := { frames := 0, cells := 0, slots := 0, locals := 0 }
def wp_X3_clear (post : Unit → HS → Prop) (S : HS) (a0 : Nat) : Prop := kd S a0 = 5 ∧ (post () (sfi S 15 a0 (0 : Int32)))
set_option maxHeartbeats 400000 in
set_option maxRecDepth 100000 in
theorem sd_X3_clear (l : Launch) (D : va_G) (ka : Nat → ClassId) (sz : Nat) (Z : HS) (post : Unit → HS → Prop) (a0 : Nat) (h : wp_X3_clear post Z a0) : Met l yX3_clear [Cond.code yX3_clear cX3_clear 1 none] rm_X3_clear (Px D ka Z sz [.ref a0]) (Qx eV post D ka Z sz) 0 0 (fA Z sz) := by
  refine Met.ofW (cc := cX3_clear) (maxL := 1) (ret := none) (by decide) rfl ?_
  intro p e s m args below meth c s₁ B hml hv
  obtain ⟨rfl, X, V, hsz⟩ := Cx.entry B hml hv
  have hr : meth.sig.returnType = none := B.returns
  have hl := lv_entry ([.ref a0]) (n := 1) (Nat.le_of_ble_eq_true rfl)
  rw [lg_entry_eq]
  generalize (lg_sl ([.ref a0]) ++ List.replicate (1 - (lg_sl ([.ref a0])).length) Slot.unset).toArray = ls at hl ⊢
  have hl : lv_has ls 1 [(0, .ref a0)] := hl
  have h : wp_X3_clear post Z a0 := h
  refine lv_aload_n X.1.1 X.1.2.1 dX3_clear_0 rfl (lv_at hl 0 rfl) ?_
  refine lv_iconst (v := (0 : Int32)) X.1.1 X.1.2.1 dX3_clear_1 (by decide) ?_
  obtain ⟨k1, h⟩ := h
  refine pf_X3_15 X V k1 dX3_clear_2 (fun H locs V => ?_)
  exact W.vret X.1.1 X.1.2.1 hr (fun t ht _ => V.q (r := ()) h ht) V.2.1.2.2 dX3_clear_5 X.1.2.2.2.2
abbrev rm_X3_append : Room := { frames := 0, cells := 0, slots := 0, locals := 0 }
def wp_X3_append (post : Unit → HS → Prop) (S : HS) (a0 : Nat) (v1 : Int32) : Prop := kd S a0 = 5 ∧ (∃ o2 : Nat, fr S 14 a0 = some o2 ∧ ((1 ≤ kd S o2 / 32 ∧ kd S o2 ≤ 224) ∧ ((((Int32.ofNat (ln S o2)) ≤ (fi S 15 a0) → post () S) ∧ (¬ (Int32.ofNat (ln S o2)) ≤ (fi S 15 a0) → ∃ o6 : Nat, fr S 14 a0 = some o6 ∧ (kd S o6 / 32 = 1 ∧ (vp_in (fi S 15 a0) (ln S o6) ∧ (post () (sfi (sai S o6 (fi S 15 a0).toNatClampNeg (v1 &&& (255 : Int32))) 15 a0 ((fi (sai S o6 (fi S 15 a0).toNatClampNeg (v1 &&& (255 : Int32))) 15 a0) + (1 : Int32)))))))))))
set_option maxHeartbeats 400000 in
set_option maxRecDepth 100000 in
theorem sd_X3_append (l : Launch) (D : va_G) (ka : Nat → ClassId) (sz : Nat) (Z : HS) (post : Unit → HS → Prop) (a0 : Nat) (v1 : Int32) (h : wp_X3_append post Z a0 v1) : Met l yX3_append [Cond.code yX3_append cX3_append 2 none] rm_X3_append (Px D ka Z sz [.ref a0, .int v1]) (Qx eV post D ka Z sz) 0 0 (fA Z sz) := by
  refine Met.ofW (cc := cX3_append) (maxL := 2) (ret := none) (by decide) rfl ?_
  intro p e s m args below meth c s₁ B hml hv
  obtain ⟨rfl, X, V, hsz⟩ := Cx.entry B hml hv
  have hr : meth.sig.returnType = none := B.returns
  have hl := lv_entry ([.ref a0, .int v1]) (n := 2) (Nat.le_of_ble_eq_true rfl)
  rw [lg_entry_eq]
  generalize (lg_sl ([.ref a0, .int v1]) ++ List.replicate (2 - (lg_sl ([.ref a0, .int v1])).length) Slot.unset).toArray = ls at hl ⊢
  have hl : lv_has ls 2 [(0, .ref a0), (1, .int v1)] := hl
  have h : wp_X3_append post Z a0 v1 := h
  refine lv_aload_n X.1.1 X.1.2.1 dX3_append_0 rfl (lv_at hl 0 rfl) ?_
  obtain ⟨k1, h⟩ := h
  refine gf_X3_15 X V k1 dX3_append_1 ?_
  refine lv_aload_n X.1.1 X.1.2.1 dX3_append_4 rfl (lv_at hl 0 rfl) ?_
  obtain ⟨o2, e3, h⟩ := h
  refine gf_X3_9 X V k1 e3 dX3_append_5 ?_
  obtain ⟨k4, h⟩ := h
  refine r_alen X V k4 dX3_append_8 ?_
  refine lv_icmp_ge (tgt := 36) X.1.1 X.1.2.1 dX3_append_9 (by decide) (fun c5 => ?_) (fun c5 => ?_)
  · have h := h.1 c5
    exact W.vret X.1.1 X.1.2.1 hr (fun t ht _ => V.q (r := ()) h ht) V.2.1.2.2 dX3_append_36 X.1.2.2.2.2
  · have h := h.2 c5
    refine lv_aload_n X.1.1 X.1.2.1 dX3_append_12 rfl (lv_at hl 0 rfl) ?_
    obtain ⟨o6, e7, h⟩ := h
    refine gf_X3_9 X V k1 e7 dX3_append_13 ?_
    refine lv_aload_n X.1.1 X.1.2.1 dX3_append_16 rfl (lv_at hl 0 rfl) ?_
    refine gf_X3_15 X V k1 dX3_append_17 ?_
    refine lv_iload_n X.1.1 X.1.2.1 dX3_append_20 rfl (lv_at hl 1 rfl) ?_
    refine lv_sipush (v := (255 : Int32)) X.1.1 X.1.2.1 dX3_append_21 (by decide) ?_
    refine lv_iand X.1.1 X.1.2.1 dX3_append_24 ?_
    obtain ⟨k8, h⟩ := h
    obtain ⟨i9, h⟩ := h
    refine r_iast X V k8 i9 dX3_append_25 (fun H locs V => ?_)
    refine lv_aload_n X.1.1 X.1.2.1 dX3_append_26 rfl (lv_at hl 0 rfl) ?_
    refine lv_dup X.1.1 X.1.2.1 dX3_append_27 rfl ?_
    refine gf_X3_15 X V k1 dX3_append_28 ?_
    refine lv_iconst (v := (1 : Int32)) X.1.1 X.1.2.1 dX3_append_31 (by decide) ?_
    refine lv_iadd X.1.1 X.1.2.1 dX3_append_32 ?_
    refine pf_X3_15 X V k1 dX3_append_33 (fun H locs V => ?_)
    exact W.vret X.1.1 X.1.2.1 hr (fun t ht _ => V.q (r := ()) h ht) V.2.1.2.2 dX3_append_36 X.1.2.2.2.2
abbrev rm_X3_appendNumber : Room := { frames := 1, cells := 0, slots := 0, locals := 21 }
def wp_X3_appendNumber_5 : Nat → (Unit → HS → Prop) → HS → Nat → Int64 → Int32 → Prop
  | 0, _, _, _, _, _ => False
  | n + 1, post, S, b0, y1, x4 => ((x4 < 0 → post () S) ∧ (¬ x4 < 0 → kd S b0 = 5 ∧ (wp_X3_append (fun _ S3 => wp_X3_appendNumber_5 n post S3 b0 y1 (x4 + (-1 : Int32))) S b0 (((y1.toUInt64 >>> (((8 : Int32) * x4).toInt64.toUInt64 &&& Int64.toUInt64 63)).toInt64).toInt32))))
set_option maxHeartbeats 400000 in
set_option maxRecDepth 100000 in
theorem sl_X3_appendNumber_5 (l : Launch) (D : va_G) (ka : Nat → ClassId) (sz : Nat) (Z : HS) (post : Unit → HS → Prop) {p : Program} {e : Env} {s : State} {m : MethodId} {args : Array Value} {below : List Frame} {meth : Method} {c : Code} (X : Cx p s m meth c cX3_appendNumber 5 RX3 D ka Z (fA Z sz)) (hr : meth.sig.returnType = none)  : ∀ (n : Nat), ∀ (S : HS) (b0 : Nat) (y1 : Int64) (x4 : Int32), wp_X3_appendNumber_5 n post S b0 y1 x4 → ∀ (H : Heap) (locs : List Loc) (ls : Array Slot), Hv D ka Z s (fA Z sz) S H locs → lv_has ls 5 [(0, .ref b0), (1, .long y1), (4, .int x4)] → W p l e rm_X3_appendNumber s m args below meth c H locs 0 0 (MQ below (Qx eV post D ka Z sz) args s 0 0 (fA Z sz)) (F0 m 5 ls []) := by
  intro n
  induction n with
  | zero => intro S b0 y1 x4 h; exact h.elim
  | succ n ih =>
    intro S b0 y1 x4 h H locs ls V hl
    refine lv_iload X.1.1 X.1.2.1 dX3_appendNumber_5 (lv_at hl 2 rfl) ?_
    refine lv_if_lt (tgt := 28) X.1.1 X.1.2.1 dX3_appendNumber_7 (by decide) (fun c1 => ?_) (fun c1 => ?_)
    · have h := h.1 c1
      exact W.vret X.1.1 X.1.2.1 hr (fun t ht _ => V.q (r := ()) h ht) V.2.1.2.2 dX3_appendNumber_28 X.1.2.2.2.2
    · have h := h.2 c1
      refine lv_aload_n X.1.1 X.1.2.1 dX3_appendNumber_10 rfl (lv_at hl 0 rfl) ?_
      refine lv_lload_n X.1.1 X.1.2.1 dX3_appendNumber_11 rfl (lv_at hl 1 rfl) ?_
      refine lv_bipush (v := (8 : Int32)) X.1.1 X.1.2.1 dX3_appendNumber_12 (by decide) ?_
      refine lv_iload X.1.1 X.1.2.1 dX3_appendNumber_14 (lv_at hl 2 rfl) ?_
      refine lv_imul X.1.1 X.1.2.1 dX3_appendNumber_16 ?_
      refine lv_lushr X.1.1 X.1.2.1 dX3_appendNumber_17 rfl ?_
      refine lv_l2i X.1.1 X.1.2.1 dX3_appendNumber_18 rfl ?_
      obtain ⟨k2, h⟩ := h
      refine r_callV (k := 5) (n := 1) (As := [.int (((y1.toUInt64 >>> (((8 : Int32) * x4).toInt64.toUInt64 &&& Int64.toUInt64 63)).toInt64).toInt32)]) X V (sd_X3_append l D ka _ S _ b0 (((y1.toUInt64 >>> (((8 : Int32) * x4).toInt64.toUInt64 &&& Int64.toUInt64 63)).toInt64).toInt32) h) k2 (by decide) (by decide) rfl wd_6 wd_7 wd_8 wd_9 wd_10 rfl rfl (by decide +kernel) ⟨Nat.le_of_ble_eq_true rfl, Nat.le_of_ble_eq_true rfl⟩ rfl hl.1 rfl (Nat.le_of_ble_eq_true rfl) dX3_appendNumber_19 ⟨show 0 ≤ 0 by omega, show 0 ≤ 0 by omega⟩ (fun r4 S3 H locs h m5 V => ?_)
      have k2 := m5.k k2 (by decide)
      refine lv_iinc (v := (x4 + (-1 : Int32))) (lv' := [(4, .int (x4 + (-1 : Int32))), (0, .ref b0), (1, .long y1)]) X.1.1 X.1.2.1 dX3_appendNumber_22 hl (k := 2) rfl (congrArg (HAdd.hAdd _) (by decide)) (by decide) rfl (fun ls hl => ?_)
      refine lv_goto (tgt := 5) X.1.1 X.1.2.1 dX3_appendNumber_25 (by decide) ?_
      exact ih S3 b0 y1 (x4 + (-1 : Int32)) h _ _ _ V (lv_sub hl [1, 2, 0] rfl)
def wp_X3_appendNumber (post : Unit → HS → Prop) (S : HS) (a0 : Nat) (w1 : Int64) (v3 : Int32) : Prop := ∃ n9, wp_X3_appendNumber_5 n9 post S a0 w1 (v3 - (1 : Int32))
set_option maxHeartbeats 400000 in
set_option maxRecDepth 100000 in
theorem sd_X3_appendNumber (l : Launch) (D : va_G) (ka : Nat → ClassId) (sz : Nat) (Z : HS) (post : Unit → HS → Prop) (a0 : Nat) (w1 : Int64) (v3 : Int32) (h : wp_X3_appendNumber post Z a0 w1 v3) : Met l yX3_appendNumber [Cond.code yX3_appendNumber cX3_appendNumber 5 none] rm_X3_appendNumber (Px D ka Z sz [.ref a0, .long w1, .int v3]) (Qx eV post D ka Z sz) 0 0 (fA Z sz) := by
  refine Met.ofW (cc := cX3_appendNumber) (maxL := 5) (ret := none) (by decide) rfl ?_
  intro p e s m args below meth c s₁ B hml hv
  obtain ⟨rfl, X, V, hsz⟩ := Cx.entry B hml hv
  have hr : meth.sig.returnType = none := B.returns
  have hl := lv_entry ([.ref a0, .long w1, .int v3]) (n := 5) (Nat.le_of_ble_eq_true rfl)
  rw [lg_entry_eq]
  generalize (lg_sl ([.ref a0, .long w1, .int v3]) ++ List.replicate (5 - (lg_sl ([.ref a0, .long w1, .int v3])).length) Slot.unset).toArray = ls at hl ⊢
  have hl : lv_has ls 5 [(0, .ref a0), (1, .long w1), (3, .int v3)] := hl
  have h : wp_X3_appendNumber post Z a0 w1 v3 := h
  refine lv_iload_n X.1.1 X.1.2.1 dX3_appendNumber_0 rfl (lv_at hl 2 rfl) ?_
  refine lv_iconst (v := (1 : Int32)) X.1.1 X.1.2.1 dX3_appendNumber_1 (by decide) ?_
  refine lv_isub X.1.1 X.1.2.1 dX3_appendNumber_2 ?_
  refine lv_istore (lv' := [(4, .int (v3 - (1 : Int32))), (0, .ref a0), (1, .long w1), (3, .int v3)]) X.1.1 X.1.2.1 dX3_appendNumber_3 hl (by decide) rfl (fun ls hl => ?_)
  obtain ⟨n9, h⟩ := h
  exact sl_X3_appendNumber_5 l D ka sz Z post X hr n9 Z a0 w1 (v3 - (1 : Int32)) h _ _ _ V (lv_sub hl [1, 2, 0] rfl)
abbrev rm_X3_appendRest : Room := { frames := 1, cells := 0, slots := 0, locals := 21 }
def wp_X3_appendRest_2 : Nat → (Unit → HS → Prop) → HS → Nat → Nat → Int32 → Prop
  | 0, _, _, _, _, _ => False
  | n + 1, post, S, b0, b1, x3 => kd S b1 = 5 ∧ ((((fi S 15 b1) ≤ x3 → post () S) ∧ (¬ (fi S 15 b1) ≤ x3 → wp_X3_at (fun r4 S3 => kd S3 b0 = 5 ∧ (wp_X3_append (fun _ S7 => wp_X3_appendRest_2 n post S7 b0 b1 (x3 + (1 : Int32))) S3 b0 r4)) S b1 x3)))
set_option maxHeartbeats 400000 in
set_option maxRecDepth 100000 in
theorem sl_X3_appendRest_2 (l : Launch) (D : va_G) (ka : Nat → ClassId) (sz : Nat) (Z : HS) (post : Unit → HS → Prop) {p : Program} {e : Env} {s : State} {m : MethodId} {args : Array Value} {below : List Frame} {meth : Method} {c : Code} (X : Cx p s m meth c cX3_appendRest 4 RX3 D ka Z (fA Z sz)) (hr : meth.sig.returnType = none)  : ∀ (n : Nat), ∀ (S : HS) (b0 : Nat) (b1 : Nat) (x3 : Int32), wp_X3_appendRest_2 n post S b0 b1 x3 → ∀ (H : Heap) (locs : List Loc) (ls : Array Slot), Hv D ka Z s (fA Z sz) S H locs → lv_has ls 4 [(0, .ref b0), (1, .ref b1), (3, .int x3)] → W p l e rm_X3_appendRest s m args below meth c H locs 0 0 (MQ below (Qx eV post D ka Z sz) args s 0 0 (fA Z sz)) (F0 m 2 ls []) := by
  intro n
  induction n with
  | zero => intro S b0 b1 x3 h; exact h.elim
  | succ n ih =>
    intro S b0 b1 x3 h H locs ls V hl
    refine lv_iload_n X.1.1 X.1.2.1 dX3_appendRest_2 rfl (lv_at hl 2 rfl) ?_
    refine lv_aload_n X.1.1 X.1.2.1 dX3_appendRest_3 rfl (lv_at hl 1 rfl) ?_
    obtain ⟨k1, h⟩ := h
    refine gf_X3_15 X V k1 dX3_appendRest_4 ?_
    refine lv_icmp_ge (tgt := 25) X.1.1 X.1.2.1 dX3_appendRest_7 (by decide) (fun c2 => ?_) (fun c2 => ?_)
    · have h := h.1 c2
      exact W.vret X.1.1 X.1.2.1 hr (fun t ht _ => V.q (r := ()) h ht) V.2.1.2.2 dX3_appendRest_25 X.1.2.2.2.2
    · have h := h.2 c2
      refine lv_aload_n X.1.1 X.1.2.1 dX3_appendRest_10 rfl (lv_at hl 0 rfl) ?_
      refine lv_aload_n X.1.1 X.1.2.1 dX3_appendRest_11 rfl (lv_at hl 1 rfl) ?_
      refine lv_iload_n X.1.1 X.1.2.1 dX3_appendRest_12 rfl (lv_at hl 2 rfl) ?_
      refine r_callV (k := 5) (n := 1) (As := [.int x3]) X V (sd_X3_at l D ka _ S _ b1 x3 h) k1 (by decide) (by decide) rfl wd_11 wd_12 wd_8 wd_13 wd_14 rfl rfl (by decide +kernel) ⟨Nat.le_of_ble_eq_true rfl, Nat.le_of_ble_eq_true rfl⟩ rfl hl.1 rfl (Nat.le_of_ble_eq_true rfl) dX3_appendRest_13 ⟨show 0 ≤ 0 by omega, show 0 ≤ 0 by omega⟩ (fun r4 S3 H locs h m5 V => ?_)
      have k1 := m5.k k1 (by decide)
      obtain ⟨k6, h⟩ := h
      refine r_callV (k := 5) (n := 1) (As := [.int r4]) X V (sd_X3_append l D ka _ S3 _ b0 r4 h) k6 (by decide) (by decide) rfl wd_6 wd_7 wd_8 wd_9 wd_10 rfl rfl (by decide +kernel) ⟨Nat.le_of_ble_eq_true rfl, Nat.le_of_ble_eq_true rfl⟩ rfl hl.1 rfl (Nat.le_of_ble_eq_true rfl) dX3_appendRest_16 ⟨show 0 ≤ 0 by omega, show 0 ≤ 0 by omega⟩ (fun r8 S7 H locs h m9 V => ?_)
      have k1 := m9.k k1 (by decide)
      have k6 := m9.k k6 (by decide)
      refine lv_iinc (v := (x3 + (1 : Int32))) (lv' := [(3, .int (x3 + (1 : Int32))), (0, .ref b0), (1, .ref b1)]) X.1.1 X.1.2.1 dX3_appendRest_19 hl (k := 2) rfl (congrArg (HAdd.hAdd _) (by decide)) (by decide) rfl (fun ls hl => ?_)
      refine lv_goto (tgt := 2) X.1.1 X.1.2.1 dX3_appendRest_22 (by decide) ?_
      exact ih S7 b0 b1 (x3 + (1 : Int32)) h _ _ _ V (lv_sub hl [1, 2, 0] rfl)
def wp_X3_appendRest (post : Unit → HS → Prop) (S : HS) (a0 : Nat) (a1 : Nat) (v2 : Int32) : Prop := ∃ n9, wp_X3_appendRest_2 n9 post S a0 a1 v2
set_option maxHeartbeats 400000 in
set_option maxRecDepth 100000 in
theorem sd_X3_appendRest (l : Launch) (D : va_G) (ka : Nat → ClassId) (sz : Nat) (Z : HS) (post : Unit → HS → Prop) (a0 : Nat) (a1 : Nat) (v2 : Int32) (h : wp_X3_appendRest post Z a0 a1 v2) : Met l yX3_appendRest [Cond.code yX3_appendRest cX3_appendRest 4 none] rm_X3_appendRest (Px D ka Z sz [.ref a0, .ref a1, .int v2]) (Qx eV post D ka Z sz) 0 0 (fA Z sz) := by
  refine Met.ofW (cc := cX3_appendRest) (maxL := 4) (ret := none) (by decide) rfl ?_
  intro p e s m args below meth c s₁ B hml hv
  obtain ⟨rfl, X, V, hsz⟩ := Cx.entry B hml hv
  have hr : meth.sig.returnType = none := B.returns
  have hl := lv_entry ([.ref a0, .ref a1, .int v2]) (n := 4) (Nat.le_of_ble_eq_true rfl)
  rw [lg_entry_eq]
  generalize (lg_sl ([.ref a0, .ref a1, .int v2]) ++ List.replicate (4 - (lg_sl ([.ref a0, .ref a1, .int v2])).length) Slot.unset).toArray = ls at hl ⊢
  have hl : lv_has ls 4 [(0, .ref a0), (1, .ref a1), (2, .int v2)] := hl
  have h : wp_X3_appendRest post Z a0 a1 v2 := h
  refine lv_iload_n X.1.1 X.1.2.1 dX3_appendRest_0 rfl (lv_at hl 2 rfl) ?_
  refine lv_istore_n (lv' := [(3, .int v2), (0, .ref a0), (1, .ref a1), (2, .int v2)]) X.1.1 X.1.2.1 dX3_appendRest_1 rfl hl (by decide) rfl (fun ls hl => ?_)
  obtain ⟨n9, h⟩ := h
  exact sl_X3_appendRest_2 l D ka sz Z post X hr n9 Z a0 a1 v2 h _ _ _ V (lv_sub hl [1, 2, 0] rfl)
abbrev rm_X3_turn : Room := { frames := 0, cells := 0, slots := 0, locals := 0 }
def wp_X3_turn (post : Unit → HS → Prop) (S : HS) (a0 : Nat) (v1 : Int32) (v2 : Int32) : Prop := ((v1 < 0 → post () S) ∧ (¬ v1 < 0 → kd S a0 = 5 ∧ ((((fi S 15 a0) ≤ v1 → post () S) ∧ (¬ (fi S 15 a0) ≤ v1 → ∃ o4 : Nat, fr S 14 a0 = some o4 ∧ (kd S o4 / 32 = 1 ∧ (vp_in v1 (ln S o4) ∧ (vp_in v1 (ln S o4) ∧ (post () (sai S o4 v1.toNatClampNeg ((ai S o4 v1.toNatClampNeg) ^^^ (v2 &&& (255 : Int32)))))))))))))
set_option maxHeartbeats 400000 in
set_option maxRecDepth 100000 in
theorem sd_X3_turn (l : Launch) (D : va_G) (ka : Nat → ClassId) (sz : Nat) (Z : HS) (post : Unit → HS → Prop) (a0 : Nat) (v1 : Int32) (v2 : Int32) (h : wp_X3_turn post Z a0 v1 v2) : Met l yX3_turn [Cond.code yX3_turn cX3_turn 3 none] rm_X3_turn (Px D ka Z sz [.ref a0, .int v1, .int v2]) (Qx eV post D ka Z sz) 0 0 (fA Z sz) := by
  refine Met.ofW (cc := cX3_turn) (maxL := 3) (ret := none) (by decide) rfl ?_
  intro p e s m args below meth c s₁ B hml hv
  obtain ⟨rfl, X, V, hsz⟩ := Cx.entry B hml hv
  have hr : meth.sig.returnType = none := B.returns
  have hl := lv_entry ([.ref a0, .int v1, .int v2]) (n := 3) (Nat.le_of_ble_eq_true rfl)
  rw [lg_entry_eq]
  generalize (lg_sl ([.ref a0, .int v1, .int v2]) ++ List.replicate (3 - (lg_sl ([.ref a0, .int v1, .int v2])).length) Slot.unset).toArray = ls at hl ⊢
  have hl : lv_has ls 3 [(0, .ref a0), (1, .int v1), (2, .int v2)] := hl
  have h : wp_X3_turn post Z a0 v1 v2 := h
  refine lv_iload_n X.1.1 X.1.2.1 dX3_turn_0 rfl (lv_at hl 1 rfl) ?_
  refine lv_if_lt (tgt := 26) X.1.1 X.1.2.1 dX3_turn_1 (by decide) (fun c1 => ?_) (fun c1 => ?_)
  · have h := h.1 c1
    exact W.vret X.1.1 X.1.2.1 hr (fun t ht _ => V.q (r := ()) h ht) V.2.1.2.2 dX3_turn_26 X.1.2.2.2.2
  · have h := h.2 c1
    refine lv_iload_n X.1.1 X.1.2.1 dX3_turn_4 rfl (lv_at hl 1 rfl) ?_
    refine lv_aload_n X.1.1 X.1.2.1 dX3_turn_5 rfl (lv_at hl 0 rfl) ?_
    obtain ⟨k2, h⟩ := h
    refine gf_X3_15 X V k2 dX3_turn_6 ?_
    refine lv_icmp_ge (tgt := 26) X.1.1 X.1.2.1 dX3_turn_9 (by decide) (fun c3 => ?_) (fun c3 => ?_)
    · have h := h.1 c3
      exact W.vret X.1.1 X.1.2.1 hr (fun t ht _ => V.q (r := ()) h ht) V.2.1.2.2 dX3_turn_26 X.1.2.2.2.2
    · have h := h.2 c3
      refine lv_aload_n X.1.1 X.1.2.1 dX3_turn_12 rfl (lv_at hl 0 rfl) ?_
      obtain ⟨o4, e5, h⟩ := h
      refine gf_X3_9 X V k2 e5 dX3_turn_13 ?_
      refine lv_iload_n X.1.1 X.1.2.1 dX3_turn_16 rfl (lv_at hl 1 rfl) ?_
      refine lv_dup2_11 X.1.1 X.1.2.1 dX3_turn_17 rfl rfl ?_
      obtain ⟨k6, h⟩ := h
      obtain ⟨i7, h⟩ := h
      refine r_iald X V k6 i7 dX3_turn_18 ?_
      refine lv_iload_n X.1.1 X.1.2.1 dX3_turn_19 rfl (lv_at hl 2 rfl) ?_
      refine lv_sipush (v := (255 : Int32)) X.1.1 X.1.2.1 dX3_turn_20 (by decide) ?_
      refine lv_iand X.1.1 X.1.2.1 dX3_turn_23 ?_
      refine lv_ixor X.1.1 X.1.2.1 dX3_turn_24 ?_
      obtain ⟨i8, h⟩ := h
      refine r_iast X V k6 i8 dX3_turn_25 (fun H locs V => ?_)
      exact W.vret X.1.1 X.1.2.1 hr (fun t ht _ => V.q (r := ()) h ht) V.2.1.2.2 dX3_turn_26 X.1.2.2.2.2
abbrev rm_X3_putPair : Room := { frames := 0, cells := 0, slots := 0, locals := 0 }
def wp_X3_putPair (post : Unit → HS → Prop) (S : HS) (a0 : Nat) (v1 : Int32) (v2 : Int32) : Prop := ((v1 < 0 → post () S) ∧ (¬ v1 < 0 → kd S a0 = 5 ∧ (((((fi S 15 a0) - (1 : Int32)) ≤ v1 → post () S) ∧ (¬ ((fi S 15 a0) - (1 : Int32)) ≤ v1 → ∃ o4 : Nat, fr S 14 a0 = some o4 ∧ (kd S o4 / 32 = 1 ∧ (vp_in v1 (ln S o4) ∧ (∃ o8 : Nat, fr (sai S o4 v1.toNatClampNeg ((v2.toUInt32 >>> ((8 : Int32).toUInt32 &&& Int32.toUInt32 31)).toInt32 &&& (255 : Int32))) 14 a0 = some o8 ∧ (kd (sai S o4 v1.toNatClampNeg ((v2.toUInt32 >>> ((8 : Int32).toUInt32 &&& Int32.toUInt32 31)).toInt32 &&& (255 : Int32))) o8 / 32 = 1 ∧ (vp_in (v1 + (1 : Int32)) (ln (sai S o4 v1.toNatClampNeg ((v2.toUInt32 >>> ((8 : Int32).toUInt32 &&& Int32.toUInt32 31)).toInt32 &&& (255 : Int32))) o8) ∧ (post () (sai (sai S o4 v1.toNatClampNeg ((v2.toUInt32 >>> ((8 : Int32).toUInt32 &&& Int32.toUInt32 31)).toInt32 &&& (255 : Int32))) o8 (v1 + (1 : Int32)).toNatClampNeg (v2 &&& (255 : Int32))))))))))))))
set_option maxHeartbeats 400000 in
set_option maxRecDepth 100000 in
theorem sd_X3_putPair (l : Launch) (D : va_G) (ka : Nat → ClassId) (sz : Nat) (Z : HS) (post : Unit → HS → Prop) (a0 : Nat) (v1 : Int32) (v2 : Int32) (h : wp_X3_putPair post Z a0 v1 v2) : Met l yX3_putPair [Cond.code yX3_putPair cX3_putPair 3 none] rm_X3_putPair (Px D ka Z sz [.ref a0, .int v1, .int v2]) (Qx eV post D ka Z sz) 0 0 (fA Z sz) := by
  refine Met.ofW (cc := cX3_putPair) (maxL := 3) (ret := none) (by decide) rfl ?_
  intro p e s m args below meth c s₁ B hml hv
  obtain ⟨rfl, X, V, hsz⟩ := Cx.entry B hml hv
  have hr : meth.sig.returnType = none := B.returns
  have hl := lv_entry ([.ref a0, .int v1, .int v2]) (n := 3) (Nat.le_of_ble_eq_true rfl)
  rw [lg_entry_eq]
  generalize (lg_sl ([.ref a0, .int v1, .int v2]) ++ List.replicate (3 - (lg_sl ([.ref a0, .int v1, .int v2])).length) Slot.unset).toArray = ls at hl ⊢
  have hl : lv_has ls 3 [(0, .ref a0), (1, .int v1), (2, .int v2)] := hl
  have h : wp_X3_putPair post Z a0 v1 v2 := h
  refine lv_iload_n X.1.1 X.1.2.1 dX3_putPair_0 rfl (lv_at hl 1 rfl) ?_
  refine lv_if_lt (tgt := 41) X.1.1 X.1.2.1 dX3_putPair_1 (by decide) (fun c1 => ?_) (fun c1 => ?_)
  · have h := h.1 c1
    exact W.vret X.1.1 X.1.2.1 hr (fun t ht _ => V.q (r := ()) h ht) V.2.1.2.2 dX3_putPair_41 X.1.2.2.2.2
  · have h := h.2 c1
    refine lv_iload_n X.1.1 X.1.2.1 dX3_putPair_4 rfl (lv_at hl 1 rfl) ?_
    refine lv_aload_n X.1.1 X.1.2.1 dX3_putPair_5 rfl (lv_at hl 0 rfl) ?_
    obtain ⟨k2, h⟩ := h
    refine gf_X3_15 X V k2 dX3_putPair_6 ?_
    refine lv_iconst (v := (1 : Int32)) X.1.1 X.1.2.1 dX3_putPair_9 (by decide) ?_
    refine lv_isub X.1.1 X.1.2.1 dX3_putPair_10 ?_
    refine lv_icmp_ge (tgt := 41) X.1.1 X.1.2.1 dX3_putPair_11 (by decide) (fun c3 => ?_) (fun c3 => ?_)
    · have h := h.1 c3
      exact W.vret X.1.1 X.1.2.1 hr (fun t ht _ => V.q (r := ()) h ht) V.2.1.2.2 dX3_putPair_41 X.1.2.2.2.2
    · have h := h.2 c3
      refine lv_aload_n X.1.1 X.1.2.1 dX3_putPair_14 rfl (lv_at hl 0 rfl) ?_
      obtain ⟨o4, e5, h⟩ := h
      refine gf_X3_9 X V k2 e5 dX3_putPair_15 ?_
      refine lv_iload_n X.1.1 X.1.2.1 dX3_putPair_18 rfl (lv_at hl 1 rfl) ?_
      refine lv_iload_n X.1.1 X.1.2.1 dX3_putPair_19 rfl (lv_at hl 2 rfl) ?_
      refine lv_bipush (v := (8 : Int32)) X.1.1 X.1.2.1 dX3_putPair_20 (by decide) ?_
      refine lv_iushr X.1.1 X.1.2.1 dX3_putPair_22 rfl ?_
      refine lv_sipush (v := (255 : Int32)) X.1.1 X.1.2.1 dX3_putPair_23 (by decide) ?_
      refine lv_iand X.1.1 X.1.2.1 dX3_putPair_26 ?_
      obtain ⟨k6, h⟩ := h
      obtain ⟨i7, h⟩ := h
      refine r_iast X V k6 i7 dX3_putPair_27 (fun H locs V => ?_)
      refine lv_aload_n X.1.1 X.1.2.1 dX3_putPair_28 rfl (lv_at hl 0 rfl) ?_
      obtain ⟨o8, e9, h⟩ := h
      refine gf_X3_9 X V k2 e9 dX3_putPair_29 ?_
      refine lv_iload_n X.1.1 X.1.2.1 dX3_putPair_32 rfl (lv_at hl 1 rfl) ?_
      refine lv_iconst (v := (1 : Int32)) X.1.1 X.1.2.1 dX3_putPair_33 (by decide) ?_
      refine lv_iadd X.1.1 X.1.2.1 dX3_putPair_34 ?_
      refine lv_iload_n X.1.1 X.1.2.1 dX3_putPair_35 rfl (lv_at hl 2 rfl) ?_
      refine lv_sipush (v := (255 : Int32)) X.1.1 X.1.2.1 dX3_putPair_36 (by decide) ?_
      refine lv_iand X.1.1 X.1.2.1 dX3_putPair_39 ?_
      obtain ⟨k10, h⟩ := h
      obtain ⟨i11, h⟩ := h
      refine r_iast X V k10 i11 dX3_putPair_40 (fun H locs V => ?_)
      exact W.vret X.1.1 X.1.2.1 hr (fun t ht _ => V.q (r := ()) h ht) V.2.1.2.2 dX3_putPair_41 X.1.2.2.2.2
abbrev rm_X3_number : Room := { frames := 1, cells := 0, slots := 0, locals := 21 }
def wp_X3_number_5 : Nat → (Int64 → HS → Prop) → HS → Nat → Int32 → Int32 → Int64 → Int32 → Prop
  | 0, _, _, _, _, _, _, _ => False
  | n + 1, post, S, b0, x1, x2, y3, x5 => (((x1 + x2) ≤ x5 → post y3 S) ∧ (¬ (x1 + x2) ≤ x5 → kd S b0 = 5 ∧ (wp_X3_at (fun r4 S3 => wp_X3_number_5 n post S3 b0 x1 x2 ((y3 <<< ((8 : Int32).toInt64 &&& 63)) ||| (r4 &&& (255 : Int32)).toInt64) (x5 + (1 : Int32))) S b0 x5)))
set_option maxHeartbeats 400000 in
set_option maxRecDepth 100000 in
theorem sl_X3_number_5 (l : Launch) (D : va_G) (ka : Nat → ClassId) (sz : Nat) (Z : HS) (post : Int64 → HS → Prop) {p : Program} {e : Env} {s : State} {m : MethodId} {args : Array Value} {below : List Frame} {meth : Method} {c : Code} (X : Cx p s m meth c cX3_number 6 RX3 D ka Z (fA Z sz)) (hr : meth.sig.returnType = (some .long))  : ∀ (n : Nat), ∀ (S : HS) (b0 : Nat) (x1 : Int32) (x2 : Int32) (y3 : Int64) (x5 : Int32), wp_X3_number_5 n post S b0 x1 x2 y3 x5 → ∀ (H : Heap) (locs : List Loc) (ls : Array Slot), Hv D ka Z s (fA Z sz) S H locs → lv_has ls 6 [(0, .ref b0), (1, .int x1), (2, .int x2), (3, .long y3), (5, .int x5)] → W p l e rm_X3_number s m args below meth c H locs 0 0 (MQ below (Qx eL post D ka Z sz) args s 0 0 (fA Z sz)) (F0 m 5 ls []) := by
  intro n
  induction n with
  | zero => intro S b0 x1 x2 y3 x5 h; exact h.elim
  | succ n ih =>
    intro S b0 x1 x2 y3 x5 h H locs ls V hl
    refine lv_iload X.1.1 X.1.2.1 dX3_number_5 (lv_at hl 4 rfl) ?_
    refine lv_iload_n X.1.1 X.1.2.1 dX3_number_7 rfl (lv_at hl 1 rfl) ?_
    refine lv_iload_n X.1.1 X.1.2.1 dX3_number_8 rfl (lv_at hl 2 rfl) ?_
    refine lv_iadd X.1.1 X.1.2.1 dX3_number_9 ?_
    refine lv_icmp_ge (tgt := 36) X.1.1 X.1.2.1 dX3_number_10 (by decide) (fun c1 => ?_) (fun c1 => ?_)
    · have h := h.1 c1
      refine lv_lload_n X.1.1 X.1.2.1 dX3_number_36 rfl (lv_at hl 3 rfl) ?_
      exact W.lret X.1.1 X.1.2.1 hr (fun t ht _ => V.q (r := y3) h ht) V.2.1.2.2 dX3_number_37 X.1.2.2.2.2
    · have h := h.2 c1
      refine lv_lload_n X.1.1 X.1.2.1 dX3_number_13 rfl (lv_at hl 3 rfl) ?_
      refine lv_bipush (v := (8 : Int32)) X.1.1 X.1.2.1 dX3_number_14 (by decide) ?_
      refine lv_lshl X.1.1 X.1.2.1 dX3_number_16 rfl ?_
      refine lv_aload_n X.1.1 X.1.2.1 dX3_number_17 rfl (lv_at hl 0 rfl) ?_
      refine lv_iload X.1.1 X.1.2.1 dX3_number_18 (lv_at hl 4 rfl) ?_
      obtain ⟨k2, h⟩ := h
      refine r_callV (k := 5) (n := 1) (As := [.int x5]) X V (sd_X3_at l D ka _ S _ b0 x5 h) k2 (by decide) (by decide) rfl wd_11 wd_12 wd_8 wd_13 wd_14 rfl rfl (by decide +kernel) ⟨Nat.le_of_ble_eq_true rfl, Nat.le_of_ble_eq_true rfl⟩ rfl hl.1 rfl (Nat.le_of_ble_eq_true rfl) dX3_number_20 ⟨show 0 ≤ 0 by omega, show 0 ≤ 0 by omega⟩ (fun r4 S3 H locs h m5 V => ?_)
      have k2 := m5.k k2 (by decide)
      refine lv_sipush (v := (255 : Int32)) X.1.1 X.1.2.1 dX3_number_23 (by decide) ?_
      refine lv_iand X.1.1 X.1.2.1 dX3_number_26 ?_
      refine lv_i2l X.1.1 X.1.2.1 dX3_number_27 rfl ?_
      refine lv_lor X.1.1 X.1.2.1 dX3_number_28 ?_
      refine lv_lstore_n (lv' := [(3, .long ((y3 <<< ((8 : Int32).toInt64 &&& 63)) ||| (r4 &&& (255 : Int32)).toInt64)), (0, .ref b0), (1, .int x1), (2, .int x2), (5, .int x5)]) X.1.1 X.1.2.1 dX3_number_29 rfl hl (by decide) rfl (fun ls hl => ?_)
      refine lv_iinc (v := (x5 + (1 : Int32))) (lv' := [(5, .int (x5 + (1 : Int32))), (3, .long ((y3 <<< ((8 : Int32).toInt64 &&& 63)) ||| (r4 &&& (255 : Int32)).toInt64)), (0, .ref b0), (1, .int x1), (2, .int x2)]) X.1.1 X.1.2.1 dX3_number_30 hl (k := 4) rfl (congrArg (HAdd.hAdd _) (by decide)) (by decide) rfl (fun ls hl => ?_)
      refine lv_goto (tgt := 5) X.1.1 X.1.2.1 dX3_number_33 (by decide) ?_
      exact ih S3 b0 x1 x2 ((y3 <<< ((8 : Int32).toInt64 &&& 63)) ||| (r4 &&& (255 : Int32)).toInt64) (x5 + (1 : Int32)) h _ _ _ V (lv_sub hl [2, 3, 4, 1, 0] rfl)
def wp_X3_number (post : Int64 → HS → Prop) (S : HS) (a0 : Nat) (v1 : Int32) (v2 : Int32) : Prop := ∃ n9, wp_X3_number_5 n9 post S a0 v1 v2 (0 : Int64) v1
set_option maxHeartbeats 400000 in
set_option maxRecDepth 100000 in
theorem sd_X3_number (l : Launch) (D : va_G) (ka : Nat → ClassId) (sz : Nat) (Z : HS) (post : Int64 → HS → Prop) (a0 : Nat) (v1 : Int32) (v2 : Int32) (h : wp_X3_number post Z a0 v1 v2) : Met l yX3_number [Cond.code yX3_number cX3_number 6 (some .long)] rm_X3_number (Px D ka Z sz [.ref a0, .int v1, .int v2]) (Qx eL post D ka Z sz) 0 0 (fA Z sz) := by
  refine Met.ofW (cc := cX3_number) (maxL := 6) (ret := (some .long)) (by decide) rfl ?_
  intro p e s m args below meth c s₁ B hml hv
  obtain ⟨rfl, X, V, hsz⟩ := Cx.entry B hml hv
  have hr : meth.sig.returnType = (some .long) := B.returns
  have hl := lv_entry ([.ref a0, .int v1, .int v2]) (n := 6) (Nat.le_of_ble_eq_true rfl)
  rw [lg_entry_eq]
  generalize (lg_sl ([.ref a0, .int v1, .int v2]) ++ List.replicate (6 - (lg_sl ([.ref a0, .int v1, .int v2])).length) Slot.unset).toArray = ls at hl ⊢
  have hl : lv_has ls 6 [(0, .ref a0), (1, .int v1), (2, .int v2)] := hl
  have h : wp_X3_number post Z a0 v1 v2 := h
  refine lv_lconst (v := (0 : Int64)) X.1.1 X.1.2.1 dX3_number_0 (by decide) ?_
  refine lv_lstore_n (lv' := [(3, .long (0 : Int64)), (0, .ref a0), (1, .int v1), (2, .int v2)]) X.1.1 X.1.2.1 dX3_number_1 rfl hl (by decide) rfl (fun ls hl => ?_)
  refine lv_iload_n X.1.1 X.1.2.1 dX3_number_2 rfl (lv_at hl 2 rfl) ?_
  refine lv_istore (lv' := [(5, .int v1), (3, .long (0 : Int64)), (0, .ref a0), (1, .int v1), (2, .int v2)]) X.1.1 X.1.2.1 dX3_number_3 hl (by decide) rfl (fun ls hl => ?_)
  obtain ⟨n9, h⟩ := h
  exact sl_X3_number_5 l D ka sz Z post X hr n9 Z a0 v1 v2 (0 : Int64) v1 h _ _ _ V (lv_sub hl [2, 3, 4, 1, 0] rfl)
abbrev rm_X3_pair : Room := { frames := 1, cells := 0, slots := 0, locals := 21 }
def wp_X3_pair (post : Int32 → HS → Prop) (S : HS) (a0 : Nat) (v1 : Int32) : Prop := kd S a0 = 5 ∧ (wp_X3_at (fun r3 S2 => wp_X3_at (fun r6 S5 => post (((r3 &&& (255 : Int32)) <<< ((8 : Int32) &&& 31)) ||| (r6 &&& (255 : Int32))) S5) S2 a0 (v1 + (1 : Int32))) S a0 v1)
set_option maxHeartbeats 400000 in
set_option maxRecDepth 100000 in
theorem sd_X3_pair (l : Launch) (D : va_G) (ka : Nat → ClassId) (sz : Nat) (Z : HS) (post : Int32 → HS → Prop) (a0 : Nat) (v1 : Int32) (h : wp_X3_pair post Z a0 v1) : Met l yX3_pair [Cond.code yX3_pair cX3_pair 2 (some .int)] rm_X3_pair (Px D ka Z sz [.ref a0, .int v1]) (Qx eI post D ka Z sz) 0 0 (fA Z sz) := by
  refine Met.ofW (cc := cX3_pair) (maxL := 2) (ret := (some .int)) (by decide) rfl ?_
  intro p e s m args below meth c s₁ B hml hv
  obtain ⟨rfl, X, V, hsz⟩ := Cx.entry B hml hv
  have hr : meth.sig.returnType = (some .int) := B.returns
  have hl := lv_entry ([.ref a0, .int v1]) (n := 2) (Nat.le_of_ble_eq_true rfl)
  rw [lg_entry_eq]
  generalize (lg_sl ([.ref a0, .int v1]) ++ List.replicate (2 - (lg_sl ([.ref a0, .int v1])).length) Slot.unset).toArray = ls at hl ⊢
  have hl : lv_has ls 2 [(0, .ref a0), (1, .int v1)] := hl
  have h : wp_X3_pair post Z a0 v1 := h
  refine lv_aload_n X.1.1 X.1.2.1 dX3_pair_0 rfl (lv_at hl 0 rfl) ?_
  refine lv_iload_n X.1.1 X.1.2.1 dX3_pair_1 rfl (lv_at hl 1 rfl) ?_
  obtain ⟨k1, h⟩ := h
  refine r_callV (k := 5) (n := 1) (As := [.int v1]) X V (sd_X3_at l D ka _ Z _ a0 v1 h) k1 (by decide) (by decide) rfl wd_11 wd_12 wd_8 wd_13 wd_14 rfl rfl (by decide +kernel) ⟨Nat.le_of_ble_eq_true rfl, Nat.le_of_ble_eq_true rfl⟩ rfl hl.1 rfl (Nat.le_of_ble_eq_true rfl) dX3_pair_2 ⟨show 0 ≤ 0 by omega, show 0 ≤ 0 by omega⟩ (fun r3 S2 H locs h m4 V => ?_)
  have k1 := m4.k k1 (by decide)
  refine lv_sipush (v := (255 : Int32)) X.1.1 X.1.2.1 dX3_pair_5 (by decide) ?_
  refine lv_iand X.1.1 X.1.2.1 dX3_pair_8 ?_
  refine lv_bipush (v := (8 : Int32)) X.1.1 X.1.2.1 dX3_pair_9 (by decide) ?_
  refine lv_ishl X.1.1 X.1.2.1 dX3_pair_11 ?_
  refine lv_aload_n X.1.1 X.1.2.1 dX3_pair_12 rfl (lv_at hl 0 rfl) ?_
  refine lv_iload_n X.1.1 X.1.2.1 dX3_pair_13 rfl (lv_at hl 1 rfl) ?_
  refine lv_iconst (v := (1 : Int32)) X.1.1 X.1.2.1 dX3_pair_14 (by decide) ?_
  refine lv_iadd X.1.1 X.1.2.1 dX3_pair_15 ?_
  refine r_callV (k := 5) (n := 1) (As := [.int (v1 + (1 : Int32))]) X V (sd_X3_at l D ka _ S2 _ a0 (v1 + (1 : Int32)) h) k1 (by decide) (by decide) rfl wd_11 wd_12 wd_8 wd_13 wd_14 rfl rfl (by decide +kernel) ⟨Nat.le_of_ble_eq_true rfl, Nat.le_of_ble_eq_true rfl⟩ rfl hl.1 rfl (Nat.le_of_ble_eq_true rfl) dX3_pair_16 ⟨show 0 ≤ 0 by omega, show 0 ≤ 0 by omega⟩ (fun r6 S5 H locs h m7 V => ?_)
  have k1 := m7.k k1 (by decide)
  refine lv_sipush (v := (255 : Int32)) X.1.1 X.1.2.1 dX3_pair_19 (by decide) ?_
  refine lv_iand X.1.1 X.1.2.1 dX3_pair_22 ?_
  refine lv_ior X.1.1 X.1.2.1 dX3_pair_23 ?_
  exact W.iret X.1.1 X.1.2.1 hr (fun t ht _ => V.q (r := (((r3 &&& (255 : Int32)) <<< ((8 : Int32) &&& 31)) ||| (r6 &&& (255 : Int32)))) h ht) V.2.1.2.2 dX3_pair_24 X.1.2.2.2.2
abbrev rm_X3_sum : Room := { frames := 1, cells := 0, slots := 0, locals := 21 }
def wp_X3_sum_53 : Nat → (Int32 → HS → Prop) → HS → Int32 → Int32 → Prop
  | 0, _, _, _, _ => False
  | n + 1, post, S, x3, x4 => (((2 : Int32) ≤ x4 → post ((x3 ^^^ (-1 : Int32)) &&& (65535 : Int32)) S) ∧ (¬ (2 : Int32) ≤ x4 → wp_X3_sum_53 n post S ((x3 &&& (65535 : Int32)) + (x3.toUInt32 >>> ((16 : Int32).toUInt32 &&& Int32.toUInt32 31)).toInt32) (x4 + (1 : Int32))))
set_option maxHeartbeats 400000 in
set_option maxRecDepth 100000 in
theorem sl_X3_sum_53 (l : Launch) (D : va_G) (ka : Nat → ClassId) (sz : Nat) (Z : HS) (post : Int32 → HS → Prop) {p : Program} {e : Env} {s : State} {m : MethodId} {args : Array Value} {below : List Frame} {meth : Method} {c : Code} (X : Cx p s m meth c cX3_sum 5 RX3 D ka Z (fA Z sz)) (hr : meth.sig.returnType = (some .int))  : ∀ (n : Nat), ∀ (S : HS) (x3 : Int32) (x4 : Int32), wp_X3_sum_53 n post S x3 x4 → ∀ (H : Heap) (locs : List Loc) (ls : Array Slot), Hv D ka Z s (fA Z sz) S H locs → lv_has ls 5 [(3, .int x3), (4, .int x4)] → W p l e rm_X3_sum s m args below meth c H locs 0 0 (MQ below (Qx eI post D ka Z sz) args s 0 0 (fA Z sz)) (F0 m 53 ls []) := by
  intro n
  induction n with
  | zero => intro S x3 x4 h; exact h.elim
  | succ n ih =>
    intro S x3 x4 h H locs ls V hl
    refine lv_iload X.1.1 X.1.2.1 dX3_sum_53 (lv_at hl 1 rfl) ?_
    refine lv_iconst (v := (2 : Int32)) X.1.1 X.1.2.1 dX3_sum_55 (by decide) ?_
    refine lv_icmp_ge (tgt := 75) X.1.1 X.1.2.1 dX3_sum_56 (by decide) (fun c2 => ?_) (fun c2 => ?_)
    · have h := h.1 c2
      refine lv_iload_n X.1.1 X.1.2.1 dX3_sum_75 rfl (lv_at hl 0 rfl) ?_
      refine lv_iconst (v := (-1 : Int32)) X.1.1 X.1.2.1 dX3_sum_76 (by decide) ?_
      refine lv_ixor X.1.1 X.1.2.1 dX3_sum_77 ?_
      refine lv_ldc (v := (65535 : Int32)) X.1.1 X.1.2.1 X.1.2.2.2.1 (X.w wd_15 rfl _) dX3_sum_78 ?_
      refine lv_iand X.1.1 X.1.2.1 dX3_sum_80 ?_
      exact W.iret X.1.1 X.1.2.1 hr (fun t ht _ => V.q (r := ((x3 ^^^ (-1 : Int32)) &&& (65535 : Int32))) h ht) V.2.1.2.2 dX3_sum_81 X.1.2.2.2.2
    · have h := h.2 c2
      refine lv_iload_n X.1.1 X.1.2.1 dX3_sum_59 rfl (lv_at hl 0 rfl) ?_
      refine lv_ldc (v := (65535 : Int32)) X.1.1 X.1.2.1 X.1.2.2.2.1 (X.w wd_15 rfl _) dX3_sum_60 ?_
      refine lv_iand X.1.1 X.1.2.1 dX3_sum_62 ?_
      refine lv_iload_n X.1.1 X.1.2.1 dX3_sum_63 rfl (lv_at hl 0 rfl) ?_
      refine lv_bipush (v := (16 : Int32)) X.1.1 X.1.2.1 dX3_sum_64 (by decide) ?_
      refine lv_iushr X.1.1 X.1.2.1 dX3_sum_66 rfl ?_
      refine lv_iadd X.1.1 X.1.2.1 dX3_sum_67 ?_
      refine lv_istore_n (lv' := [(3, .int ((x3 &&& (65535 : Int32)) + (x3.toUInt32 >>> ((16 : Int32).toUInt32 &&& Int32.toUInt32 31)).toInt32)), (4, .int x4)]) X.1.1 X.1.2.1 dX3_sum_68 rfl hl (by decide) rfl (fun ls hl => ?_)
      refine lv_iinc (v := (x4 + (1 : Int32))) (lv' := [(4, .int (x4 + (1 : Int32))), (3, .int ((x3 &&& (65535 : Int32)) + (x3.toUInt32 >>> ((16 : Int32).toUInt32 &&& Int32.toUInt32 31)).toInt32))]) X.1.1 X.1.2.1 dX3_sum_69 hl (k := 1) rfl (congrArg (HAdd.hAdd _) (by decide)) (by decide) rfl (fun ls hl => ?_)
      refine lv_goto (tgt := 53) X.1.1 X.1.2.1 dX3_sum_72 (by decide) ?_
      exact ih S ((x3 &&& (65535 : Int32)) + (x3.toUInt32 >>> ((16 : Int32).toUInt32 &&& Int32.toUInt32 31)).toInt32) (x4 + (1 : Int32)) h _ _ _ V (lv_sub hl [1, 0] rfl)
def wp_X3_sum_5 : Nat → (Int32 → HS → Prop) → HS → Nat → Int32 → Int32 → Int32 → Prop
  | 0, _, _, _, _, _, _ => False
  | n + 1, post, S, b0, x2, x3, x4 => ((x2 ≤ x4 → ∃ n9, wp_X3_sum_53 n9 post S x3 (0 : Int32)) ∧ (¬ x2 ≤ x4 → kd S b0 = 5 ∧ (wp_X3_at (fun r5 S4 => ((x2 ≤ (x4 + (1 : Int32)) → wp_X3_sum_5 n post S4 b0 x2 (x3 + ((r5 <<< ((8 : Int32) &&& 31)) ||| (0 : Int32))) (x4 + (2 : Int32))) ∧ (¬ x2 ≤ (x4 + (1 : Int32)) → wp_X3_at (fun r9 S8 => wp_X3_sum_5 n post S8 b0 x2 (x3 + ((r5 <<< ((8 : Int32) &&& 31)) ||| r9)) (x4 + (2 : Int32))) S4 b0 (x4 + (1 : Int32))))) S b0 x4)))
set_option maxHeartbeats 400000 in
set_option maxRecDepth 100000 in
theorem sl_X3_sum_5 (l : Launch) (D : va_G) (ka : Nat → ClassId) (sz : Nat) (Z : HS) (post : Int32 → HS → Prop) {p : Program} {e : Env} {s : State} {m : MethodId} {args : Array Value} {below : List Frame} {meth : Method} {c : Code} (X : Cx p s m meth c cX3_sum 5 RX3 D ka Z (fA Z sz)) (hr : meth.sig.returnType = (some .int))  : ∀ (n : Nat), ∀ (S : HS) (b0 : Nat) (x2 : Int32) (x3 : Int32) (x4 : Int32), wp_X3_sum_5 n post S b0 x2 x3 x4 → ∀ (H : Heap) (locs : List Loc) (ls : Array Slot), Hv D ka Z s (fA Z sz) S H locs → lv_has ls 5 [(0, .ref b0), (2, .int x2), (3, .int x3), (4, .int x4)] → W p l e rm_X3_sum s m args below meth c H locs 0 0 (MQ below (Qx eI post D ka Z sz) args s 0 0 (fA Z sz)) (F0 m 5 ls []) := by
  intro n
  induction n with
  | zero => intro S b0 x2 x3 x4 h; exact h.elim
  | succ n ih =>
    intro S b0 x2 x3 x4 h H locs ls V hl
    refine lv_iload X.1.1 X.1.2.1 dX3_sum_5 (lv_at hl 3 rfl) ?_
    refine lv_iload_n X.1.1 X.1.2.1 dX3_sum_7 rfl (lv_at hl 1 rfl) ?_
    refine lv_icmp_ge (tgt := 50) X.1.1 X.1.2.1 dX3_sum_8 (by decide) (fun c1 => ?_) (fun c1 => ?_)
    · have h := h.1 c1
      refine lv_iconst (v := (0 : Int32)) X.1.1 X.1.2.1 dX3_sum_50 (by decide) ?_
      refine lv_istore (lv' := [(4, .int (0 : Int32)), (0, .ref b0), (2, .int x2), (3, .int x3)]) X.1.1 X.1.2.1 dX3_sum_51 hl (by decide) rfl (fun ls hl => ?_)
      obtain ⟨n9, h⟩ := h
      exact sl_X3_sum_53 l D ka sz Z post X hr n9 S x3 (0 : Int32) h _ _ _ V (lv_sub hl [3, 0] rfl)
    · have h := h.2 c1
      refine lv_iload_n X.1.1 X.1.2.1 dX3_sum_11 rfl (lv_at hl 2 rfl) ?_
      refine lv_aload_n X.1.1 X.1.2.1 dX3_sum_12 rfl (lv_at hl 0 rfl) ?_
      refine lv_iload X.1.1 X.1.2.1 dX3_sum_13 (lv_at hl 3 rfl) ?_
      obtain ⟨k3, h⟩ := h
      refine r_callV (k := 5) (n := 1) (As := [.int x4]) X V (sd_X3_at l D ka _ S _ b0 x4 h) k3 (by decide) (by decide) rfl wd_11 wd_12 wd_8 wd_13 wd_14 rfl rfl (by decide +kernel) ⟨Nat.le_of_ble_eq_true rfl, Nat.le_of_ble_eq_true rfl⟩ rfl hl.1 rfl (Nat.le_of_ble_eq_true rfl) dX3_sum_15 ⟨show 0 ≤ 0 by omega, show 0 ≤ 0 by omega⟩ (fun r5 S4 H locs h m6 V => ?_)
      have k3 := m6.k k3 (by decide)
      refine lv_bipush (v := (8 : Int32)) X.1.1 X.1.2.1 dX3_sum_18 (by decide) ?_
      refine lv_ishl X.1.1 X.1.2.1 dX3_sum_20 ?_
      refine lv_iload X.1.1 X.1.2.1 dX3_sum_21 (lv_at hl 3 rfl) ?_
      refine lv_iconst (v := (1 : Int32)) X.1.1 X.1.2.1 dX3_sum_23 (by decide) ?_
      refine lv_iadd X.1.1 X.1.2.1 dX3_sum_24 ?_
      refine lv_iload_n X.1.1 X.1.2.1 dX3_sum_25 rfl (lv_at hl 1 rfl) ?_
      refine lv_icmp_ge (tgt := 40) X.1.1 X.1.2.1 dX3_sum_26 (by decide) (fun c7 => ?_) (fun c7 => ?_)
      · have h := h.1 c7
        refine lv_iconst (v := (0 : Int32)) X.1.1 X.1.2.1 dX3_sum_40 (by decide) ?_
        refine lv_ior X.1.1 X.1.2.1 dX3_sum_41 ?_
        refine lv_iadd X.1.1 X.1.2.1 dX3_sum_42 ?_
        refine lv_istore_n (lv' := [(3, .int (x3 + ((r5 <<< ((8 : Int32) &&& 31)) ||| (0 : Int32)))), (0, .ref b0), (2, .int x2), (4, .int x4)]) X.1.1 X.1.2.1 dX3_sum_43 rfl hl (by decide) rfl (fun ls hl => ?_)
        refine lv_iinc (v := (x4 + (2 : Int32))) (lv' := [(4, .int (x4 + (2 : Int32))), (3, .int (x3 + ((r5 <<< ((8 : Int32) &&& 31)) ||| (0 : Int32)))), (0, .ref b0), (2, .int x2)]) X.1.1 X.1.2.1 dX3_sum_44 hl (k := 3) rfl (congrArg (HAdd.hAdd _) (by decide)) (by decide) rfl (fun ls hl => ?_)
        refine lv_goto (tgt := 5) X.1.1 X.1.2.1 dX3_sum_47 (by decide) ?_
        exact ih S4 b0 x2 (x3 + ((r5 <<< ((8 : Int32) &&& 31)) ||| (0 : Int32))) (x4 + (2 : Int32)) h _ _ _ V (lv_sub hl [2, 3, 1, 0] rfl)
      · have h := h.2 c7
        refine lv_aload_n X.1.1 X.1.2.1 dX3_sum_29 rfl (lv_at hl 0 rfl) ?_
        refine lv_iload X.1.1 X.1.2.1 dX3_sum_30 (lv_at hl 3 rfl) ?_
        refine lv_iconst (v := (1 : Int32)) X.1.1 X.1.2.1 dX3_sum_32 (by decide) ?_
        refine lv_iadd X.1.1 X.1.2.1 dX3_sum_33 ?_
        refine r_callV (k := 5) (n := 1) (As := [.int (x4 + (1 : Int32))]) X V (sd_X3_at l D ka _ S4 _ b0 (x4 + (1 : Int32)) h) k3 (by decide) (by decide) rfl wd_11 wd_12 wd_8 wd_13 wd_14 rfl rfl (by decide +kernel) ⟨Nat.le_of_ble_eq_true rfl, Nat.le_of_ble_eq_true rfl⟩ rfl hl.1 rfl (Nat.le_of_ble_eq_true rfl) dX3_sum_34 ⟨show 0 ≤ 0 by omega, show 0 ≤ 0 by omega⟩ (fun r9 S8 H locs h m10 V => ?_)
        have k3 := m10.k k3 (by decide)
        refine lv_goto (tgt := 41) X.1.1 X.1.2.1 dX3_sum_37 (by decide) ?_
        refine lv_ior X.1.1 X.1.2.1 dX3_sum_41 ?_
        refine lv_iadd X.1.1 X.1.2.1 dX3_sum_42 ?_
        refine lv_istore_n (lv' := [(3, .int (x3 + ((r5 <<< ((8 : Int32) &&& 31)) ||| r9))), (0, .ref b0), (2, .int x2), (4, .int x4)]) X.1.1 X.1.2.1 dX3_sum_43 rfl hl (by decide) rfl (fun ls hl => ?_)
        refine lv_iinc (v := (x4 + (2 : Int32))) (lv' := [(4, .int (x4 + (2 : Int32))), (3, .int (x3 + ((r5 <<< ((8 : Int32) &&& 31)) ||| r9))), (0, .ref b0), (2, .int x2)]) X.1.1 X.1.2.1 dX3_sum_44 hl (k := 3) rfl (congrArg (HAdd.hAdd _) (by decide)) (by decide) rfl (fun ls hl => ?_)
        refine lv_goto (tgt := 5) X.1.1 X.1.2.1 dX3_sum_47 (by decide) ?_
        exact ih S8 b0 x2 (x3 + ((r5 <<< ((8 : Int32) &&& 31)) ||| r9)) (x4 + (2 : Int32)) h _ _ _ V (lv_sub hl [2, 3, 1, 0] rfl)
def wp_X3_sum (post : Int32 → HS → Prop) (S : HS) (a0 : Nat) (v1 : Int32) (v2 : Int32) : Prop := ∃ n9, wp_X3_sum_5 n9 post S a0 v2 (0 : Int32) v1
set_option maxHeartbeats 400000 in
set_option maxRecDepth 100000 in
theorem sd_X3_sum (l : Launch) (D : va_G) (ka : Nat → ClassId) (sz : Nat) (Z : HS) (post : Int32 → HS → Prop) (a0 : Nat) (v1 : Int32) (v2 : Int32) (h : wp_X3_sum post Z a0 v1 v2) : Met l yX3_sum [Cond.code yX3_sum cX3_sum 5 (some .int)] rm_X3_sum (Px D ka Z sz [.ref a0, .int v1, .int v2]) (Qx eI post D ka Z sz) 0 0 (fA Z sz) := by
  refine Met.ofW (cc := cX3_sum) (maxL := 5) (ret := (some .int)) (by decide) rfl ?_
  intro p e s m args below meth c s₁ B hml hv
  obtain ⟨rfl, X, V, hsz⟩ := Cx.entry B hml hv
  have hr : meth.sig.returnType = (some .int) := B.returns
  have hl := lv_entry ([.ref a0, .int v1, .int v2]) (n := 5) (Nat.le_of_ble_eq_true rfl)
  rw [lg_entry_eq]
  generalize (lg_sl ([.ref a0, .int v1, .int v2]) ++ List.replicate (5 - (lg_sl ([.ref a0, .int v1, .int v2])).length) Slot.unset).toArray = ls at hl ⊢
  have hl : lv_has ls 5 [(0, .ref a0), (1, .int v1), (2, .int v2)] := hl
  have h : wp_X3_sum post Z a0 v1 v2 := h
  refine lv_iconst (v := (0 : Int32)) X.1.1 X.1.2.1 dX3_sum_0 (by decide) ?_
  refine lv_istore_n (lv' := [(3, .int (0 : Int32)), (0, .ref a0), (1, .int v1), (2, .int v2)]) X.1.1 X.1.2.1 dX3_sum_1 rfl hl (by decide) rfl (fun ls hl => ?_)
  refine lv_iload_n X.1.1 X.1.2.1 dX3_sum_2 rfl (lv_at hl 2 rfl) ?_
  refine lv_istore (lv' := [(4, .int v1), (3, .int (0 : Int32)), (0, .ref a0), (1, .int v1), (2, .int v2)]) X.1.1 X.1.2.1 dX3_sum_3 hl (by decide) rfl (fun ls hl => ?_)
  obtain ⟨n9, h⟩ := h
  exact sl_X3_sum_5 l D ka sz Z post X hr n9 Z a0 v2 (0 : Int32) v1 h _ _ _ V (lv_sub hl [2, 4, 1, 0] rfl)
