abbrev rm_Jxa1e45_init_da8c8 : Room := { frames := 1, cells := 0, slots := 0, locals := 12 }
def wp_Jxa1e45_init_da8c8 (post : Unit → HS → Prop) (S : HS) (a0 : Nat) : Prop := post () S
set_option maxHeartbeats 400000 in
set_option maxRecDepth 100000 in
theorem sd_Jxa1e45_init_da8c8 (l : Launch) (D : va_G) (ka : Nat → ClassId) (sz : Nat) (Z : HS) (post : Unit → HS → Prop) (a0 : Nat) (h : wp_Jxa1e45_init_da8c8 post Z a0) : Met l yJxa1e45_init_da8c8 [Cond.code yJxa1e45_init_da8c8 cJxa1e45_init_da8c8 1 none] rm_Jxa1e45_init_da8c8 (Px D ka Z sz [.ref a0]) (Qx eV post D ka Z sz) 0 0 (fA Z sz) := by
  refine Met.ofW (cc := cJxa1e45_init_da8c8) (maxL := 1) (ret := none) (by decide) rfl ?_
  intro p e s m args below meth c s₁ B hml hv
  obtain ⟨rfl, X, V, hsz⟩ := Cx.entry B hml hv
  have hr : meth.sig.returnType = none := B.returns
  have hin2 : meth.name = "<init>" := (name_of_methodNamed B.named B.method).1
  have hl := lv_entry ([.ref a0]) (n := 1) (Nat.le_of_ble_eq_true rfl)
  rw [lg_entry_eq]
  generalize (lg_sl ([.ref a0]) ++ List.replicate (1 - (lg_sl ([.ref a0])).length) Slot.unset).toArray = ls at hl ⊢
  have hl : lv_has ls 1 [(0, .ref a0)] := hl
  have h : wp_Jxa1e45_init_da8c8 post Z a0 := h
  refine lv_aload_n X.1.1 X.1.2.1 dJxa1e45_init_da8c8_0 rfl (lv_at hl 0 rfl) ?_
  refine W.objInit X.1.1 X.1.2.1 X.1.2.2.2.1 (X.w wd_16 rfl _) (X.w wd_1 rfl _) (X.w wd_2 rfl _) rfl (by rw [X.1.2.2.1]; exact hl.1) rfl dJxa1e45_init_da8c8_1 (Nat.le_of_ble_eq_true rfl) (Nat.le_of_ble_eq_true rfl) ?_
  refine W.eq (g2 := F0 m 4 ls []) rfl ?_
  exact W.vret X.1.1 X.1.2.1 hr (fun t ht _ => V.q (r := ()) h ht) V.2.1.2.2 dJxa1e45_init_da8c8_4 X.1.2.2.2.2
abbrev rm_Jxc12de_init_da8c8 : Room := { frames := 2, cells := 0, slots := 0, locals := 32 }
def wp_Jxc12de_init_da8c8 (post : Unit → HS → Prop) (S : HS) (a0 : Nat) : Prop := wp_Jxa1e45_init_da8c8 (fun _ S1 => kd S1 a0 = 1 ∧ (post () (sfi S1 0 a0 (0 : Int32)))) S a0
set_option maxHeartbeats 400000 in
set_option maxRecDepth 100000 in
theorem sd_Jxc12de_init_da8c8 (l : Launch) (D : va_G) (ka : Nat → ClassId) (sz : Nat) (Z : HS) (post : Unit → HS → Prop) (a0 : Nat) (h : wp_Jxc12de_init_da8c8 post Z a0) : Met l yJxc12de_init_da8c8 [Cond.code yJxc12de_init_da8c8 cJxc12de_init_da8c8 1 none] rm_Jxc12de_init_da8c8 (Px D ka Z sz [.ref a0]) (Qx eV post D ka Z sz) 0 0 (fA Z sz) := by
  refine Met.ofW (cc := cJxc12de_init_da8c8) (maxL := 1) (ret := none) (by decide) rfl ?_
  intro p e s m args below meth c s₁ B hml hv
  obtain ⟨rfl, X, V, hsz⟩ := Cx.entry B hml hv
  have hr : meth.sig.returnType = none := B.returns
  have hin2 : meth.name = "<init>" := (name_of_methodNamed B.named B.method).1
  have hl := lv_entry ([.ref a0]) (n := 1) (Nat.le_of_ble_eq_true rfl)
  rw [lg_entry_eq]
  generalize (lg_sl ([.ref a0]) ++ List.replicate (1 - (lg_sl ([.ref a0])).length) Slot.unset).toArray = ls at hl ⊢
  have hl : lv_has ls 1 [(0, .ref a0)] := hl
  have h : wp_Jxc12de_init_da8c8 post Z a0 := h
  refine lv_aload_n X.1.1 X.1.2.1 dJxc12de_init_da8c8_0 rfl (lv_at hl 0 rfl) ?_
  refine r_callI (n := 0) (As := []) X V (sd_Jxa1e45_init_da8c8 l D ka _ Z _ a0 h) wd_17 wd_18 wd_19 wd_20 rfl rfl rfl (by decide +kernel) ⟨Nat.le_of_ble_eq_true rfl, Nat.le_of_ble_eq_true rfl⟩ rfl hl.1 rfl (Nat.le_of_ble_eq_true rfl) dJxc12de_init_da8c8_1 ⟨show 0 ≤ 0 by omega, show 0 ≤ 0 by omega⟩ (fun r2 S1 H locs h m3 V => ?_)
  refine lv_aload_n X.1.1 X.1.2.1 dJxc12de_init_da8c8_4 rfl (lv_at hl 0 rfl) ?_
  refine lv_iconst (v := (0 : Int32)) X.1.1 X.1.2.1 dJxc12de_init_da8c8_5 (by decide) ?_
  obtain ⟨k4, h⟩ := h
  refine pf_Jxc12de_7 X V k4 dJxc12de_init_da8c8_6 (fun H locs V => ?_)
  exact W.vret X.1.1 X.1.2.1 hr (fun t ht _ => V.q (r := ()) h ht) V.2.1.2.2 dJxc12de_init_da8c8_9 X.1.2.2.2.2
abbrev rm_Jx4a65c_init_da8c8 : Room := { frames := 3, cells := 0, slots := 0, locals := 52 }
def wp_Jx4a65c_init_da8c8 (post : Unit → HS → Prop) (S : HS) (a0 : Nat) : Prop := wp_Jxc12de_init_da8c8 (fun _ S1 => kd S1 a0 = 1 ∧ (post () (sfr S1 1 a0 (some (es S1))))) S a0
set_option maxHeartbeats 400000 in
set_option maxRecDepth 100000 in
theorem sd_Jx4a65c_init_da8c8 (l : Launch) (D : va_G) (ka : Nat → ClassId) (sz : Nat) (Z : HS) (post : Unit → HS → Prop) (a0 : Nat) (h : wp_Jx4a65c_init_da8c8 post Z a0) : Met l yJx4a65c_init_da8c8 [Cond.code yJx4a65c_init_da8c8 cJx4a65c_init_da8c8 1 none] rm_Jx4a65c_init_da8c8 (Px D ka Z sz [.ref a0]) (Qx eV post D ka Z sz) 0 0 (fA Z sz) := by
  refine Met.ofW (cc := cJx4a65c_init_da8c8) (maxL := 1) (ret := none) (by decide) rfl ?_
  intro p e s m args below meth c s₁ B hml hv
  obtain ⟨rfl, X, V, hsz⟩ := Cx.entry B hml hv
  have hr : meth.sig.returnType = none := B.returns
  have hin2 : meth.name = "<init>" := (name_of_methodNamed B.named B.method).1
  have hl := lv_entry ([.ref a0]) (n := 1) (Nat.le_of_ble_eq_true rfl)
  rw [lg_entry_eq]
  generalize (lg_sl ([.ref a0]) ++ List.replicate (1 - (lg_sl ([.ref a0])).length) Slot.unset).toArray = ls at hl ⊢
  have hl : lv_has ls 1 [(0, .ref a0)] := hl
  have h : wp_Jx4a65c_init_da8c8 post Z a0 := h
  refine lv_aload_n X.1.1 X.1.2.1 dJx4a65c_init_da8c8_0 rfl (lv_at hl 0 rfl) ?_
  refine r_callI (n := 0) (As := []) X V (sd_Jxc12de_init_da8c8 l D ka _ Z _ a0 h) wd_22 wd_23 wd_24 wd_25 rfl rfl rfl (by decide +kernel) ⟨Nat.le_of_ble_eq_true rfl, Nat.le_of_ble_eq_true rfl⟩ rfl hl.1 rfl (Nat.le_of_ble_eq_true rfl) dJx4a65c_init_da8c8_1 ⟨show 0 ≤ 0 by omega, show 0 ≤ 0 by omega⟩ (fun r2 S1 H locs h m3 V => ?_)
  refine lv_aload_n X.1.1 X.1.2.1 dJx4a65c_init_da8c8_4 rfl (lv_at hl 0 rfl) ?_
  refine r_gets X V wd_26 dJx4a65c_init_da8c8_5 ?_
  obtain ⟨k4, h⟩ := h
  refine pf_Jx4a65c_9 X V k4 dJx4a65c_init_da8c8_8 (fun H locs V => ?_)
  exact W.vret X.1.1 X.1.2.1 hr (fun t ht _ => V.q (r := ()) h ht) V.2.1.2.2 dJx4a65c_init_da8c8_11 X.1.2.2.2.2
abbrev rm_Jx4a65c_size_8abf5 : Room := { frames := 0, cells := 0, slots := 0, locals := 0 }
def wp_Jx4a65c_size_8abf5 (post : Int32 → HS → Prop) (S : HS) (a0 : Nat) : Prop := kd S a0 = 1 ∧ (post (fi S 2 a0) S)
set_option maxHeartbeats 400000 in
set_option maxRecDepth 100000 in
theorem sd_Jx4a65c_size_8abf5 (l : Launch) (D : va_G) (ka : Nat → ClassId) (sz : Nat) (Z : HS) (post : Int32 → HS → Prop) (a0 : Nat) (h : wp_Jx4a65c_size_8abf5 post Z a0) : Met l yJx4a65c_size_8abf5 [Cond.code yJx4a65c_size_8abf5 cJx4a65c_size_8abf5 1 (some .int)] rm_Jx4a65c_size_8abf5 (Px D ka Z sz [.ref a0]) (Qx eI post D ka Z sz) 0 0 (fA Z sz) := by
  refine Met.ofW (cc := cJx4a65c_size_8abf5) (maxL := 1) (ret := (some .int)) (by decide) rfl ?_
  intro p e s m args below meth c s₁ B hml hv
  obtain ⟨rfl, X, V, hsz⟩ := Cx.entry B hml hv
  have hr : meth.sig.returnType = (some .int) := B.returns
  have hl := lv_entry ([.ref a0]) (n := 1) (Nat.le_of_ble_eq_true rfl)
  rw [lg_entry_eq]
  generalize (lg_sl ([.ref a0]) ++ List.replicate (1 - (lg_sl ([.ref a0])).length) Slot.unset).toArray = ls at hl ⊢
  have hl : lv_has ls 1 [(0, .ref a0)] := hl
  have h : wp_Jx4a65c_size_8abf5 post Z a0 := h
  refine lv_aload_n X.1.1 X.1.2.1 dJx4a65c_size_8abf5_0 rfl (lv_at hl 0 rfl) ?_
  obtain ⟨k1, h⟩ := h
  refine gf_Jx4a65c_48 X V k1 dJx4a65c_size_8abf5_1 ?_
  exact W.iret X.1.1 X.1.2.1 hr (fun t ht _ => V.q (r := (fi Z 2 a0)) h ht) V.2.1.2.2 dJx4a65c_size_8abf5_4 X.1.2.2.2.2
abbrev rm_J3_checkIndex_8e157 : Room := { frames := 0, cells := 0, slots := 0, locals := 0 }
def wp_J3_checkIndex_8e157 (post : Int32 → HS → Prop) (S : HS) (v0 : Int32) (v1 : Int32) : Prop := ((v0 < 0 → False) ∧ (¬ v0 < 0 → ((v0 < v1 → post v0 S) ∧ (¬ v0 < v1 → False))))
set_option maxHeartbeats 400000 in
set_option maxRecDepth 100000 in
theorem sd_J3_checkIndex_8e157 (l : Launch) (D : va_G) (ka : Nat → ClassId) (sz : Nat) (Z : HS) (post : Int32 → HS → Prop) (v0 : Int32) (v1 : Int32) (h : wp_J3_checkIndex_8e157 post Z v0 v1) : Met l yJ3_checkIndex_8e157 [Cond.code yJ3_checkIndex_8e157 cJ3_checkIndex_8e157 3 (some .int)] rm_J3_checkIndex_8e157 (Px D ka Z sz [.int v0, .int v1, .null]) (Qx eI post D ka Z sz) 0 0 (fA Z sz) := by
  refine Met.ofW (cc := cJ3_checkIndex_8e157) (maxL := 3) (ret := (some .int)) (by decide) rfl ?_
  intro p e s m args below meth c s₁ B hml hv
  obtain ⟨rfl, X, V, hsz⟩ := Cx.entry B hml hv
  have hr : meth.sig.returnType = (some .int) := B.returns
  have hl := lv_entry ([.int v0, .int v1, .null]) (n := 3) (Nat.le_of_ble_eq_true rfl)
  rw [lg_entry_eq]
  generalize (lg_sl ([.int v0, .int v1, .null]) ++ List.replicate (3 - (lg_sl ([.int v0, .int v1, .null])).length) Slot.unset).toArray = ls at hl ⊢
  have hl : lv_has ls 3 [(0, .int v0), (1, .int v1), (2, .null)] := hl
  have h : wp_J3_checkIndex_8e157 post Z v0 v1 := h
  refine lv_iload_n X.1.1 X.1.2.1 dJ3_checkIndex_8e157_0 rfl (lv_at hl 0 rfl) ?_
  refine lv_if_lt (tgt := 9) X.1.1 X.1.2.1 dJ3_checkIndex_8e157_1 (by decide) (fun c1 => ?_) (fun c1 => ?_)
  · have h := h.1 c1
    refine lv_aload_nN X.1.1 X.1.2.1 dJ3_checkIndex_8e157_9 rfl (lv_at hl 2 rfl) ?_
    refine lv_iload_n X.1.1 X.1.2.1 dJ3_checkIndex_8e157_10 rfl (lv_at hl 0 rfl) ?_
    refine lv_iload_n X.1.1 X.1.2.1 dJ3_checkIndex_8e157_11 rfl (lv_at hl 1 rfl) ?_
    exact h.elim
  · have h := h.2 c1
    refine lv_iload_n X.1.1 X.1.2.1 dJ3_checkIndex_8e157_4 rfl (lv_at hl 0 rfl) ?_
    refine lv_iload_n X.1.1 X.1.2.1 dJ3_checkIndex_8e157_5 rfl (lv_at hl 1 rfl) ?_
    refine lv_icmp_lt (tgt := 16) X.1.1 X.1.2.1 dJ3_checkIndex_8e157_6 (by decide) (fun c2 => ?_) (fun c2 => ?_)
    · have h := h.1 c2
      refine lv_iload_n X.1.1 X.1.2.1 dJ3_checkIndex_8e157_16 rfl (lv_at hl 0 rfl) ?_
      exact W.iret X.1.1 X.1.2.1 hr (fun t ht _ => V.q (r := v0) h ht) V.2.1.2.2 dJ3_checkIndex_8e157_17 X.1.2.2.2.2
    · have h := h.2 c2
      refine lv_aload_nN X.1.1 X.1.2.1 dJ3_checkIndex_8e157_9 rfl (lv_at hl 2 rfl) ?_
      refine lv_iload_n X.1.1 X.1.2.1 dJ3_checkIndex_8e157_10 rfl (lv_at hl 0 rfl) ?_
      refine lv_iload_n X.1.1 X.1.2.1 dJ3_checkIndex_8e157_11 rfl (lv_at hl 1 rfl) ?_
      exact h.elim
abbrev rm_J15_checkIndex_7cf53 : Room := { frames := 1, cells := 0, slots := 0, locals := 22 }
def wp_J15_checkIndex_7cf53 (post : Int32 → HS → Prop) (S : HS) (v0 : Int32) (v1 : Int32) : Prop := wp_J3_checkIndex_8e157 (fun r2 S1 => post r2 S1) S v0 v1
set_option maxHeartbeats 400000 in
set_option maxRecDepth 100000 in
theorem sd_J15_checkIndex_7cf53 (l : Launch) (D : va_G) (ka : Nat → ClassId) (sz : Nat) (Z : HS) (post : Int32 → HS → Prop) (v0 : Int32) (v1 : Int32) (h : wp_J15_checkIndex_7cf53 post Z v0 v1) : Met l yJ15_checkIndex_7cf53 [Cond.code yJ15_checkIndex_7cf53 cJ15_checkIndex_7cf53 2 (some .int)] rm_J15_checkIndex_7cf53 (Px D ka Z sz [.int v0, .int v1]) (Qx eI post D ka Z sz) 0 0 (fA Z sz) := by
  refine Met.ofW (cc := cJ15_checkIndex_7cf53) (maxL := 2) (ret := (some .int)) (by decide) rfl ?_
  intro p e s m args below meth c s₁ B hml hv
  obtain ⟨rfl, X, V, hsz⟩ := Cx.entry B hml hv
  have hr : meth.sig.returnType = (some .int) := B.returns
  have hl := lv_entry ([.int v0, .int v1]) (n := 2) (Nat.le_of_ble_eq_true rfl)
  rw [lg_entry_eq]
  generalize (lg_sl ([.int v0, .int v1]) ++ List.replicate (2 - (lg_sl ([.int v0, .int v1])).length) Slot.unset).toArray = ls at hl ⊢
  have hl : lv_has ls 2 [(0, .int v0), (1, .int v1)] := hl
  have h : wp_J15_checkIndex_7cf53 post Z v0 v1 := h
  refine lv_iload_n X.1.1 X.1.2.1 dJ15_checkIndex_7cf53_0 rfl (lv_at hl 0 rfl) ?_
  refine lv_iload_n X.1.1 X.1.2.1 dJ15_checkIndex_7cf53_1 rfl (lv_at hl 1 rfl) ?_
  refine lv_null X.1.1 X.1.2.1 dJ15_checkIndex_7cf53_2 ?_
  refine r_callS (n := 3) (As := [.int v0, .int v1, .null]) X V (sd_J3_checkIndex_8e157 l D ka _ Z _ v0 v1 h) wd_29 wd_30 wd_31 wd_32 rfl rfl (by decide +kernel) ⟨Nat.le_of_ble_eq_true rfl, Nat.le_of_ble_eq_true rfl⟩ rfl hl.1 rfl (Nat.le_of_ble_eq_true rfl) dJ15_checkIndex_7cf53_3 ⟨show 0 ≤ 0 by omega, show 0 ≤ 0 by omega⟩ (fun r2 S1 H locs h m3 V => ?_)
  exact W.iret X.1.1 X.1.2.1 hr (fun t ht _ => V.q (r := r2) h ht) V.2.1.2.2 dJ15_checkIndex_7cf53_6 X.1.2.2.2.2
abbrev rm_Jx4a65c_elementData_915e3 : Room := { frames := 0, cells := 0, slots := 0, locals := 0 }
def wp_Jx4a65c_elementData_915e3 (post : (Option Nat) → HS → Prop) (S : HS) (a0 : Nat) (v1 : Int32) : Prop := kd S a0 = 1 ∧ (∃ o2 : Nat, fr S 1 a0 = some o2 ∧ (kd S o2 / 32 = 6 ∧ (vp_in v1 (ln S o2) ∧ (∃ o7 : Nat, ar S o2 v1.toNatClampNeg = some o7 ∧ (post (some o7) S)))))
set_option maxHeartbeats 400000 in
set_option maxRecDepth 100000 in
theorem sd_Jx4a65c_elementData_915e3 (l : Launch) (D : va_G) (ka : Nat → ClassId) (sz : Nat) (Z : HS) (post : (Option Nat) → HS → Prop) (a0 : Nat) (v1 : Int32) (h : wp_Jx4a65c_elementData_915e3 post Z a0 v1) : Met l yJx4a65c_elementData_915e3 [Cond.code yJx4a65c_elementData_915e3 cJx4a65c_elementData_915e3 2 (some (.object "java/lang/Object"))] rm_Jx4a65c_elementData_915e3 (Px D ka Z sz [.ref a0, .int v1]) (Qx eR post D ka Z sz) 0 0 (fA Z sz) := by
  refine Met.ofW (cc := cJx4a65c_elementData_915e3) (maxL := 2) (ret := (some (.object "java/lang/Object"))) (by decide) rfl ?_
  intro p e s m args below meth c s₁ B hml hv
  obtain ⟨rfl, X, V, hsz⟩ := Cx.entry B hml hv
  have hr : meth.sig.returnType = (some (.object "java/lang/Object")) := B.returns
  have hl := lv_entry ([.ref a0, .int v1]) (n := 2) (Nat.le_of_ble_eq_true rfl)
  rw [lg_entry_eq]
  generalize (lg_sl ([.ref a0, .int v1]) ++ List.replicate (2 - (lg_sl ([.ref a0, .int v1])).length) Slot.unset).toArray = ls at hl ⊢
  have hl : lv_has ls 2 [(0, .ref a0), (1, .int v1)] := hl
  have h : wp_Jx4a65c_elementData_915e3 post Z a0 v1 := h
  refine lv_aload_n X.1.1 X.1.2.1 dJx4a65c_elementData_915e3_0 rfl (lv_at hl 0 rfl) ?_
  obtain ⟨k1, h⟩ := h
  obtain ⟨o2, e3, h⟩ := h
  refine gf_Jx4a65c_9 X V k1 e3 dJx4a65c_elementData_915e3_1 ?_
  refine lv_iload_n X.1.1 X.1.2.1 dJx4a65c_elementData_915e3_4 rfl (lv_at hl 1 rfl) ?_
  obtain ⟨k6, h⟩ := h
  obtain ⟨i4, h⟩ := h
  refine r_aald X V (Or.inr (Or.inr k6)) i4 dJx4a65c_elementData_915e3_5 ?_
  obtain ⟨o7, e8, h⟩ := h
  rw [e8]
  exact W.aret X.1.1 X.1.2.1 hr (Or.inl ⟨_, rfl⟩) (Or.inr ⟨_, rfl⟩) (fun t ht _ => V.q (r := (some o7)) h ht) V.2.1.2.2 dJx4a65c_elementData_915e3_6 X.1.2.2.2.2
abbrev rm_Jx4a65c_get_915e3 : Room := { frames := 2, cells := 0, slots := 0, locals := 43 }
def wp_Jx4a65c_get_915e3 (post : (Option Nat) → HS → Prop) (S : HS) (a0 : Nat) (v1 : Int32) : Prop := kd S a0 = 1 ∧ (wp_J15_checkIndex_7cf53 (fun r3 S2 => wp_Jx4a65c_elementData_915e3 (fun r6 S5 => ∃ o8 : Nat, r6 = some o8 ∧ (post (some o8) S5)) S2 a0 v1) S v1 (fi S 2 a0))
set_option maxHeartbeats 400000 in
set_option maxRecDepth 100000 in
theorem sd_Jx4a65c_get_915e3 (l : Launch) (D : va_G) (ka : Nat → ClassId) (sz : Nat) (Z : HS) (post : (Option Nat) → HS → Prop) (a0 : Nat) (v1 : Int32) (h : wp_Jx4a65c_get_915e3 post Z a0 v1) : Met l yJx4a65c_get_915e3 [Cond.code yJx4a65c_get_915e3 cJx4a65c_get_915e3 2 (some (.object "java/lang/Object"))] rm_Jx4a65c_get_915e3 (Px D ka Z sz [.ref a0, .int v1]) (Qx eR post D ka Z sz) 0 0 (fA Z sz) := by
  refine Met.ofW (cc := cJx4a65c_get_915e3) (maxL := 2) (ret := (some (.object "java/lang/Object"))) (by decide) rfl ?_
  intro p e s m args below meth c s₁ B hml hv
  obtain ⟨rfl, X, V, hsz⟩ := Cx.entry B hml hv
  have hr : meth.sig.returnType = (some (.object "java/lang/Object")) := B.returns
  have hl := lv_entry ([.ref a0, .int v1]) (n := 2) (Nat.le_of_ble_eq_true rfl)
  rw [lg_entry_eq]
  generalize (lg_sl ([.ref a0, .int v1]) ++ List.replicate (2 - (lg_sl ([.ref a0, .int v1])).length) Slot.unset).toArray = ls at hl ⊢
  have hl : lv_has ls 2 [(0, .ref a0), (1, .int v1)] := hl
  have h : wp_Jx4a65c_get_915e3 post Z a0 v1 := h
  refine lv_iload_n X.1.1 X.1.2.1 dJx4a65c_get_915e3_0 rfl (lv_at hl 1 rfl) ?_
  refine lv_aload_n X.1.1 X.1.2.1 dJx4a65c_get_915e3_1 rfl (lv_at hl 0 rfl) ?_
  obtain ⟨k1, h⟩ := h
  refine gf_Jx4a65c_48 X V k1 dJx4a65c_get_915e3_2 ?_
  refine r_callS (n := 2) (As := [.int v1, .int (fi Z 2 a0)]) X V (sd_J15_checkIndex_7cf53 l D ka _ Z _ v1 (fi Z 2 a0) h) wd_33 wd_34 wd_35 wd_36 rfl rfl (by decide +kernel) ⟨Nat.le_of_ble_eq_true rfl, Nat.le_of_ble_eq_true rfl⟩ rfl hl.1 rfl (Nat.le_of_ble_eq_true rfl) dJx4a65c_get_915e3_5 ⟨show 0 ≤ 0 by omega, show 0 ≤ 0 by omega⟩ (fun r3 S2 H locs h m4 V => ?_)
  have k1 := m4.k k1 (by decide)
  refine lv_pop X.1.1 X.1.2.1 dJx4a65c_get_915e3_8 rfl ?_
  refine lv_aload_n X.1.1 X.1.2.1 dJx4a65c_get_915e3_9 rfl (lv_at hl 0 rfl) ?_
  refine lv_iload_n X.1.1 X.1.2.1 dJx4a65c_get_915e3_10 rfl (lv_at hl 1 rfl) ?_
  refine r_callV (k := 1) (n := 1) (As := [.int v1]) X V (sd_Jx4a65c_elementData_915e3 l D ka _ S2 _ a0 v1 h) k1 (by decide) (by decide) rfl wd_37 wd_38 wd_39 wd_40 wd_41 rfl rfl (by decide +kernel) ⟨Nat.le_of_ble_eq_true rfl, Nat.le_of_ble_eq_true rfl⟩ rfl hl.1 rfl (Nat.le_of_ble_eq_true rfl) dJx4a65c_get_915e3_11 ⟨show 0 ≤ 0 by omega, show 0 ≤ 0 by omega⟩ (fun r6 S5 H locs h m7 V => ?_)
  have k1 := m7.k k1 (by decide)
  obtain ⟨o8, e9, h⟩ := h
  subst e9
  exact W.aret X.1.1 X.1.2.1 hr (Or.inl ⟨_, rfl⟩) (Or.inr ⟨_, rfl⟩) (fun t ht _ => V.q (r := (some o8)) h ht) V.2.1.2.2 dJx4a65c_get_915e3_14 X.1.2.2.2.2
abbrev rm_J8_newLength_cabcc : Room := { frames := 1, cells := 0, slots := 0, locals := 14 }
def wp_J8_newLength_cabcc (post : Int32 → HS → Prop) (S : HS) (v0 : Int32) (v1 : Int32) (v2 : Int32) : Prop := (((v0 + (if v1 < v2 then v2 else v1)) ≤ (0 : Int32) → False) ∧ (¬ (v0 + (if v1 < v2 then v2 else v1)) ≤ (0 : Int32) → (((2147483639 : Int32) < (v0 + (if v1 < v2 then v2 else v1)) → False) ∧ (¬ (2147483639 : Int32) < (v0 + (if v1 < v2 then v2 else v1)) → post (v0 + (if v1 < v2 then v2 else v1)) S))))
set_option maxHeartbeats 400000 in
set_option maxRecDepth 100000 in
theorem sd_J8_newLength_cabcc (l : Launch) (D : va_G) (ka : Nat → ClassId) (sz : Nat) (Z : HS) (post : Int32 → HS → Prop) (v0 : Int32) (v1 : Int32) (v2 : Int32) (h : wp_J8_newLength_cabcc post Z v0 v1 v2) : Met l yJ8_newLength_cabcc [Cond.code yJ8_newLength_cabcc cJ8_newLength_cabcc 4 (some .int)] rm_J8_newLength_cabcc (Px D ka Z sz [.int v0, .int v1, .int v2]) (Qx eI post D ka Z sz) 0 0 (fA Z sz) := by
  refine Met.ofW (cc := cJ8_newLength_cabcc) (maxL := 4) (ret := (some .int)) (by decide) rfl ?_
  intro p e s m args below meth c s₁ B hml hv
  obtain ⟨rfl, X, V, hsz⟩ := Cx.entry B hml hv
  have hr : meth.sig.returnType = (some .int) := B.returns
  have hl := lv_entry ([.int v0, .int v1, .int v2]) (n := 4) (Nat.le_of_ble_eq_true rfl)
  rw [lg_entry_eq]
  generalize (lg_sl ([.int v0, .int v1, .int v2]) ++ List.replicate (4 - (lg_sl ([.int v0, .int v1, .int v2])).length) Slot.unset).toArray = ls at hl ⊢
  have hl : lv_has ls 4 [(0, .int v0), (1, .int v1), (2, .int v2)] := hl
  have h : wp_J8_newLength_cabcc post Z v0 v1 v2 := h
  refine lv_iload_n X.1.1 X.1.2.1 dJ8_newLength_cabcc_0 rfl (lv_at hl 0 rfl) ?_
  refine lv_iload_n X.1.1 X.1.2.1 dJ8_newLength_cabcc_1 rfl (lv_at hl 1 rfl) ?_
  refine lv_iload_n X.1.1 X.1.2.1 dJ8_newLength_cabcc_2 rfl (lv_at hl 2 rfl) ?_
  refine va_mmax X.1.1 X.1.2.1 (X.1.2.2.1.trans hl.1.symm) X.1.2.2.2.1 (X.w wd_42 rfl _) (X.w wd_43 rfl _) (X.w wd_44 rfl _) (X.w wd_45 rfl _) (Nat.le_of_ble_eq_true rfl) (Nat.le_of_ble_eq_true rfl) (show 0 ≤ 0 by omega) (show 0 ≤ 0 by omega) dJ8_newLength_cabcc_3 ?_
  refine lv_iadd X.1.1 X.1.2.1 dJ8_newLength_cabcc_6 ?_
  refine lv_istore_n (lv' := [(3, .int (v0 + (if v1 < v2 then v2 else v1))), (0, .int v0), (1, .int v1), (2, .int v2)]) X.1.1 X.1.2.1 dJ8_newLength_cabcc_7 rfl hl (by decide) rfl (fun ls hl => ?_)
  refine lv_iconst (v := (0 : Int32)) X.1.1 X.1.2.1 dJ8_newLength_cabcc_8 (by decide) ?_
  refine lv_iload_n X.1.1 X.1.2.1 dJ8_newLength_cabcc_9 rfl (lv_at hl 0 rfl) ?_
  refine lv_icmp_ge (tgt := 21) X.1.1 X.1.2.1 dJ8_newLength_cabcc_10 (by decide) (fun c1 => ?_) (fun c1 => ?_)
  · have h := h.1 c1
    refine lv_iload_n X.1.1 X.1.2.1 dJ8_newLength_cabcc_21 rfl (lv_at hl 1 rfl) ?_
    refine lv_iload_n X.1.1 X.1.2.1 dJ8_newLength_cabcc_22 rfl (lv_at hl 2 rfl) ?_
    exact h.elim
  · have h := h.2 c1
    refine lv_iload_n X.1.1 X.1.2.1 dJ8_newLength_cabcc_13 rfl (lv_at hl 0 rfl) ?_
    refine lv_ldc (v := (2147483639 : Int32)) X.1.1 X.1.2.1 X.1.2.2.2.1 (X.w wd_46 rfl _) dJ8_newLength_cabcc_14 ?_
    refine lv_icmp_gt (tgt := 21) X.1.1 X.1.2.1 dJ8_newLength_cabcc_16 (by decide) (fun c2 => ?_) (fun c2 => ?_)
    · have h := h.1 c2
      refine lv_iload_n X.1.1 X.1.2.1 dJ8_newLength_cabcc_21 rfl (lv_at hl 1 rfl) ?_
      refine lv_iload_n X.1.1 X.1.2.1 dJ8_newLength_cabcc_22 rfl (lv_at hl 2 rfl) ?_
      exact h.elim
    · have h := h.2 c2
      refine lv_iload_n X.1.1 X.1.2.1 dJ8_newLength_cabcc_19 rfl (lv_at hl 0 rfl) ?_
      exact W.iret X.1.1 X.1.2.1 hr (fun t ht _ => V.q (r := (v0 + (if v1 < v2 then v2 else v1))) h ht) V.2.1.2.2 dJ8_newLength_cabcc_20 X.1.2.2.2.2
abbrev rm_J7_copyOf_6403c : Room := { frames := 1, cells := 1, slots := 80, locals := 40 }
def wp_J7_copyOf_6403c (post : (Option Nat) → HS → Prop) (S : HS) (a0 : Nat) (v1 : Int32) (a2 : Nat) : Prop := ((¬ some a2 = some a2 → False) ∧ (some a2 = some a2 → (¬ v1 < 0 ∧ v1.toNatClampNeg ≤ 80) ∧ (∀ o2 : Nat, kd S o2 = 0 → ((1 ≤ kd (snw S o2 192 (v1.toNatClampNeg)) a0 / 32 ∧ kd (snw S o2 192 (v1.toNatClampNeg)) a0 ≤ 224) ∧ (kd (snw S o2 192 (v1.toNatClampNeg)) a0 / 32 = 6 ∧ ((¬ (0 : Int32) < 0 ∧ ¬ (0 : Int32) < 0 ∧ ¬ (if v1 < (Int32.ofNat (ln (snw S o2 192 (v1.toNatClampNeg)) a0)) then v1 else (Int32.ofNat (ln (snw S o2 192 (v1.toNatClampNeg)) a0))) < 0 ∧ (0 : Int32).toNatClampNeg + (if v1 < (Int32.ofNat (ln (snw S o2 192 (v1.toNatClampNeg)) a0)) then v1 else (Int32.ofNat (ln (snw S o2 192 (v1.toNatClampNeg)) a0))).toNatClampNeg ≤ ln (snw S o2 192 (v1.toNatClampNeg)) a0 ∧ (0 : Int32).toNatClampNeg + (if v1 < (Int32.ofNat (ln (snw S o2 192 (v1.toNatClampNeg)) a0)) then v1 else (Int32.ofNat (ln (snw S o2 192 (v1.toNatClampNeg)) a0))).toNatClampNeg ≤ ln (snw S o2 192 (v1.toNatClampNeg)) o2 ∧ (∀ i : Nat, i < (if v1 < (Int32.ofNat (ln (snw S o2 192 (v1.toNatClampNeg)) a0)) then v1 else (Int32.ofNat (ln (snw S o2 192 (v1.toNatClampNeg)) a0))).toNatClampNeg → ∀ y : Nat, ar (snw S o2 192 (v1.toNatClampNeg)) a0 ((0 : Int32).toNatClampNeg + i) = some y → 2 ≤ kd (snw S o2 192 (v1.toNatClampNeg)) y ∧ kd (snw S o2 192 (v1.toNatClampNeg)) y ≤ 8)) ∧ (post (some o2) (scp (snw S o2 192 (v1.toNatClampNeg)) o2 (va_cpy (ar (snw S o2 192 (v1.toNatClampNeg)) a0) (ar (snw S o2 192 (v1.toNatClampNeg)) o2) (0 : Int32).toNatClampNeg (0 : Int32).toNatClampNeg (if v1 < (Int32.ofNat (ln (snw S o2 192 (v1.toNatClampNeg)) a0)) then v1 else (Int32.ofNat (ln (snw S o2 192 (v1.toNatClampNeg)) a0))).toNatClampNeg)))))))))
set_option maxHeartbeats 400000 in
set_option maxRecDepth 100000 in
theorem sd_J7_copyOf_6403c (l : Launch) (D : va_G) (ka : Nat → ClassId) (sz : Nat) (Z : HS) (post : (Option Nat) → HS → Prop) (a0 : Nat) (v1 : Int32) (a2 : Nat) (h : wp_J7_copyOf_6403c post Z a0 v1 a2) : Met l yJ7_copyOf_6403c [Cond.code yJ7_copyOf_6403c cJ7_copyOf_6403c 4 (some (.array (.object "java/lang/Object")))] rm_J7_copyOf_6403c (Pm D ka Z sz [.ref a0, .int v1, .ref a2] a2) (Qx eR post D ka Z sz) 1 80 (fA Z sz) := by
  refine Met.ofW (cc := cJ7_copyOf_6403c) (maxL := 4) (ret := (some (.array (.object "java/lang/Object")))) (by decide) rfl ?_
  intro p e s m args below meth c s₁ B hml hv
  obtain ⟨hv, hM⟩ := hv
  obtain ⟨rfl, X, V, hsz⟩ := Cx.entry B hml hv
  have hr : meth.sig.returnType = (some (.array (.object "java/lang/Object"))) := B.returns
  have hl := lv_entry ([.ref a0, .int v1, .ref a2]) (n := 4) (Nat.le_of_ble_eq_true rfl)
  rw [lg_entry_eq]
  generalize (lg_sl ([.ref a0, .int v1, .ref a2]) ++ List.replicate (4 - (lg_sl ([.ref a0, .int v1, .ref a2])).length) Slot.unset).toArray = ls at hl ⊢
  have hl : lv_has ls 4 [(0, .ref a0), (1, .int v1), (2, .ref a2)] := hl
  have h : wp_J7_copyOf_6403c post Z a0 v1 a2 := h
  refine lv_aload_n X.1.1 X.1.2.1 dJ7_copyOf_6403c_0 rfl (lv_at hl 2 rfl) ?_
  refine va_ldcM X.1.1 X.1.2.1 X.1.2.2.2.1 (X.w wd_47 rfl _) hM dJ7_copyOf_6403c_1 ?_
  refine lv_acmp_ne (rx := some a2) (ry := some a2) (tgt := 13) X.1.1 X.1.2.1 dJ7_copyOf_6403c_3 (by decide) (fun c1 => ?_) (fun c1 => ?_)
  · have h := h.1 c1
    refine lv_aload_n X.1.1 X.1.2.1 dJ7_copyOf_6403c_13 rfl (lv_at hl 2 rfl) ?_
    exact h.elim
  · have h := h.2 c1
    refine lv_iload_n X.1.1 X.1.2.1 dJ7_copyOf_6403c_6 rfl (lv_at hl 1 rfl) ?_
    obtain ⟨⟨n4, n5⟩, h⟩ := h
    refine r_newq (t := 5) (k := 192) (C := "java/lang/Object") (N' := v1.toNatClampNeg) X V wd_48 wd_49 rfl (by decide) (by decide) (fun q => na_192) n4 rfl (by have := n5; omega) (show 1 ≤ 1 by omega) (show 0 + v1.toNatClampNeg ≤ 80 by omega) dJ7_copyOf_6403c_7 (fun o2 H z3 V => ?_)
    have h := h o2 z3
    refine W.widen (k := 1) (n := 80) (by omega) (by omega) ?_
    have k6 : kd (snw Z o2 192 (v1.toNatClampNeg)) o2 / 32 = 6 := by show va_up (kd _) _ _ _ / 32 = _; rw [va_up_self]
    refine lv_goto (tgt := 24) X.1.1 X.1.2.1 dJ7_copyOf_6403c_10 (by decide) ?_
    refine lv_astore_n (lv' := [(3, .ref o2), (0, .ref a0), (1, .int v1), (2, .ref a2)]) X.1.1 X.1.2.1 dJ7_copyOf_6403c_24 rfl hl (by decide) rfl (fun ls hl => ?_)
    refine lv_aload_n X.1.1 X.1.2.1 dJ7_copyOf_6403c_25 rfl (lv_at hl 1 rfl) ?_
    refine lv_iconst (v := (0 : Int32)) X.1.1 X.1.2.1 dJ7_copyOf_6403c_26 (by decide) ?_
    refine lv_aload_n X.1.1 X.1.2.1 dJ7_copyOf_6403c_27 rfl (lv_at hl 0 rfl) ?_
    refine lv_iconst (v := (0 : Int32)) X.1.1 X.1.2.1 dJ7_copyOf_6403c_28 (by decide) ?_
    refine lv_aload_n X.1.1 X.1.2.1 dJ7_copyOf_6403c_29 rfl (lv_at hl 1 rfl) ?_
    obtain ⟨k7, h⟩ := h
    refine r_alen X V k7 dJ7_copyOf_6403c_30 ?_
    refine lv_iload_n X.1.1 X.1.2.1 dJ7_copyOf_6403c_31 rfl (lv_at hl 2 rfl) ?_
    refine va_mmin X.1.1 X.1.2.1 (X.1.2.2.1.trans hl.1.symm) X.1.2.2.2.1 (X.w wd_50 rfl _) (X.w wd_51 rfl _) (X.w wd_44 rfl _) (X.w wd_52 rfl _) (Nat.le_of_ble_eq_true rfl) (Nat.le_of_ble_eq_true rfl) (show 1 ≤ 1 by omega) (show 80 ≤ 80 by omega) dJ7_copyOf_6403c_32 ?_
    obtain ⟨k8, h⟩ := h
    obtain ⟨u9, h⟩ := h
    refine r_copy X V (X.1.2.2.1.trans hl.1.symm) k8 k6 u9 wd_53 wd_54 wd_55 wd_56 (Nat.le_of_ble_eq_true rfl) (Nat.le_of_ble_eq_true rfl) dJ7_copyOf_6403c_35 (fun H locs V => ?_)
    refine lv_aload_n X.1.1 X.1.2.1 dJ7_copyOf_6403c_38 rfl (lv_at hl 0 rfl) ?_
    refine W.widen (k := 1) (n := 80) (by omega) (by omega) ?_
    exact W.aret X.1.1 X.1.2.1 hr (Or.inr ⟨_, rfl⟩) (Or.inr ⟨_, rfl⟩) (fun t ht _ => V.q (r := (some o2)) h ht) V.2.1.2.2 dJ7_copyOf_6403c_39 X.1.2.2.2.2
abbrev rm_J7_copyOf_1904c : Room := { frames := 2, cells := 1, slots := 80, locals := 63 }
def wp_J7_copyOf_1904c (post : (Option Nat) → HS → Prop) (S : HS) (a0 : Nat) (v1 : Int32) : Prop := kd S a0 / 32 = 6 ∧ (∀ mi : Nat, wp_J7_copyOf_6403c post S a0 v1 mi)
set_option maxHeartbeats 400000 in
set_option maxRecDepth 100000 in
theorem sd_J7_copyOf_1904c (l : Launch) (D : va_G) (ka : Nat → ClassId) (sz : Nat) (Z : HS) (post : (Option Nat) → HS → Prop) (a0 : Nat) (v1 : Int32) (h : wp_J7_copyOf_1904c post Z a0 v1) : Met l yJ7_copyOf_1904c [Cond.code yJ7_copyOf_1904c cJ7_copyOf_1904c 2 (some (.array (.object "java/lang/Object")))] rm_J7_copyOf_1904c (Px D ka Z sz [.ref a0, .int v1]) (Qx eR post D ka Z sz) 1 80 (fA Z sz) := by
  refine Met.ofW (cc := cJ7_copyOf_1904c) (maxL := 2) (ret := (some (.array (.object "java/lang/Object")))) (by decide) rfl ?_
  intro p e s m args below meth c s₁ B hml hv
  obtain ⟨rfl, X, V, hsz⟩ := Cx.entry B hml hv
  have hr : meth.sig.returnType = (some (.array (.object "java/lang/Object"))) := B.returns
  have hl := lv_entry ([.ref a0, .int v1]) (n := 2) (Nat.le_of_ble_eq_true rfl)
  rw [lg_entry_eq]
  generalize (lg_sl ([.ref a0, .int v1]) ++ List.replicate (2 - (lg_sl ([.ref a0, .int v1])).length) Slot.unset).toArray = ls at hl ⊢
  have hl : lv_has ls 2 [(0, .ref a0), (1, .int v1)] := hl
  obtain ⟨k0, h⟩ := h
  obtain ⟨mi, hM⟩ := X.2.1.2.2
  refine lv_aload_n X.1.1 X.1.2.1 dJ7_copyOf_1904c_0 rfl (lv_at hl 0 rfl) ?_
  refine lv_iload_n X.1.1 X.1.2.1 dJ7_copyOf_1904c_1 rfl (lv_at hl 1 rfl) ?_
  refine lv_aload_n X.1.1 X.1.2.1 dJ7_copyOf_1904c_2 rfl (lv_at hl 0 rfl) ?_
  have hrc : ∃ cell : Cell, s.heap[a0]? = some cell ∧ cell.vm.isStatics = false ∧ s.vm.findClass "[Ljava/lang/Object;" = some cell.cls := by
    obtain ⟨ws, q0, hP, hq⟩ := V.at (a := a0) (k_of k0 (by decide) (by decide))
    rw [wF_aO k0] at hq
    have h1 := hP q0 _ hq
    obtain ⟨_, _, _, _, _, e1⟩ := (X.2.1.2.1.2 5 _ rfl).2
    exact ⟨_, h1, rfl, e1⟩
  refine va_getC (mi := mi) X.1.1 X.1.2.1 (X.1.2.2.1.trans hl.1.symm) X.1.2.2.2.1 (X.w wd_57 rfl _) (X.w wd_58 rfl _) (X.w wd_59 rfl _) (X.w wd_60 rfl _) (X.w wd_61 rfl _) hM hrc (Nat.le_of_ble_eq_true rfl) (Nat.le_of_ble_eq_true rfl) dJ7_copyOf_1904c_3 ?_
  refine r_call X V (va_runS (Ts := []) (g := F0 m 6 ls [.ref mi, .int v1, .ref a0]) (n := 3) (As := [.ref a0, .int v1, .ref mi]) (rest := []) ⟨X.1.1, X.1.2.1, X.1.2.2.1, X.1.2.2.2.1, fun _ h => absurd h List.not_mem_nil⟩ (sd_J7_copyOf_6403c l D ka _ Z _ a0 v1 mi (h mi)) ⟨cb_of X wd_62 wd_63 wd_64 rfl rfl (by decide +kernel) ⟨Nat.le_of_ble_eq_true rfl, Nat.le_of_ble_eq_true rfl⟩, X.w wd_65 rfl _⟩ ⟨Pm.blind, fun U hU hW => ⟨V.px X hU hW, hM.moved hW.alike⟩⟩ rfl rfl hl.1 rfl (lv_room (Nat.le_of_ble_eq_true rfl)) dJ7_copyOf_1904c_6 ⟨show 1 ≤ 1 by omega, show 80 ≤ 80 by omega⟩) (fun r9 S9 H locs h hm V => ?_)
  refine W.widen (k := 1) (n := 80) (by omega) (by omega) ?_
  exact W.aret X.1.1 X.1.2.1 hr (Or.inr ⟨_, rfl⟩) (va_rf_or r9) (fun t ht _ => V.q (r := r9) h ht) V.2.1.2.2 dJ7_copyOf_1904c_9 X.1.2.2.2.2
abbrev rm_Jx4a65c_grow_92f84 : Room := { frames := 3, cells := 1, slots := 80, locals := 84 }
def wp_Jx4a65c_grow_92f84_20a (post : (Option Nat) → HS → Prop) (S : HS) (b0 : Nat) (x1 : Int32) (x2 : Int32) : Prop := wp_J8_newLength_cabcc (fun r7 S6 => kd S6 b0 = 1 ∧ (∃ o10 : Nat, fr S6 1 b0 = some o10 ∧ (wp_J7_copyOf_1904c (fun r13 S12 => ∃ o15 : Nat, r13 = some o15 ∧ (post (some o15) (sfr S12 1 b0 (some o15)))) S6 o10 r7))) S x2 (x1 - x2) (x2 >>> ((1 : Int32) &&& 31))
set_option maxHeartbeats 400000 in
set_option maxRecDepth 100000 in
theorem sl_Jx4a65c_grow_92f84_20a (l : Launch) (D : va_G) (ka : Nat → ClassId) (sz : Nat) (Z : HS) (post : (Option Nat) → HS → Prop) {p : Program} {e : Env} {s : State} {m : MethodId} {args : Array Value} {below : List Frame} {meth : Method} {c : Code} (X : Cx p s m meth c cJx4a65c_grow_92f84 4 RJx4a65c D ka Z (fA Z sz)) (hr : meth.sig.returnType = (some (.array (.object "java/lang/Object"))))  : ∀ (S : HS) (b0 : Nat) (x1 : Int32) (x2 : Int32), wp_Jx4a65c_grow_92f84_20a post S b0 x1 x2 → ∀ (H : Heap) (locs : List Loc) (ls : Array Slot), Hv D ka Z s (fA Z sz) S H locs → lv_has ls 4 [(0, .ref b0), (1, .int x1), (2, .int x2)] → W p l e rm_Jx4a65c_grow_92f84 s m args below meth c H locs 0 0 (MQ below (Qx eR post D ka Z sz) args s 1 80 (fA Z sz)) (F0 m 20 ls []) := by
  intro S b0 x1 x2 h H locs ls V hl
  refine lv_iload_n X.1.1 X.1.2.1 dJx4a65c_grow_92f84_20 rfl (lv_at hl 2 rfl) ?_
  refine lv_iload_n X.1.1 X.1.2.1 dJx4a65c_grow_92f84_21 rfl (lv_at hl 1 rfl) ?_
  refine lv_iload_n X.1.1 X.1.2.1 dJx4a65c_grow_92f84_22 rfl (lv_at hl 2 rfl) ?_
  refine lv_isub X.1.1 X.1.2.1 dJx4a65c_grow_92f84_23 ?_
  refine lv_iload_n X.1.1 X.1.2.1 dJx4a65c_grow_92f84_24 rfl (lv_at hl 2 rfl) ?_
  refine lv_iconst (v := (1 : Int32)) X.1.1 X.1.2.1 dJx4a65c_grow_92f84_25 (by decide) ?_
  refine lv_ishr X.1.1 X.1.2.1 dJx4a65c_grow_92f84_26 ?_
  refine r_callS (n := 3) (As := [.int x2, .int (x1 - x2), .int (x2 >>> ((1 : Int32) &&& 31))]) X V (sd_J8_newLength_cabcc l D ka _ S _ x2 (x1 - x2) (x2 >>> ((1 : Int32) &&& 31)) h) wd_66 wd_67 wd_68 wd_69 rfl rfl (by decide +kernel) ⟨Nat.le_of_ble_eq_true rfl, Nat.le_of_ble_eq_true rfl⟩ rfl hl.1 rfl (Nat.le_of_ble_eq_true rfl) dJx4a65c_grow_92f84_27 ⟨show 0 ≤ 1 by omega, show 0 ≤ 80 by omega⟩ (fun r7 S6 H locs h m8 V => ?_)
  refine lv_istore_n (lv' := [(3, .int r7), (0, .ref b0), (1, .int x1), (2, .int x2)]) X.1.1 X.1.2.1 dJx4a65c_grow_92f84_30 rfl hl (by decide) rfl (fun ls hl => ?_)
  refine lv_aload_n X.1.1 X.1.2.1 dJx4a65c_grow_92f84_31 rfl (lv_at hl 1 rfl) ?_
  refine lv_aload_n X.1.1 X.1.2.1 dJx4a65c_grow_92f84_32 rfl (lv_at hl 1 rfl) ?_
  obtain ⟨k9, h⟩ := h
  obtain ⟨o10, e11, h⟩ := h
  refine gf_Jx4a65c_9 X V k9 e11 dJx4a65c_grow_92f84_33 ?_
  refine lv_iload_n X.1.1 X.1.2.1 dJx4a65c_grow_92f84_36 rfl (lv_at hl 0 rfl) ?_
  refine r_callS (n := 2) (As := [.ref o10, .int r7]) X V (sd_J7_copyOf_1904c l D ka _ S6 _ o10 r7 h) wd_70 wd_71 wd_64 wd_72 rfl rfl (by decide +kernel) ⟨Nat.le_of_ble_eq_true rfl, Nat.le_of_ble_eq_true rfl⟩ rfl hl.1 rfl (Nat.le_of_ble_eq_true rfl) dJx4a65c_grow_92f84_37 ⟨show 1 ≤ 1 by omega, show 80 ≤ 80 by omega⟩ (fun r13 S12 H locs h m14 V => ?_)
  have k9 := m14.k k9 (by decide)
  refine W.widen (k := 1) (n := 80) (by omega) (by omega) ?_
  obtain ⟨o15, e16, h⟩ := h
  subst e16
  refine lv_dup_x1 X.1.1 X.1.2.1 dJx4a65c_grow_92f84_40 rfl rfl ?_
  refine pf_Jx4a65c_9 X V k9 dJx4a65c_grow_92f84_41 (fun H locs V => ?_)
  refine W.widen (k := 1) (n := 80) (by omega) (by omega) ?_
  exact W.aret X.1.1 X.1.2.1 hr (Or.inr ⟨_, rfl⟩) (Or.inr ⟨_, rfl⟩) (fun t ht _ => V.q (r := (some o15)) h ht) V.2.1.2.2 dJx4a65c_grow_92f84_44 X.1.2.2.2.2
def wp_Jx4a65c_grow_92f84 (post : (Option Nat) → HS → Prop) (S : HS) (a0 : Nat) (v1 : Int32) : Prop := kd S a0 = 1 ∧ (∃ o2 : Nat, fr S 1 a0 = some o2 ∧ ((1 ≤ kd S o2 / 32 ∧ kd S o2 ≤ 224) ∧ (((0 < (Int32.ofNat (ln S o2)) → wp_Jx4a65c_grow_92f84_20a post S a0 v1 (Int32.ofNat (ln S o2))) ∧ (¬ 0 < (Int32.ofNat (ln S o2)) → ∃ o17 : Nat, fr S 1 a0 = some o17 ∧ (((some o17 = some (es S) → (¬ (if (10 : Int32) < v1 then v1 else (10 : Int32)) < 0 ∧ (if (10 : Int32) < v1 then v1 else (10 : Int32)).toNatClampNeg ≤ 80) ∧ (∀ o20 : Nat, kd S o20 = 0 → (post (some o20) (sfr (snw S o20 192 ((if (10 : Int32) < v1 then v1 else (10 : Int32)).toNatClampNeg)) 1 a0 (some o20))))) ∧ (¬ some o17 = some (es S) → wp_Jx4a65c_grow_92f84_20a post S a0 v1 (Int32.ofNat (ln S o2))))))))))
set_option maxHeartbeats 400000 in
set_option maxRecDepth 100000 in
theorem sd_Jx4a65c_grow_92f84 (l : Launch) (D : va_G) (ka : Nat → ClassId) (sz : Nat) (Z : HS) (post : (Option Nat) → HS → Prop) (a0 : Nat) (v1 : Int32) (h : wp_Jx4a65c_grow_92f84 post Z a0 v1) : Met l yJx4a65c_grow_92f84 [Cond.code yJx4a65c_grow_92f84 cJx4a65c_grow_92f84 4 (some (.array (.object "java/lang/Object")))] rm_Jx4a65c_grow_92f84 (Px D ka Z sz [.ref a0, .int v1]) (Qx eR post D ka Z sz) 1 80 (fA Z sz) := by
  refine Met.ofW (cc := cJx4a65c_grow_92f84) (maxL := 4) (ret := (some (.array (.object "java/lang/Object")))) (by decide) rfl ?_
  intro p e s m args below meth c s₁ B hml hv
  obtain ⟨rfl, X, V, hsz⟩ := Cx.entry B hml hv
  have hr : meth.sig.returnType = (some (.array (.object "java/lang/Object"))) := B.returns
  have hl := lv_entry ([.ref a0, .int v1]) (n := 4) (Nat.le_of_ble_eq_true rfl)
  rw [lg_entry_eq]
  generalize (lg_sl ([.ref a0, .int v1]) ++ List.replicate (4 - (lg_sl ([.ref a0, .int v1])).length) Slot.unset).toArray = ls at hl ⊢
  have hl : lv_has ls 4 [(0, .ref a0), (1, .int v1)] := hl
  have h : wp_Jx4a65c_grow_92f84 post Z a0 v1 := h
  refine lv_aload_n X.1.1 X.1.2.1 dJx4a65c_grow_92f84_0 rfl (lv_at hl 0 rfl) ?_
  obtain ⟨k1, h⟩ := h
  obtain ⟨o2, e3, h⟩ := h
  refine gf_Jx4a65c_9 X V k1 e3 dJx4a65c_grow_92f84_1 ?_
  obtain ⟨k4, h⟩ := h
  refine r_alen X V k4 dJx4a65c_grow_92f84_4 ?_
  refine lv_istore_n (lv' := [(2, .int (Int32.ofNat (ln Z o2))), (0, .ref a0), (1, .int v1)]) X.1.1 X.1.2.1 dJx4a65c_grow_92f84_5 rfl hl (by decide) rfl (fun ls hl => ?_)
  refine lv_iload_n X.1.1 X.1.2.1 dJx4a65c_grow_92f84_6 rfl (lv_at hl 0 rfl) ?_
  refine lv_if_gt (tgt := 20) X.1.1 X.1.2.1 dJx4a65c_grow_92f84_7 (by decide) (fun c5 => ?_) (fun c5 => ?_)
  · have h := h.1 c5
    exact sl_Jx4a65c_grow_92f84_20a l D ka sz Z post X hr Z a0 v1 (Int32.ofNat (ln Z o2)) h _ _ _ V (lv_sub hl [1, 2, 0] rfl)
  · have h := h.2 c5
    refine lv_aload_n X.1.1 X.1.2.1 dJx4a65c_grow_92f84_10 rfl (lv_at hl 1 rfl) ?_
    obtain ⟨o17, e18, h⟩ := h
    refine gf_Jx4a65c_9 X V k1 e18 dJx4a65c_grow_92f84_11 ?_
    refine r_gets X V wd_26 dJx4a65c_grow_92f84_14 ?_
    refine lv_acmp_eq (rx := some o17) (ry := some (es Z)) (tgt := 45) X.1.1 X.1.2.1 dJx4a65c_grow_92f84_17 (by decide) (fun c19 => ?_) (fun c19 => ?_)
    · have h := h.1 c19
      refine lv_aload_n X.1.1 X.1.2.1 dJx4a65c_grow_92f84_45 rfl (lv_at hl 1 rfl) ?_
      refine lv_bipush (v := (10 : Int32)) X.1.1 X.1.2.1 dJx4a65c_grow_92f84_46 (by decide) ?_
      refine lv_iload_n X.1.1 X.1.2.1 dJx4a65c_grow_92f84_48 rfl (lv_at hl 2 rfl) ?_
      refine va_mmax X.1.1 X.1.2.1 (X.1.2.2.1.trans hl.1.symm) X.1.2.2.2.1 (X.w wd_73 rfl _) (X.w wd_43 rfl _) (X.w wd_44 rfl _) (X.w wd_45 rfl _) (Nat.le_of_ble_eq_true rfl) (Nat.le_of_ble_eq_true rfl) (show 0 ≤ 1 by omega) (show 0 ≤ 80 by omega) dJx4a65c_grow_92f84_49 ?_
      obtain ⟨⟨n22, n23⟩, h⟩ := h
      refine r_newq (t := 5) (k := 192) (C := "java/lang/Object") (N' := (if (10 : Int32) < v1 then v1 else (10 : Int32)).toNatClampNeg) X V wd_74 wd_49 rfl (by decide) (by decide) (fun q => na_192) n22 rfl (by have := n23; omega) (show 1 ≤ 1 by omega) (show 0 + (if (10 : Int32) < v1 then v1 else (10 : Int32)).toNatClampNeg ≤ 80 by omega) dJx4a65c_grow_92f84_52 (fun o20 H z21 V => ?_)
      have h := h o20 z21
      have k1 := (mono.snw (k := 192) (n := (if (10 : Int32) < v1 then v1 else (10 : Int32)).toNatClampNeg) z21).k k1 (by decide)
      refine W.widen (k := 1) (n := 80) (by omega) (by omega) ?_
      have k24 : kd (snw Z o20 192 ((if (10 : Int32) < v1 then v1 else (10 : Int32)).toNatClampNeg)) o20 / 32 = 6 := by show va_up (kd _) _ _ _ / 32 = _; rw [va_up_self]
      refine lv_dup_x1 X.1.1 X.1.2.1 dJx4a65c_grow_92f84_55 rfl rfl ?_
      refine pf_Jx4a65c_9 X V k1 dJx4a65c_grow_92f84_56 (fun H locs V => ?_)
      refine W.widen (k := 1) (n := 80) (by omega) (by omega) ?_
      exact W.aret X.1.1 X.1.2.1 hr (Or.inr ⟨_, rfl⟩) (Or.inr ⟨_, rfl⟩) (fun t ht _ => V.q (r := (some o20)) h ht) V.2.1.2.2 dJx4a65c_grow_92f84_59 X.1.2.2.2.2
    · have h := h.2 c19
      exact sl_Jx4a65c_grow_92f84_20a l D ka sz Z post X hr Z a0 v1 (Int32.ofNat (ln Z o2)) h _ _ _ V (lv_sub hl [1, 2, 0] rfl)
abbrev rm_Jx4a65c_grow_d5877 : Room := { frames := 4, cells := 1, slots := 80, locals := 107 }
def wp_Jx4a65c_grow_d5877 (post : (Option Nat) → HS → Prop) (S : HS) (a0 : Nat) : Prop := kd S a0 = 1 ∧ (wp_Jx4a65c_grow_92f84 (fun r3 S2 => ∃ o5 : Nat, r3 = some o5 ∧ (post (some o5) S2)) S a0 ((fi S 2 a0) + (1 : Int32)))
set_option maxHeartbeats 400000 in
set_option maxRecDepth 100000 in
theorem sd_Jx4a65c_grow_d5877 (l : Launch) (D : va_G) (ka : Nat → ClassId) (sz : Nat) (Z : HS) (post : (Option Nat) → HS → Prop) (a0 : Nat) (h : wp_Jx4a65c_grow_d5877 post Z a0) : Met l yJx4a65c_grow_d5877 [Cond.code yJx4a65c_grow_d5877 cJx4a65c_grow_d5877 1 (some (.array (.object "java/lang/Object")))] rm_Jx4a65c_grow_d5877 (Px D ka Z sz [.ref a0]) (Qx eR post D ka Z sz) 1 80 (fA Z sz) := by
  refine Met.ofW (cc := cJx4a65c_grow_d5877) (maxL := 1) (ret := (some (.array (.object "java/lang/Object")))) (by decide) rfl ?_
  intro p e s m args below meth c s₁ B hml hv
  obtain ⟨rfl, X, V, hsz⟩ := Cx.entry B hml hv
  have hr : meth.sig.returnType = (some (.array (.object "java/lang/Object"))) := B.returns
  have hl := lv_entry ([.ref a0]) (n := 1) (Nat.le_of_ble_eq_true rfl)
  rw [lg_entry_eq]
  generalize (lg_sl ([.ref a0]) ++ List.replicate (1 - (lg_sl ([.ref a0])).length) Slot.unset).toArray = ls at hl ⊢
  have hl : lv_has ls 1 [(0, .ref a0)] := hl
  have h : wp_Jx4a65c_grow_d5877 post Z a0 := h
  refine lv_aload_n X.1.1 X.1.2.1 dJx4a65c_grow_d5877_0 rfl (lv_at hl 0 rfl) ?_
  refine lv_aload_n X.1.1 X.1.2.1 dJx4a65c_grow_d5877_1 rfl (lv_at hl 0 rfl) ?_
  obtain ⟨k1, h⟩ := h
  refine gf_Jx4a65c_48 X V k1 dJx4a65c_grow_d5877_2 ?_
  refine lv_iconst (v := (1 : Int32)) X.1.1 X.1.2.1 dJx4a65c_grow_d5877_5 (by decide) ?_
  refine lv_iadd X.1.1 X.1.2.1 dJx4a65c_grow_d5877_6 ?_
  refine r_callV (k := 1) (n := 1) (As := [.int ((fi Z 2 a0) + (1 : Int32))]) X V (sd_Jx4a65c_grow_92f84 l D ka _ Z _ a0 ((fi Z 2 a0) + (1 : Int32)) h) k1 (by decide) (by decide) rfl wd_75 wd_76 wd_39 wd_77 wd_78 rfl rfl (by decide +kernel) ⟨Nat.le_of_ble_eq_true rfl, Nat.le_of_ble_eq_true rfl⟩ rfl hl.1 rfl (Nat.le_of_ble_eq_true rfl) dJx4a65c_grow_d5877_7 ⟨show 1 ≤ 1 by omega, show 80 ≤ 80 by omega⟩ (fun r3 S2 H locs h m4 V => ?_)
  have k1 := m4.k k1 (by decide)
  refine W.widen (k := 1) (n := 80) (by omega) (by omega) ?_
  obtain ⟨o5, e6, h⟩ := h
  subst e6
  refine W.widen (k := 1) (n := 80) (by omega) (by omega) ?_
  exact W.aret X.1.1 X.1.2.1 hr (Or.inr ⟨_, rfl⟩) (Or.inr ⟨_, rfl⟩) (fun t ht _ => V.q (r := (some o5)) h ht) V.2.1.2.2 dJx4a65c_grow_d5877_10 X.1.2.2.2.2
abbrev rm_Jx4a65c_add_72be8 : Room := { frames := 5, cells := 1, slots := 80, locals := 127 }
def wp_Jx4a65c_add_72be8 (post : Unit → HS → Prop) (S : HS) (a0 : Nat) (a1 : Nat) (a2 : Nat) (v3 : Int32) : Prop := (1 ≤ kd S a2 / 32 ∧ kd S a2 ≤ 224) ∧ (((¬ v3 = (Int32.ofNat (ln S a2)) → kd S a2 / 32 = 6 ∧ ((2 ≤ kd S a1 ∧ kd S a1 ≤ 8) ∧ (vp_in v3 (ln S a2) ∧ (kd (sar S a2 v3.toNatClampNeg (some a1)) a0 = 1 ∧ (post () (sfi (sar S a2 v3.toNatClampNeg (some a1)) 2 a0 (v3 + (1 : Int32)))))))) ∧ (v3 = (Int32.ofNat (ln S a2)) → kd S a0 = 1 ∧ (wp_Jx4a65c_grow_d5877 (fun r9 S8 => ∃ o11 : Nat, r9 = some o11 ∧ (kd S8 o11 / 32 = 6 ∧ ((2 ≤ kd S8 a1 ∧ kd S8 a1 ≤ 8) ∧ (vp_in v3 (ln S8 o11) ∧ (post () (sfi (sar S8 o11 v3.toNatClampNeg (some a1)) 2 a0 (v3 + (1 : Int32)))))))) S a0))))
set_option maxHeartbeats 400000 in
set_option maxRecDepth 100000 in
theorem sd_Jx4a65c_add_72be8 (l : Launch) (D : va_G) (ka : Nat → ClassId) (sz : Nat) (Z : HS) (post : Unit → HS → Prop) (a0 : Nat) (a1 : Nat) (a2 : Nat) (v3 : Int32) (h : wp_Jx4a65c_add_72be8 post Z a0 a1 a2 v3) : Met l yJx4a65c_add_72be8 [Cond.code yJx4a65c_add_72be8 cJx4a65c_add_72be8 4 none] rm_Jx4a65c_add_72be8 (Px D ka Z sz [.ref a0, .ref a1, .ref a2, .int v3]) (Qx eV post D ka Z sz) 1 80 (fA Z sz) := by
  refine Met.ofW (cc := cJx4a65c_add_72be8) (maxL := 4) (ret := none) (by decide) rfl ?_
  intro p e s m args below meth c s₁ B hml hv
  obtain ⟨rfl, X, V, hsz⟩ := Cx.entry B hml hv
  have hr : meth.sig.returnType = none := B.returns
  have hl := lv_entry ([.ref a0, .ref a1, .ref a2, .int v3]) (n := 4) (Nat.le_of_ble_eq_true rfl)
  rw [lg_entry_eq]
  generalize (lg_sl ([.ref a0, .ref a1, .ref a2, .int v3]) ++ List.replicate (4 - (lg_sl ([.ref a0, .ref a1, .ref a2, .int v3])).length) Slot.unset).toArray = ls at hl ⊢
  have hl : lv_has ls 4 [(0, .ref a0), (1, .ref a1), (2, .ref a2), (3, .int v3)] := hl
  have h : wp_Jx4a65c_add_72be8 post Z a0 a1 a2 v3 := h
  refine lv_iload_n X.1.1 X.1.2.1 dJx4a65c_add_72be8_0 rfl (lv_at hl 3 rfl) ?_
  refine lv_aload_n X.1.1 X.1.2.1 dJx4a65c_add_72be8_1 rfl (lv_at hl 2 rfl) ?_
  obtain ⟨k1, h⟩ := h
  refine r_alen X V k1 dJx4a65c_add_72be8_2 ?_
  refine lv_icmp_ne (tgt := 11) X.1.1 X.1.2.1 dJx4a65c_add_72be8_3 (by decide) (fun c2 => ?_) (fun c2 => ?_)
  · have h := h.1 c2
    refine lv_aload_n X.1.1 X.1.2.1 dJx4a65c_add_72be8_11 rfl (lv_at hl 2 rfl) ?_
    refine lv_iload_n X.1.1 X.1.2.1 dJx4a65c_add_72be8_12 rfl (lv_at hl 3 rfl) ?_
    refine lv_aload_n X.1.1 X.1.2.1 dJx4a65c_add_72be8_13 rfl (lv_at hl 1 rfl) ?_
    obtain ⟨k3, h⟩ := h
    obtain ⟨k5, h⟩ := h
    obtain ⟨i4, h⟩ := h
    refine r_aast X V (Or.inl ⟨k3, k5⟩) i4 dJx4a65c_add_72be8_14 (fun H locs V => ?_)
    refine lv_aload_n X.1.1 X.1.2.1 dJx4a65c_add_72be8_15 rfl (lv_at hl 0 rfl) ?_
    refine lv_iload_n X.1.1 X.1.2.1 dJx4a65c_add_72be8_16 rfl (lv_at hl 3 rfl) ?_
    refine lv_iconst (v := (1 : Int32)) X.1.1 X.1.2.1 dJx4a65c_add_72be8_17 (by decide) ?_
    refine lv_iadd X.1.1 X.1.2.1 dJx4a65c_add_72be8_18 ?_
    obtain ⟨k6, h⟩ := h
    refine pf_Jx4a65c_48 X V k6 dJx4a65c_add_72be8_19 (fun H locs V => ?_)
    refine W.widen (k := 1) (n := 80) (by omega) (by omega) ?_
    exact W.vret X.1.1 X.1.2.1 hr (fun t ht _ => V.q (r := ()) h ht) V.2.1.2.2 dJx4a65c_add_72be8_22 X.1.2.2.2.2
  · have h := h.2 c2
    refine lv_aload_n X.1.1 X.1.2.1 dJx4a65c_add_72be8_6 rfl (lv_at hl 0 rfl) ?_
    obtain ⟨k7, h⟩ := h
    refine r_callV (k := 1) (n := 0) (As := []) X V (sd_Jx4a65c_grow_d5877 l D ka _ Z _ a0 h) k7 (by decide) (by decide) rfl wd_79 wd_80 wd_39 wd_81 wd_82 rfl rfl (by decide +kernel) ⟨Nat.le_of_ble_eq_true rfl, Nat.le_of_ble_eq_true rfl⟩ rfl hl.1 rfl (Nat.le_of_ble_eq_true rfl) dJx4a65c_add_72be8_7 ⟨show 1 ≤ 1 by omega, show 80 ≤ 80 by omega⟩ (fun r9 S8 H locs h m10 V => ?_)
    have k7 := m10.k k7 (by decide)
    refine W.widen (k := 1) (n := 80) (by omega) (by omega) ?_
    obtain ⟨o11, e12, h⟩ := h
    subst e12
    refine lv_astore_n (lv' := [(2, .ref o11), (0, .ref a0), (1, .ref a1), (3, .int v3)]) X.1.1 X.1.2.1 dJx4a65c_add_72be8_10 rfl hl (by decide) rfl (fun ls hl => ?_)
    refine lv_aload_n X.1.1 X.1.2.1 dJx4a65c_add_72be8_11 rfl (lv_at hl 0 rfl) ?_
    refine lv_iload_n X.1.1 X.1.2.1 dJx4a65c_add_72be8_12 rfl (lv_at hl 3 rfl) ?_
    refine lv_aload_n X.1.1 X.1.2.1 dJx4a65c_add_72be8_13 rfl (lv_at hl 2 rfl) ?_
    obtain ⟨k13, h⟩ := h
    obtain ⟨k15, h⟩ := h
    obtain ⟨i14, h⟩ := h
    refine r_aast X V (Or.inl ⟨k13, k15⟩) i14 dJx4a65c_add_72be8_14 (fun H locs V => ?_)
    refine lv_aload_n X.1.1 X.1.2.1 dJx4a65c_add_72be8_15 rfl (lv_at hl 1 rfl) ?_
    refine lv_iload_n X.1.1 X.1.2.1 dJx4a65c_add_72be8_16 rfl (lv_at hl 3 rfl) ?_
    refine lv_iconst (v := (1 : Int32)) X.1.1 X.1.2.1 dJx4a65c_add_72be8_17 (by decide) ?_
    refine lv_iadd X.1.1 X.1.2.1 dJx4a65c_add_72be8_18 ?_
    refine pf_Jx4a65c_48 X V k7 dJx4a65c_add_72be8_19 (fun H locs V => ?_)
    refine W.widen (k := 1) (n := 80) (by omega) (by omega) ?_
    exact W.vret X.1.1 X.1.2.1 hr (fun t ht _ => V.q (r := ()) h ht) V.2.1.2.2 dJx4a65c_add_72be8_22 X.1.2.2.2.2
abbrev rm_Jx4a65c_add_9ea2d : Room := { frames := 6, cells := 1, slots := 80, locals := 150 }
def wp_Jx4a65c_add_9ea2d (post : Int32 → HS → Prop) (S : HS) (a0 : Nat) (a1 : Nat) : Prop := kd S a0 = 1 ∧ (∃ o2 : Nat, fr (sfi S 0 a0 ((fi S 0 a0) + (1 : Int32))) 1 a0 = some o2 ∧ (wp_Jx4a65c_add_72be8 (fun _ S4 => post (1 : Int32) S4) (sfi S 0 a0 ((fi S 0 a0) + (1 : Int32))) a0 a1 o2 (fi (sfi S 0 a0 ((fi S 0 a0) + (1 : Int32))) 2 a0)))
set_option maxHeartbeats 400000 in
set_option maxRecDepth 100000 in
theorem sd_Jx4a65c_add_9ea2d (l : Launch) (D : va_G) (ka : Nat → ClassId) (sz : Nat) (Z : HS) (post : Int32 → HS → Prop) (a0 : Nat) (a1 : Nat) (h : wp_Jx4a65c_add_9ea2d post Z a0 a1) : Met l yJx4a65c_add_9ea2d [Cond.code yJx4a65c_add_9ea2d cJx4a65c_add_9ea2d 2 (some .boolean)] rm_Jx4a65c_add_9ea2d (Px D ka Z sz [.ref a0, .ref a1]) (Qx eI post D ka Z sz) 1 80 (fA Z sz) := by
  refine Met.ofW (cc := cJx4a65c_add_9ea2d) (maxL := 2) (ret := (some .boolean)) (by decide) rfl ?_
  intro p e s m args below meth c s₁ B hml hv
  obtain ⟨rfl, X, V, hsz⟩ := Cx.entry B hml hv
  have hr : meth.sig.returnType = (some .boolean) := B.returns
  have hl := lv_entry ([.ref a0, .ref a1]) (n := 2) (Nat.le_of_ble_eq_true rfl)
  rw [lg_entry_eq]
  generalize (lg_sl ([.ref a0, .ref a1]) ++ List.replicate (2 - (lg_sl ([.ref a0, .ref a1])).length) Slot.unset).toArray = ls at hl ⊢
  have hl : lv_has ls 2 [(0, .ref a0), (1, .ref a1)] := hl
  have h : wp_Jx4a65c_add_9ea2d post Z a0 a1 := h
  refine lv_aload_n X.1.1 X.1.2.1 dJx4a65c_add_9ea2d_0 rfl (lv_at hl 0 rfl) ?_
  refine lv_dup X.1.1 X.1.2.1 dJx4a65c_add_9ea2d_1 rfl ?_
  obtain ⟨k1, h⟩ := h
  refine gf_Jx4a65c_63 X V k1 dJx4a65c_add_9ea2d_2 ?_
  refine lv_iconst (v := (1 : Int32)) X.1.1 X.1.2.1 dJx4a65c_add_9ea2d_5 (by decide) ?_
  refine lv_iadd X.1.1 X.1.2.1 dJx4a65c_add_9ea2d_6 ?_
  refine pf_Jx4a65c_63 X V k1 dJx4a65c_add_9ea2d_7 (fun H locs V => ?_)
  refine lv_aload_n X.1.1 X.1.2.1 dJx4a65c_add_9ea2d_10 rfl (lv_at hl 0 rfl) ?_
  refine lv_aload_n X.1.1 X.1.2.1 dJx4a65c_add_9ea2d_11 rfl (lv_at hl 1 rfl) ?_
  refine lv_aload_n X.1.1 X.1.2.1 dJx4a65c_add_9ea2d_12 rfl (lv_at hl 0 rfl) ?_
  obtain ⟨o2, e3, h⟩ := h
  refine gf_Jx4a65c_9 X V k1 e3 dJx4a65c_add_9ea2d_13 ?_
  refine lv_aload_n X.1.1 X.1.2.1 dJx4a65c_add_9ea2d_16 rfl (lv_at hl 0 rfl) ?_
  refine gf_Jx4a65c_48 X V k1 dJx4a65c_add_9ea2d_17 ?_
  refine r_callV (k := 1) (n := 3) (As := [.ref a1, .ref o2, .int (fi (sfi Z 0 a0 ((fi Z 0 a0) + (1 : Int32))) 2 a0)]) X V (sd_Jx4a65c_add_72be8 l D ka _ (sfi Z 0 a0 ((fi Z 0 a0) + (1 : Int32))) _ a0 a1 o2 (fi (sfi Z 0 a0 ((fi Z 0 a0) + (1 : Int32))) 2 a0) h) k1 (by decide) (by decide) rfl wd_85 wd_86 wd_39 wd_87 wd_88 rfl rfl (by decide +kernel) ⟨Nat.le_of_ble_eq_true rfl, Nat.le_of_ble_eq_true rfl⟩ rfl hl.1 rfl (Nat.le_of_ble_eq_true rfl) dJx4a65c_add_9ea2d_20 ⟨show 1 ≤ 1 by omega, show 80 ≤ 80 by omega⟩ (fun r5 S4 H locs h m6 V => ?_)
  have k1 := m6.k k1 (by decide)
  refine W.widen (k := 1) (n := 80) (by omega) (by omega) ?_
  refine lv_iconst (v := (1 : Int32)) X.1.1 X.1.2.1 dJx4a65c_add_9ea2d_23 (by decide) ?_
  refine W.widen (k := 1) (n := 80) (by omega) (by omega) ?_
  exact W.zret X.1.1 X.1.2.1 hr (by decide) (fun t ht _ => V.q (r := (1 : Int32)) h ht) V.2.1.2.2 dJx4a65c_add_9ea2d_24 X.1.2.2.2.2
abbrev rm_Jx4a65c_fastRemove_b59b0 : Room := { frames := 1, cells := 0, slots := 0, locals := 40 }
def wp_Jx4a65c_fastRemove_b59b0 (post : Unit → HS → Prop) (S : HS) (a0 : Nat) (a1 : Nat) (v2 : Int32) : Prop := kd S a0 = 1 ∧ (((((fi (sfi S 0 a0 ((fi S 0 a0) + (1 : Int32))) 2 a0) - (1 : Int32)) ≤ v2 → kd (sfi (sfi S 0 a0 ((fi S 0 a0) + (1 : Int32))) 2 a0 ((fi (sfi S 0 a0 ((fi S 0 a0) + (1 : Int32))) 2 a0) - (1 : Int32))) a1 / 32 = 6 ∧ (vp_in ((fi (sfi S 0 a0 ((fi S 0 a0) + (1 : Int32))) 2 a0) - (1 : Int32)) (ln (sfi (sfi S 0 a0 ((fi S 0 a0) + (1 : Int32))) 2 a0 ((fi (sfi S 0 a0 ((fi S 0 a0) + (1 : Int32))) 2 a0) - (1 : Int32))) a1) ∧ (post () (sar (sfi (sfi S 0 a0 ((fi S 0 a0) + (1 : Int32))) 2 a0 ((fi (sfi S 0 a0 ((fi S 0 a0) + (1 : Int32))) 2 a0) - (1 : Int32))) a1 ((fi (sfi S 0 a0 ((fi S 0 a0) + (1 : Int32))) 2 a0) - (1 : Int32)).toNatClampNeg none)))) ∧ (¬ ((fi (sfi S 0 a0 ((fi S 0 a0) + (1 : Int32))) 2 a0) - (1 : Int32)) ≤ v2 → kd (sfi S 0 a0 ((fi S 0 a0) + (1 : Int32))) a1 / 32 = 6 ∧ ((¬ (v2 + (1 : Int32)) < 0 ∧ ¬ v2 < 0 ∧ ¬ (((fi (sfi S 0 a0 ((fi S 0 a0) + (1 : Int32))) 2 a0) - (1 : Int32)) - v2) < 0 ∧ (v2 + (1 : Int32)).toNatClampNeg + (((fi (sfi S 0 a0 ((fi S 0 a0) + (1 : Int32))) 2 a0) - (1 : Int32)) - v2).toNatClampNeg ≤ ln (sfi S 0 a0 ((fi S 0 a0) + (1 : Int32))) a1 ∧ v2.toNatClampNeg + (((fi (sfi S 0 a0 ((fi S 0 a0) + (1 : Int32))) 2 a0) - (1 : Int32)) - v2).toNatClampNeg ≤ ln (sfi S 0 a0 ((fi S 0 a0) + (1 : Int32))) a1 ∧ (∀ i : Nat, i < (((fi (sfi S 0 a0 ((fi S 0 a0) + (1 : Int32))) 2 a0) - (1 : Int32)) - v2).toNatClampNeg → ∀ y : Nat, ar (sfi S 0 a0 ((fi S 0 a0) + (1 : Int32))) a1 ((v2 + (1 : Int32)).toNatClampNeg + i) = some y → 2 ≤ kd (sfi S 0 a0 ((fi S 0 a0) + (1 : Int32))) y ∧ kd (sfi S 0 a0 ((fi S 0 a0) + (1 : Int32))) y ≤ 8)) ∧ (vp_in ((fi (sfi S 0 a0 ((fi S 0 a0) + (1 : Int32))) 2 a0) - (1 : Int32)) (ln (sfi (scp (sfi S 0 a0 ((fi S 0 a0) + (1 : Int32))) a1 (va_cpy (ar (sfi S 0 a0 ((fi S 0 a0) + (1 : Int32))) a1) (ar (sfi S 0 a0 ((fi S 0 a0) + (1 : Int32))) a1) (v2 + (1 : Int32)).toNatClampNeg v2.toNatClampNeg (((fi (sfi S 0 a0 ((fi S 0 a0) + (1 : Int32))) 2 a0) - (1 : Int32)) - v2).toNatClampNeg)) 2 a0 ((fi (sfi S 0 a0 ((fi S 0 a0) + (1 : Int32))) 2 a0) - (1 : Int32))) a1) ∧ (post () (sar (sfi (scp (sfi S 0 a0 ((fi S 0 a0) + (1 : Int32))) a1 (va_cpy (ar (sfi S 0 a0 ((fi S 0 a0) + (1 : Int32))) a1) (ar (sfi S 0 a0 ((fi S 0 a0) + (1 : Int32))) a1) (v2 + (1 : Int32)).toNatClampNeg v2.toNatClampNeg (((fi (sfi S 0 a0 ((fi S 0 a0) + (1 : Int32))) 2 a0) - (1 : Int32)) - v2).toNatClampNeg)) 2 a0 ((fi (sfi S 0 a0 ((fi S 0 a0) + (1 : Int32))) 2 a0) - (1 : Int32))) a1 ((fi (sfi S 0 a0 ((fi S 0 a0) + (1 : Int32))) 2 a0) - (1 : Int32)).toNatClampNeg none)))))))
set_option maxHeartbeats 400000 in
set_option maxRecDepth 100000 in
theorem sd_Jx4a65c_fastRemove_b59b0 (l : Launch) (D : va_G) (ka : Nat → ClassId) (sz : Nat) (Z : HS) (post : Unit → HS → Prop) (a0 : Nat) (a1 : Nat) (v2 : Int32) (h : wp_Jx4a65c_fastRemove_b59b0 post Z a0 a1 v2) : Met l yJx4a65c_fastRemove_b59b0 [Cond.code yJx4a65c_fastRemove_b59b0 cJx4a65c_fastRemove_b59b0 4 none] rm_Jx4a65c_fastRemove_b59b0 (Px D ka Z sz [.ref a0, .ref a1, .int v2]) (Qx eV post D ka Z sz) 0 0 (fA Z sz) := by
  refine Met.ofW (cc := cJx4a65c_fastRemove_b59b0) (maxL := 4) (ret := none) (by decide) rfl ?_
  intro p e s m args below meth c s₁ B hml hv
  obtain ⟨rfl, X, V, hsz⟩ := Cx.entry B hml hv
  have hr : meth.sig.returnType = none := B.returns
  have hl := lv_entry ([.ref a0, .ref a1, .int v2]) (n := 4) (Nat.le_of_ble_eq_true rfl)
  rw [lg_entry_eq]
  generalize (lg_sl ([.ref a0, .ref a1, .int v2]) ++ List.replicate (4 - (lg_sl ([.ref a0, .ref a1, .int v2])).length) Slot.unset).toArray = ls at hl ⊢
  have hl : lv_has ls 4 [(0, .ref a0), (1, .ref a1), (2, .int v2)] := hl
  have h : wp_Jx4a65c_fastRemove_b59b0 post Z a0 a1 v2 := h
  refine lv_aload_n X.1.1 X.1.2.1 dJx4a65c_fastRemove_b59b0_0 rfl (lv_at hl 0 rfl) ?_
  refine lv_dup X.1.1 X.1.2.1 dJx4a65c_fastRemove_b59b0_1 rfl ?_
  obtain ⟨k1, h⟩ := h
  refine gf_Jx4a65c_63 X V k1 dJx4a65c_fastRemove_b59b0_2 ?_
  refine lv_iconst (v := (1 : Int32)) X.1.1 X.1.2.1 dJx4a65c_fastRemove_b59b0_5 (by decide) ?_
  refine lv_iadd X.1.1 X.1.2.1 dJx4a65c_fastRemove_b59b0_6 ?_
  refine pf_Jx4a65c_63 X V k1 dJx4a65c_fastRemove_b59b0_7 (fun H locs V => ?_)
  refine lv_aload_n X.1.1 X.1.2.1 dJx4a65c_fastRemove_b59b0_10 rfl (lv_at hl 0 rfl) ?_
  refine gf_Jx4a65c_48 X V k1 dJx4a65c_fastRemove_b59b0_11 ?_
  refine lv_iconst (v := (1 : Int32)) X.1.1 X.1.2.1 dJx4a65c_fastRemove_b59b0_14 (by decide) ?_
  refine lv_isub X.1.1 X.1.2.1 dJx4a65c_fastRemove_b59b0_15 ?_
  refine lv_dup X.1.1 X.1.2.1 dJx4a65c_fastRemove_b59b0_16 rfl ?_
  refine lv_istore_n (lv' := [(3, .int ((fi (sfi Z 0 a0 ((fi Z 0 a0) + (1 : Int32))) 2 a0) - (1 : Int32))), (0, .ref a0), (1, .ref a1), (2, .int v2)]) X.1.1 X.1.2.1 dJx4a65c_fastRemove_b59b0_17 rfl hl (by decide) rfl (fun ls hl => ?_)
  refine lv_iload_n X.1.1 X.1.2.1 dJx4a65c_fastRemove_b59b0_18 rfl (lv_at hl 3 rfl) ?_
  refine lv_icmp_le (tgt := 34) X.1.1 X.1.2.1 dJx4a65c_fastRemove_b59b0_19 (by decide) (fun c2 => ?_) (fun c2 => ?_)
  · have h := h.1 c2
    refine lv_aload_n X.1.1 X.1.2.1 dJx4a65c_fastRemove_b59b0_34 rfl (lv_at hl 2 rfl) ?_
    refine lv_aload_n X.1.1 X.1.2.1 dJx4a65c_fastRemove_b59b0_35 rfl (lv_at hl 1 rfl) ?_
    refine lv_iload_n X.1.1 X.1.2.1 dJx4a65c_fastRemove_b59b0_36 rfl (lv_at hl 0 rfl) ?_
    refine lv_dup_x1 X.1.1 X.1.2.1 dJx4a65c_fastRemove_b59b0_37 rfl rfl ?_
    refine pf_Jx4a65c_48 X V k1 dJx4a65c_fastRemove_b59b0_38 (fun H locs V => ?_)
    refine lv_null X.1.1 X.1.2.1 dJx4a65c_fastRemove_b59b0_41 ?_
    obtain ⟨k3, h⟩ := h
    obtain ⟨i4, h⟩ := h
    refine r_aastN X V (Or.inl k3) i4 dJx4a65c_fastRemove_b59b0_42 (fun H locs V => ?_)
    exact W.vret X.1.1 X.1.2.1 hr (fun t ht _ => V.q (r := ()) h ht) V.2.1.2.2 dJx4a65c_fastRemove_b59b0_43 X.1.2.2.2.2
  · have h := h.2 c2
    refine lv_aload_n X.1.1 X.1.2.1 dJx4a65c_fastRemove_b59b0_22 rfl (lv_at hl 2 rfl) ?_
    refine lv_iload_n X.1.1 X.1.2.1 dJx4a65c_fastRemove_b59b0_23 rfl (lv_at hl 3 rfl) ?_
    refine lv_iconst (v := (1 : Int32)) X.1.1 X.1.2.1 dJx4a65c_fastRemove_b59b0_24 (by decide) ?_
    refine lv_iadd X.1.1 X.1.2.1 dJx4a65c_fastRemove_b59b0_25 ?_
    refine lv_aload_n X.1.1 X.1.2.1 dJx4a65c_fastRemove_b59b0_26 rfl (lv_at hl 2 rfl) ?_
    refine lv_iload_n X.1.1 X.1.2.1 dJx4a65c_fastRemove_b59b0_27 rfl (lv_at hl 3 rfl) ?_
    refine lv_iload_n X.1.1 X.1.2.1 dJx4a65c_fastRemove_b59b0_28 rfl (lv_at hl 0 rfl) ?_
    refine lv_iload_n X.1.1 X.1.2.1 dJx4a65c_fastRemove_b59b0_29 rfl (lv_at hl 3 rfl) ?_
    refine lv_isub X.1.1 X.1.2.1 dJx4a65c_fastRemove_b59b0_30 ?_
    obtain ⟨k5, h⟩ := h
    obtain ⟨u6, h⟩ := h
    refine r_copy X V (X.1.2.2.1.trans hl.1.symm) k5 k5 u6 wd_89 wd_54 wd_55 wd_56 (Nat.le_of_ble_eq_true rfl) (Nat.le_of_ble_eq_true rfl) dJx4a65c_fastRemove_b59b0_31 (fun H locs V => ?_)
    refine lv_aload_n X.1.1 X.1.2.1 dJx4a65c_fastRemove_b59b0_34 rfl (lv_at hl 2 rfl) ?_
    refine lv_aload_n X.1.1 X.1.2.1 dJx4a65c_fastRemove_b59b0_35 rfl (lv_at hl 1 rfl) ?_
    refine lv_iload_n X.1.1 X.1.2.1 dJx4a65c_fastRemove_b59b0_36 rfl (lv_at hl 0 rfl) ?_
    refine lv_dup_x1 X.1.1 X.1.2.1 dJx4a65c_fastRemove_b59b0_37 rfl rfl ?_
    refine pf_Jx4a65c_48 X V k1 dJx4a65c_fastRemove_b59b0_38 (fun H locs V => ?_)
    refine lv_null X.1.1 X.1.2.1 dJx4a65c_fastRemove_b59b0_41 ?_
    obtain ⟨i7, h⟩ := h
    refine r_aastN X V (Or.inl k5) i7 dJx4a65c_fastRemove_b59b0_42 (fun H locs V => ?_)
    exact W.vret X.1.1 X.1.2.1 hr (fun t ht _ => V.q (r := ()) h ht) V.2.1.2.2 dJx4a65c_fastRemove_b59b0_43 X.1.2.2.2.2
abbrev rm_Jx4a65c_remove_915e3 : Room := { frames := 2, cells := 0, slots := 0, locals := 63 }
def wp_Jx4a65c_remove_915e3 (post : (Option Nat) → HS → Prop) (S : HS) (a0 : Nat) (v1 : Int32) : Prop := kd S a0 = 1 ∧ (wp_J15_checkIndex_7cf53 (fun r3 S2 => ∃ o5 : Nat, fr S2 1 a0 = some o5 ∧ (kd S2 o5 / 32 = 6 ∧ (vp_in v1 (ln S2 o5) ∧ (∃ o10 : Nat, ar S2 o5 v1.toNatClampNeg = some o10 ∧ (wp_Jx4a65c_fastRemove_b59b0 (fun _ S12 => post (some o10) S12) S2 a0 o5 v1))))) S v1 (fi S 2 a0))
set_option maxHeartbeats 400000 in
set_option maxRecDepth 100000 in
theorem sd_Jx4a65c_remove_915e3 (l : Launch) (D : va_G) (ka : Nat → ClassId) (sz : Nat) (Z : HS) (post : (Option Nat) → HS → Prop) (a0 : Nat) (v1 : Int32) (h : wp_Jx4a65c_remove_915e3 post Z a0 v1) : Met l yJx4a65c_remove_915e3 [Cond.code yJx4a65c_remove_915e3 cJx4a65c_remove_915e3 4 (some (.object "java/lang/Object"))] rm_Jx4a65c_remove_915e3 (Px D ka Z sz [.ref a0, .int v1]) (Qx eR post D ka Z sz) 0 0 (fA Z sz) := by
  refine Met.ofW (cc := cJx4a65c_remove_915e3) (maxL := 4) (ret := (some (.object "java/lang/Object"))) (by decide) rfl ?_
  intro p e s m args below meth c s₁ B hml hv
  obtain ⟨rfl, X, V, hsz⟩ := Cx.entry B hml hv
  have hr : meth.sig.returnType = (some (.object "java/lang/Object")) := B.returns
  have hl := lv_entry ([.ref a0, .int v1]) (n := 4) (Nat.le_of_ble_eq_true rfl)
  rw [lg_entry_eq]
  generalize (lg_sl ([.ref a0, .int v1]) ++ List.replicate (4 - (lg_sl ([.ref a0, .int v1])).length) Slot.unset).toArray = ls at hl ⊢
  have hl : lv_has ls 4 [(0, .ref a0), (1, .int v1)] := hl
  have h : wp_Jx4a65c_remove_915e3 post Z a0 v1 := h
  refine lv_iload_n X.1.1 X.1.2.1 dJx4a65c_remove_915e3_0 rfl (lv_at hl 1 rfl) ?_
  refine lv_aload_n X.1.1 X.1.2.1 dJx4a65c_remove_915e3_1 rfl (lv_at hl 0 rfl) ?_
  obtain ⟨k1, h⟩ := h
  refine gf_Jx4a65c_48 X V k1 dJx4a65c_remove_915e3_2 ?_
  refine r_callS (n := 2) (As := [.int v1, .int (fi Z 2 a0)]) X V (sd_J15_checkIndex_7cf53 l D ka _ Z _ v1 (fi Z 2 a0) h) wd_33 wd_34 wd_35 wd_36 rfl rfl (by decide +kernel) ⟨Nat.le_of_ble_eq_true rfl, Nat.le_of_ble_eq_true rfl⟩ rfl hl.1 rfl (Nat.le_of_ble_eq_true rfl) dJx4a65c_remove_915e3_5 ⟨show 0 ≤ 0 by omega, show 0 ≤ 0 by omega⟩ (fun r3 S2 H locs h m4 V => ?_)
  have k1 := m4.k k1 (by decide)
  refine lv_pop X.1.1 X.1.2.1 dJx4a65c_remove_915e3_8 rfl ?_
  refine lv_aload_n X.1.1 X.1.2.1 dJx4a65c_remove_915e3_9 rfl (lv_at hl 0 rfl) ?_
  obtain ⟨o5, e6, h⟩ := h
  refine gf_Jx4a65c_9 X V k1 e6 dJx4a65c_remove_915e3_10 ?_
  refine lv_astore_n (lv' := [(2, .ref o5), (0, .ref a0), (1, .int v1)]) X.1.1 X.1.2.1 dJx4a65c_remove_915e3_13 rfl hl (by decide) rfl (fun ls hl => ?_)
  refine lv_aload_n X.1.1 X.1.2.1 dJx4a65c_remove_915e3_14 rfl (lv_at hl 0 rfl) ?_
  refine lv_iload_n X.1.1 X.1.2.1 dJx4a65c_remove_915e3_15 rfl (lv_at hl 2 rfl) ?_
  obtain ⟨k9, h⟩ := h
  obtain ⟨i7, h⟩ := h
  refine r_aald X V (Or.inr (Or.inr k9)) i7 dJx4a65c_remove_915e3_16 ?_
  obtain ⟨o10, e11, h⟩ := h
  rw [e11]
  refine lv_astore_n (lv' := [(3, .ref o10), (2, .ref o5), (0, .ref a0), (1, .int v1)]) X.1.1 X.1.2.1 dJx4a65c_remove_915e3_17 rfl hl (by decide) rfl (fun ls hl => ?_)
  refine lv_aload_n X.1.1 X.1.2.1 dJx4a65c_remove_915e3_18 rfl (lv_at hl 2 rfl) ?_
  refine lv_aload_n X.1.1 X.1.2.1 dJx4a65c_remove_915e3_19 rfl (lv_at hl 1 rfl) ?_
  refine lv_iload_n X.1.1 X.1.2.1 dJx4a65c_remove_915e3_20 rfl (lv_at hl 3 rfl) ?_
  refine r_callV (k := 1) (n := 2) (As := [.ref o5, .int v1]) X V (sd_Jx4a65c_fastRemove_b59b0 l D ka _ S2 _ a0 o5 v1 h) k1 (by decide) (by decide) rfl wd_90 wd_91 wd_39 wd_92 wd_93 rfl rfl (by decide +kernel) ⟨Nat.le_of_ble_eq_true rfl, Nat.le_of_ble_eq_true rfl⟩ rfl hl.1 rfl (Nat.le_of_ble_eq_true rfl) dJx4a65c_remove_915e3_21 ⟨show 0 ≤ 0 by omega, show 0 ≤ 0 by omega⟩ (fun r13 S12 H locs h m14 V => ?_)
  have k1 := m14.k k1 (by decide)
  have k9 := m14.t k9 (by decide)
  refine lv_aload_n X.1.1 X.1.2.1 dJx4a65c_remove_915e3_24 rfl (lv_at hl 0 rfl) ?_
  exact W.aret X.1.1 X.1.2.1 hr (Or.inl ⟨_, rfl⟩) (Or.inr ⟨_, rfl⟩) (fun t ht _ => V.q (r := (some o10)) h ht) V.2.1.2.2 dJx4a65c_remove_915e3_25 X.1.2.2.2.2
abbrev rm_Jx4a65c_clear_da8c8 : Room := { frames := 0, cells := 0, slots := 0, locals := 0 }
def wp_Jx4a65c_clear_da8c8_27 : Nat → (Unit → HS → Prop) → HS → Nat → Int32 → Int32 → Prop
  | 0, _, _, _, _, _ => False
  | n + 1, post, S, b1, x2, x3 => ((x2 ≤ x3 → post () S) ∧ (¬ x2 ≤ x3 → kd S b1 / 32 = 6 ∧ (vp_in x3 (ln S b1) ∧ (wp_Jx4a65c_clear_da8c8_27 n post (sar S b1 x3.toNatClampNeg none) b1 x2 (x3 + (1 : Int32))))))
set_option maxHeartbeats 400000 in
set_option maxRecDepth 100000 in
theorem sl_Jx4a65c_clear_da8c8_27 (l : Launch) (D : va_G) (ka : Nat → ClassId) (sz : Nat) (Z : HS) (post : Unit → HS → Prop) {p : Program} {e : Env} {s : State} {m : MethodId} {args : Array Value} {below : List Frame} {meth : Method} {c : Code} (X : Cx p s m meth c cJx4a65c_clear_da8c8 4 RJx4a65c D ka Z (fA Z sz)) (hr : meth.sig.returnType = none)  : ∀ (n : Nat), ∀ (S : HS) (b1 : Nat) (x2 : Int32) (x3 : Int32), wp_Jx4a65c_clear_da8c8_27 n post S b1 x2 x3 → ∀ (H : Heap) (locs : List Loc) (ls : Array Slot), Hv D ka Z s (fA Z sz) S H locs → lv_has ls 4 [(1, .ref b1), (2, .int x2), (3, .int x3)] → W p l e rm_Jx4a65c_clear_da8c8 s m args below meth c H locs 0 0 (MQ below (Qx eV post D ka Z sz) args s 0 0 (fA Z sz)) (F0 m 27 ls []) := by
  intro n
  induction n with
  | zero => intro S b1 x2 x3 h; exact h.elim
  | succ n ih =>
    intro S b1 x2 x3 h H locs ls V hl
    refine lv_iload_n X.1.1 X.1.2.1 dJx4a65c_clear_da8c8_27 rfl (lv_at hl 2 rfl) ?_
    refine lv_iload_n X.1.1 X.1.2.1 dJx4a65c_clear_da8c8_28 rfl (lv_at hl 1 rfl) ?_
    refine lv_icmp_ge (tgt := 42) X.1.1 X.1.2.1 dJx4a65c_clear_da8c8_29 (by decide) (fun c4 => ?_) (fun c4 => ?_)
    · have h := h.1 c4
      exact W.vret X.1.1 X.1.2.1 hr (fun t ht _ => V.q (r := ()) h ht) V.2.1.2.2 dJx4a65c_clear_da8c8_42 X.1.2.2.2.2
    · have h := h.2 c4
      refine lv_aload_n X.1.1 X.1.2.1 dJx4a65c_clear_da8c8_32 rfl (lv_at hl 0 rfl) ?_
      refine lv_iload_n X.1.1 X.1.2.1 dJx4a65c_clear_da8c8_33 rfl (lv_at hl 2 rfl) ?_
      refine lv_null X.1.1 X.1.2.1 dJx4a65c_clear_da8c8_34 ?_
      obtain ⟨k5, h⟩ := h
      obtain ⟨i6, h⟩ := h
      refine r_aastN X V (Or.inl k5) i6 dJx4a65c_clear_da8c8_35 (fun H locs V => ?_)
      refine lv_iinc (v := (x3 + (1 : Int32))) (lv' := [(3, .int (x3 + (1 : Int32))), (1, .ref b1), (2, .int x2)]) X.1.1 X.1.2.1 dJx4a65c_clear_da8c8_36 hl (k := 2) rfl (congrArg (HAdd.hAdd _) (by decide)) (by decide) rfl (fun ls hl => ?_)
      refine lv_goto (tgt := 27) X.1.1 X.1.2.1 dJx4a65c_clear_da8c8_39 (by decide) ?_
      exact ih (sar S b1 x3.toNatClampNeg none) b1 x2 (x3 + (1 : Int32)) h _ _ _ V (lv_sub hl [1, 2, 0] rfl)
def wp_Jx4a65c_clear_da8c8 (post : Unit → HS → Prop) (S : HS) (a0 : Nat) : Prop := kd S a0 = 1 ∧ (∃ o2 : Nat, fr (sfi S 0 a0 ((fi S 0 a0) + (1 : Int32))) 1 a0 = some o2 ∧ (∃ n9, wp_Jx4a65c_clear_da8c8_27 n9 post (sfi (sfi S 0 a0 ((fi S 0 a0) + (1 : Int32))) 2 a0 (0 : Int32)) o2 (fi (sfi S 0 a0 ((fi S 0 a0) + (1 : Int32))) 2 a0) (0 : Int32)))
set_option maxHeartbeats 400000 in
set_option maxRecDepth 100000 in
theorem sd_Jx4a65c_clear_da8c8 (l : Launch) (D : va_G) (ka : Nat → ClassId) (sz : Nat) (Z : HS) (post : Unit → HS → Prop) (a0 : Nat) (h : wp_Jx4a65c_clear_da8c8 post Z a0) : Met l yJx4a65c_clear_da8c8 [Cond.code yJx4a65c_clear_da8c8 cJx4a65c_clear_da8c8 4 none] rm_Jx4a65c_clear_da8c8 (Px D ka Z sz [.ref a0]) (Qx eV post D ka Z sz) 0 0 (fA Z sz) := by
  refine Met.ofW (cc := cJx4a65c_clear_da8c8) (maxL := 4) (ret := none) (by decide) rfl ?_
  intro p e s m args below meth c s₁ B hml hv
  obtain ⟨rfl, X, V, hsz⟩ := Cx.entry B hml hv
  have hr : meth.sig.returnType = none := B.returns
  have hl := lv_entry ([.ref a0]) (n := 4) (Nat.le_of_ble_eq_true rfl)
  rw [lg_entry_eq]
  generalize (lg_sl ([.ref a0]) ++ List.replicate (4 - (lg_sl ([.ref a0])).length) Slot.unset).toArray = ls at hl ⊢
  have hl : lv_has ls 4 [(0, .ref a0)] := hl
  have h : wp_Jx4a65c_clear_da8c8 post Z a0 := h
  refine lv_aload_n X.1.1 X.1.2.1 dJx4a65c_clear_da8c8_0 rfl (lv_at hl 0 rfl) ?_
  refine lv_dup X.1.1 X.1.2.1 dJx4a65c_clear_da8c8_1 rfl ?_
  obtain ⟨k1, h⟩ := h
  refine gf_Jx4a65c_63 X V k1 dJx4a65c_clear_da8c8_2 ?_
  refine lv_iconst (v := (1 : Int32)) X.1.1 X.1.2.1 dJx4a65c_clear_da8c8_5 (by decide) ?_
  refine lv_iadd X.1.1 X.1.2.1 dJx4a65c_clear_da8c8_6 ?_
  refine pf_Jx4a65c_63 X V k1 dJx4a65c_clear_da8c8_7 (fun H locs V => ?_)
  refine lv_aload_n X.1.1 X.1.2.1 dJx4a65c_clear_da8c8_10 rfl (lv_at hl 0 rfl) ?_
  obtain ⟨o2, e3, h⟩ := h
  refine gf_Jx4a65c_9 X V k1 e3 dJx4a65c_clear_da8c8_11 ?_
  refine lv_astore_n (lv' := [(1, .ref o2), (0, .ref a0)]) X.1.1 X.1.2.1 dJx4a65c_clear_da8c8_14 rfl hl (by decide) rfl (fun ls hl => ?_)
  refine lv_aload_n X.1.1 X.1.2.1 dJx4a65c_clear_da8c8_15 rfl (lv_at hl 1 rfl) ?_
  refine gf_Jx4a65c_48 X V k1 dJx4a65c_clear_da8c8_16 ?_
  refine lv_istore_n (lv' := [(2, .int (fi (sfi Z 0 a0 ((fi Z 0 a0) + (1 : Int32))) 2 a0)), (1, .ref o2), (0, .ref a0)]) X.1.1 X.1.2.1 dJx4a65c_clear_da8c8_19 rfl hl (by decide) rfl (fun ls hl => ?_)
  refine lv_aload_n X.1.1 X.1.2.1 dJx4a65c_clear_da8c8_20 rfl (lv_at hl 2 rfl) ?_
  refine lv_iconst (v := (0 : Int32)) X.1.1 X.1.2.1 dJx4a65c_clear_da8c8_21 (by decide) ?_
  refine lv_dup_x1 X.1.1 X.1.2.1 dJx4a65c_clear_da8c8_22 rfl rfl ?_
  refine pf_Jx4a65c_48 X V k1 dJx4a65c_clear_da8c8_23 (fun H locs V => ?_)
  refine lv_istore_n (lv' := [(3, .int (0 : Int32)), (2, .int (fi (sfi Z 0 a0 ((fi Z 0 a0) + (1 : Int32))) 2 a0)), (1, .ref o2), (0, .ref a0)]) X.1.1 X.1.2.1 dJx4a65c_clear_da8c8_26 rfl hl (by decide) rfl (fun ls hl => ?_)
  obtain ⟨n9, h⟩ := h
  exact sl_Jx4a65c_clear_da8c8_27 l D ka sz Z post X hr n9 (sfi (sfi Z 0 a0 ((fi Z 0 a0) + (1 : Int32))) 2 a0 (0 : Int32)) o2 (fi (sfi Z 0 a0 ((fi Z 0 a0) + (1 : Int32))) 2 a0) (0 : Int32) h _ _ _ V (lv_sub hl [2, 1, 0] rfl)
