abbrev rm_X0_init : Room := { frames := 4, cells := 2, slots := 11, locals := 72 }
def wp_X0_init (post : Unit → HS → Prop) (S : HS) (a0 : Nat) (v1 : Int32) : Prop := ∀ o1 : Nat, kd S o1 = 0 → (wp_Jx4a65c_init_da8c8 (fun _ S4 => kd S4 a0 = 2 ∧ (∀ o8 : Nat, kd (sfr S4 4 a0 (some o1)) o8 = 0 → (post () (sfi (sfr (snw (sfr S4 4 a0 (some o1)) o8 35 8) 5 a0 (some o8)) 3 a0 v1)))) (snw S o1 1 0) o1)
set_option maxHeartbeats 400000 in
set_option maxRecDepth 100000 in
theorem sd_X0_init (l : Launch) (D : va_G) (ka : Nat → ClassId) (sz : Nat) (Z : HS) (post : Unit → HS → Prop) (a0 : Nat) (v1 : Int32) (h : wp_X0_init post Z a0 v1) : Met l yX0_init [Cond.code yX0_init cX0_init 2 none] rm_X0_init (Px D ka Z sz [.ref a0, .int v1]) (Qx eV post D ka Z sz) 2 11 (fA Z sz) := by
  refine Met.ofW (cc := cX0_init) (maxL := 2) (ret := none) (by decide) rfl ?_
  intro p e s m args below meth c s₁ B hml hv
  obtain ⟨rfl, X, V, hsz⟩ := Cx.entry B hml hv
  have hr : meth.sig.returnType = none := B.returns
  have hin2 : meth.name = "<init>" := (name_of_methodNamed B.named B.method).1
  have hl := lv_entry ([.ref a0, .int v1]) (n := 2) (Nat.le_of_ble_eq_true rfl)
  rw [lg_entry_eq]
  generalize (lg_sl ([.ref a0, .int v1]) ++ List.replicate (2 - (lg_sl ([.ref a0, .int v1])).length) Slot.unset).toArray = ls at hl ⊢
  have hl : lv_has ls 2 [(0, .ref a0), (1, .int v1)] := hl
  have h : wp_X0_init post Z a0 v1 := h
  refine lv_aload_n X.1.1 X.1.2.1 dX0_init_0 rfl (lv_at hl 0 rfl) ?_
  refine W.objInit X.1.1 X.1.2.1 X.1.2.2.2.1 (X.w wd_94 rfl _) (X.w wd_1 rfl _) (X.w wd_2 rfl _) rfl (by rw [X.1.2.2.1]; exact hl.1) rfl dX0_init_1 (Nat.le_of_ble_eq_true rfl) (Nat.le_of_ble_eq_true rfl) ?_
  refine W.eq (g2 := F0 m 4 ls []) rfl ?_
  refine lv_aload_n X.1.1 X.1.2.1 dX0_init_4 rfl (lv_at hl 0 rfl) ?_
  refine nw_X0_9 X V (show 1 ≤ 2 by omega) (show 3 ≤ 11 by omega) dX0_init_5 (fun o1 H z2 V => ?_)
  have h := h o1 z2
  refine W.widen (k := 1) (n := 3) (by omega) (by omega) ?_
  have k3 : kd (snw Z o1 1 0) o1 = 1 := va_up_self _ _ _
  refine lv_dup X.1.1 X.1.2.1 dX0_init_8 rfl ?_
  refine r_callI (n := 0) (As := []) X V (sd_Jx4a65c_init_da8c8 l D ka _ (snw Z o1 1 0) _ o1 h) wd_97 wd_98 wd_39 wd_99 rfl rfl rfl (by decide +kernel) ⟨Nat.le_of_ble_eq_true rfl, Nat.le_of_ble_eq_true rfl⟩ rfl hl.1 rfl (Nat.le_of_ble_eq_true rfl) dX0_init_9 ⟨show 1 ≤ 2 by omega, show 3 ≤ 11 by omega⟩ (fun r5 S4 H locs h m6 V => ?_)
  have k3 := m6.k k3 (by decide)
  obtain ⟨k7, h⟩ := h
  refine pf_X0_12 X V k7 hin2 dX0_init_12 (fun H locs V => ?_)
  refine lv_aload_n X.1.1 X.1.2.1 dX0_init_15 rfl (lv_at hl 0 rfl) ?_
  refine lv_bipush (v := (8 : Int32)) X.1.1 X.1.2.1 dX0_init_16 (by decide) ?_
  refine r_newa (t := 0) (k := 35) (ty := .int) (N' := 8) (a0 := (8, .inl (fun _ => 0))) X V wd_3 rfl rfl (fun _ => rfl) (by decide) (by decide) (fun q => na_35) (by decide) (by decide) (by decide) (show 2 ≤ 2 by omega) (show 11 ≤ 11 by omega) dX0_init_18 (fun o8 H z9 V => ?_)
  have h := h o8 z9
  have k3 := (mono.snw (k := 35) (n := 8) z9).k k3 (by decide)
  have k7 := (mono.snw (k := 35) (n := 8) z9).k k7 (by decide)
  refine W.widen (k := 2) (n := 11) (by omega) (by omega) ?_
  have k10 : kd (snw (sfr S4 4 a0 (some o1)) o8 35 8) o8 / 32 = 1 := by show va_up (kd _) _ _ _ / 32 = _; rw [va_up_self]
  refine pf_X0_18 X V k7 hin2 dX0_init_20 (fun H locs V => ?_)
  refine lv_aload_n X.1.1 X.1.2.1 dX0_init_23 rfl (lv_at hl 0 rfl) ?_
  refine lv_iload_n X.1.1 X.1.2.1 dX0_init_24 rfl (lv_at hl 1 rfl) ?_
  refine pf_X0_22 X V k7 hin2 dX0_init_25 (fun H locs V => ?_)
  refine W.widen (k := 2) (n := 11) (by omega) (by omega) ?_
  exact W.vret X.1.1 X.1.2.1 hr (fun t ht _ => V.q (r := ()) h ht) V.2.1.2.2 dX0_init_28 X.1.2.2.2.2
abbrev rm_X0_reset : Room := { frames := 1, cells := 0, slots := 0, locals := 23 }
def wp_X0_reset_14 : Nat → (Unit → HS → Prop) → HS → Nat → Int32 → Prop
  | 0, _, _, _, _ => False
  | n + 1, post, S, b0, x1 => (((8 : Int32) ≤ x1 → post () S) ∧ (¬ (8 : Int32) ≤ x1 → kd S b0 = 2 ∧ (∃ o10 : Nat, fr S 5 b0 = some o10 ∧ (kd S o10 / 32 = 1 ∧ (vp_in x1 (ln S o10) ∧ (wp_X0_reset_14 n post (sai S o10 x1.toNatClampNeg (0 : Int32)) b0 (x1 + (1 : Int32))))))))
set_option maxHeartbeats 400000 in
set_option maxRecDepth 100000 in
theorem sl_X0_reset_14 (l : Launch) (D : va_G) (ka : Nat → ClassId) (sz : Nat) (Z : HS) (post : Unit → HS → Prop) {p : Program} {e : Env} {s : State} {m : MethodId} {args : Array Value} {below : List Frame} {meth : Method} {c : Code} (X : Cx p s m meth c cX0_reset 2 RX0 D ka Z (fA Z sz)) (hr : meth.sig.returnType = none)  : ∀ (n : Nat), ∀ (S : HS) (b0 : Nat) (x1 : Int32), wp_X0_reset_14 n post S b0 x1 → ∀ (H : Heap) (locs : List Loc) (ls : Array Slot), Hv D ka Z s (fA Z sz) S H locs → lv_has ls 2 [(0, .ref b0), (1, .int x1)] → W p l e rm_X0_reset s m args below meth c H locs 0 0 (MQ below (Qx eV post D ka Z sz) args s 0 0 (fA Z sz)) (F0 m 14 ls []) := by
  intro n
  induction n with
  | zero => intro S b0 x1 h; exact h.elim
  | succ n ih =>
    intro S b0 x1 h H locs ls V hl
    refine lv_iload_n X.1.1 X.1.2.1 dX0_reset_14 rfl (lv_at hl 1 rfl) ?_
    refine lv_bipush (v := (8 : Int32)) X.1.1 X.1.2.1 dX0_reset_15 (by decide) ?_
    refine lv_icmp_ge (tgt := 33) X.1.1 X.1.2.1 dX0_reset_17 (by decide) (fun c8 => ?_) (fun c8 => ?_)
    · have h := h.1 c8
      exact W.vret X.1.1 X.1.2.1 hr (fun t ht _ => V.q (r := ()) h ht) V.2.1.2.2 dX0_reset_33 X.1.2.2.2.2
    · have h := h.2 c8
      refine lv_aload_n X.1.1 X.1.2.1 dX0_reset_20 rfl (lv_at hl 0 rfl) ?_
      obtain ⟨k9, h⟩ := h
      obtain ⟨o10, e11, h⟩ := h
      refine gf_X0_18 X V k9 e11 dX0_reset_21 ?_
      refine lv_iload_n X.1.1 X.1.2.1 dX0_reset_24 rfl (lv_at hl 1 rfl) ?_
      refine lv_iconst (v := (0 : Int32)) X.1.1 X.1.2.1 dX0_reset_25 (by decide) ?_
      obtain ⟨k12, h⟩ := h
      obtain ⟨i13, h⟩ := h
      refine r_iast X V k12 i13 dX0_reset_26 (fun H locs V => ?_)
      refine lv_iinc (v := (x1 + (1 : Int32))) (lv' := [(1, .int (x1 + (1 : Int32))), (0, .ref b0)]) X.1.1 X.1.2.1 dX0_reset_27 hl (k := 1) rfl (congrArg (HAdd.hAdd _) (by decide)) (by decide) rfl (fun ls hl => ?_)
      refine lv_goto (tgt := 14) X.1.1 X.1.2.1 dX0_reset_30 (by decide) ?_
      exact ih (sai S o10 x1.toNatClampNeg (0 : Int32)) b0 (x1 + (1 : Int32)) h _ _ _ V (lv_sub hl [1, 0] rfl)
def wp_X0_reset (post : Unit → HS → Prop) (S : HS) (a0 : Nat) : Prop := kd S a0 = 2 ∧ (∃ o2 : Nat, fr S 4 a0 = some o2 ∧ (kd S o2 = 1 ∧ (wp_Jx4a65c_clear_da8c8 (fun _ S5 => ∃ n9, wp_X0_reset_14 n9 post (sfi S5 6 a0 (0 : Int32)) a0 (0 : Int32)) S o2)))
set_option maxHeartbeats 400000 in
set_option maxRecDepth 100000 in
theorem sd_X0_reset (l : Launch) (D : va_G) (ka : Nat → ClassId) (sz : Nat) (Z : HS) (post : Unit → HS → Prop) (a0 : Nat) (h : wp_X0_reset post Z a0) : Met l yX0_reset [Cond.code yX0_reset cX0_reset 2 none] rm_X0_reset (Px D ka Z sz [.ref a0]) (Qx eV post D ka Z sz) 0 0 (fA Z sz) := by
  refine Met.ofW (cc := cX0_reset) (maxL := 2) (ret := none) (by decide) rfl ?_
  intro p e s m args below meth c s₁ B hml hv
  obtain ⟨rfl, X, V, hsz⟩ := Cx.entry B hml hv
  have hr : meth.sig.returnType = none := B.returns
  have hl := lv_entry ([.ref a0]) (n := 2) (Nat.le_of_ble_eq_true rfl)
  rw [lg_entry_eq]
  generalize (lg_sl ([.ref a0]) ++ List.replicate (2 - (lg_sl ([.ref a0])).length) Slot.unset).toArray = ls at hl ⊢
  have hl : lv_has ls 2 [(0, .ref a0)] := hl
  have h : wp_X0_reset post Z a0 := h
  refine lv_aload_n X.1.1 X.1.2.1 dX0_reset_0 rfl (lv_at hl 0 rfl) ?_
  obtain ⟨k1, h⟩ := h
  obtain ⟨o2, e3, h⟩ := h
  refine gf_X0_12 X V k1 e3 dX0_reset_1 ?_
  obtain ⟨k4, h⟩ := h
  refine r_callV (k := 1) (n := 0) (As := []) X V (sd_Jx4a65c_clear_da8c8 l D ka _ Z _ o2 h) k4 (by decide) (by decide) rfl wd_103 wd_104 wd_39 wd_105 wd_106 rfl rfl (by decide +kernel) ⟨Nat.le_of_ble_eq_true rfl, Nat.le_of_ble_eq_true rfl⟩ rfl hl.1 rfl (Nat.le_of_ble_eq_true rfl) dX0_reset_4 ⟨show 0 ≤ 0 by omega, show 0 ≤ 0 by omega⟩ (fun r6 S5 H locs h m7 V => ?_)
  have k1 := m7.k k1 (by decide)
  have k4 := m7.k k4 (by decide)
  refine lv_aload_n X.1.1 X.1.2.1 dX0_reset_7 rfl (lv_at hl 0 rfl) ?_
  refine lv_iconst (v := (0 : Int32)) X.1.1 X.1.2.1 dX0_reset_8 (by decide) ?_
  refine pf_X0_29 X V k1 dX0_reset_9 (fun H locs V => ?_)
  refine lv_iconst (v := (0 : Int32)) X.1.1 X.1.2.1 dX0_reset_12 (by decide) ?_
  refine lv_istore_n (lv' := [(1, .int (0 : Int32)), (0, .ref a0)]) X.1.1 X.1.2.1 dX0_reset_13 rfl hl (by decide) rfl (fun ls hl => ?_)
  obtain ⟨n9, h⟩ := h
  exact sl_X0_reset_14 l D ka sz Z post X hr n9 (sfi S5 6 a0 (0 : Int32)) a0 (0 : Int32) h _ _ _ V (lv_sub hl [1, 0] rfl)
abbrev rm_X0_chooseWay : Room := { frames := 0, cells := 0, slots := 0, locals := 0 }
def wp_X0_chooseWay (post : Unit → HS → Prop) (S : HS) (a0 : Nat) (v1 : Int32) (v2 : Int32) : Prop := ((v1 < 0 → post () S) ∧ (¬ v1 < 0 → (((8 : Int32) ≤ v1 → post () S) ∧ (¬ (8 : Int32) ≤ v1 → kd S a0 = 2 ∧ (∃ o4 : Nat, fr S 5 a0 = some o4 ∧ (kd S o4 / 32 = 1 ∧ (vp_in v1 (ln S o4) ∧ (post () (sai S o4 v1.toNatClampNeg v2)))))))))
set_option maxHeartbeats 400000 in
set_option maxRecDepth 100000 in
theorem sd_X0_chooseWay (l : Launch) (D : va_G) (ka : Nat → ClassId) (sz : Nat) (Z : HS) (post : Unit → HS → Prop) (a0 : Nat) (v1 : Int32) (v2 : Int32) (h : wp_X0_chooseWay post Z a0 v1 v2) : Met l yX0_chooseWay [Cond.code yX0_chooseWay cX0_chooseWay 3 none] rm_X0_chooseWay (Px D ka Z sz [.ref a0, .int v1, .int v2]) (Qx eV post D ka Z sz) 0 0 (fA Z sz) := by
  refine Met.ofW (cc := cX0_chooseWay) (maxL := 3) (ret := none) (by decide) rfl ?_
  intro p e s m args below meth c s₁ B hml hv
  obtain ⟨rfl, X, V, hsz⟩ := Cx.entry B hml hv
  have hr : meth.sig.returnType = none := B.returns
  have hl := lv_entry ([.ref a0, .int v1, .int v2]) (n := 3) (Nat.le_of_ble_eq_true rfl)
  rw [lg_entry_eq]
  generalize (lg_sl ([.ref a0, .int v1, .int v2]) ++ List.replicate (3 - (lg_sl ([.ref a0, .int v1, .int v2])).length) Slot.unset).toArray = ls at hl ⊢
  have hl : lv_has ls 3 [(0, .ref a0), (1, .int v1), (2, .int v2)] := hl
  have h : wp_X0_chooseWay post Z a0 v1 v2 := h
  refine lv_iload_n X.1.1 X.1.2.1 dX0_chooseWay_0 rfl (lv_at hl 1 rfl) ?_
  refine lv_if_lt (tgt := 17) X.1.1 X.1.2.1 dX0_chooseWay_1 (by decide) (fun c1 => ?_) (fun c1 => ?_)
  · have h := h.1 c1
    exact W.vret X.1.1 X.1.2.1 hr (fun t ht _ => V.q (r := ()) h ht) V.2.1.2.2 dX0_chooseWay_17 X.1.2.2.2.2
  · have h := h.2 c1
    refine lv_iload_n X.1.1 X.1.2.1 dX0_chooseWay_4 rfl (lv_at hl 1 rfl) ?_
    refine lv_bipush (v := (8 : Int32)) X.1.1 X.1.2.1 dX0_chooseWay_5 (by decide) ?_
    refine lv_icmp_ge (tgt := 17) X.1.1 X.1.2.1 dX0_chooseWay_7 (by decide) (fun c2 => ?_) (fun c2 => ?_)
    · have h := h.1 c2
      exact W.vret X.1.1 X.1.2.1 hr (fun t ht _ => V.q (r := ()) h ht) V.2.1.2.2 dX0_chooseWay_17 X.1.2.2.2.2
    · have h := h.2 c2
      refine lv_aload_n X.1.1 X.1.2.1 dX0_chooseWay_10 rfl (lv_at hl 0 rfl) ?_
      obtain ⟨k3, h⟩ := h
      obtain ⟨o4, e5, h⟩ := h
      refine gf_X0_18 X V k3 e5 dX0_chooseWay_11 ?_
      refine lv_iload_n X.1.1 X.1.2.1 dX0_chooseWay_14 rfl (lv_at hl 1 rfl) ?_
      refine lv_iload_n X.1.1 X.1.2.1 dX0_chooseWay_15 rfl (lv_at hl 2 rfl) ?_
      obtain ⟨k6, h⟩ := h
      obtain ⟨i7, h⟩ := h
      refine r_iast X V k6 i7 dX0_chooseWay_16 (fun H locs V => ?_)
      exact W.vret X.1.1 X.1.2.1 hr (fun t ht _ => V.q (r := ()) h ht) V.2.1.2.2 dX0_chooseWay_17 X.1.2.2.2.2
abbrev rm_X0_wayTo : Room := { frames := 0, cells := 0, slots := 0, locals := 0 }
def wp_X0_wayTo (post : Int32 → HS → Prop) (S : HS) (a0 : Nat) (v1 : Int32) : Prop := ((v1 < 0 → post (0 : Int32) S) ∧ (¬ v1 < 0 → (((8 : Int32) ≤ v1 → post (0 : Int32) S) ∧ (¬ (8 : Int32) ≤ v1 → kd S a0 = 2 ∧ (∃ o4 : Nat, fr S 5 a0 = some o4 ∧ (kd S o4 / 32 = 1 ∧ (vp_in v1 (ln S o4) ∧ (post (ai S o4 v1.toNatClampNeg) S))))))))
set_option maxHeartbeats 400000 in
set_option maxRecDepth 100000 in
theorem sd_X0_wayTo (l : Launch) (D : va_G) (ka : Nat → ClassId) (sz : Nat) (Z : HS) (post : Int32 → HS → Prop) (a0 : Nat) (v1 : Int32) (h : wp_X0_wayTo post Z a0 v1) : Met l yX0_wayTo [Cond.code yX0_wayTo cX0_wayTo 2 (some .int)] rm_X0_wayTo (Px D ka Z sz [.ref a0, .int v1]) (Qx eI post D ka Z sz) 0 0 (fA Z sz) := by
  refine Met.ofW (cc := cX0_wayTo) (maxL := 2) (ret := (some .int)) (by decide) rfl ?_
  intro p e s m args below meth c s₁ B hml hv
  obtain ⟨rfl, X, V, hsz⟩ := Cx.entry B hml hv
  have hr : meth.sig.returnType = (some .int) := B.returns
  have hl := lv_entry ([.ref a0, .int v1]) (n := 2) (Nat.le_of_ble_eq_true rfl)
  rw [lg_entry_eq]
  generalize (lg_sl ([.ref a0, .int v1]) ++ List.replicate (2 - (lg_sl ([.ref a0, .int v1])).length) Slot.unset).toArray = ls at hl ⊢
  have hl : lv_has ls 2 [(0, .ref a0), (1, .int v1)] := hl
  have h : wp_X0_wayTo post Z a0 v1 := h
  refine lv_iload_n X.1.1 X.1.2.1 dX0_wayTo_0 rfl (lv_at hl 1 rfl) ?_
  refine lv_if_lt (tgt := 19) X.1.1 X.1.2.1 dX0_wayTo_1 (by decide) (fun c1 => ?_) (fun c1 => ?_)
  · have h := h.1 c1
    refine lv_iconst (v := (0 : Int32)) X.1.1 X.1.2.1 dX0_wayTo_19 (by decide) ?_
    exact W.iret X.1.1 X.1.2.1 hr (fun t ht _ => V.q (r := (0 : Int32)) h ht) V.2.1.2.2 dX0_wayTo_20 X.1.2.2.2.2
  · have h := h.2 c1
    refine lv_iload_n X.1.1 X.1.2.1 dX0_wayTo_4 rfl (lv_at hl 1 rfl) ?_
    refine lv_bipush (v := (8 : Int32)) X.1.1 X.1.2.1 dX0_wayTo_5 (by decide) ?_
    refine lv_icmp_ge (tgt := 19) X.1.1 X.1.2.1 dX0_wayTo_7 (by decide) (fun c2 => ?_) (fun c2 => ?_)
    · have h := h.1 c2
      refine lv_iconst (v := (0 : Int32)) X.1.1 X.1.2.1 dX0_wayTo_19 (by decide) ?_
      exact W.iret X.1.1 X.1.2.1 hr (fun t ht _ => V.q (r := (0 : Int32)) h ht) V.2.1.2.2 dX0_wayTo_20 X.1.2.2.2.2
    · have h := h.2 c2
      refine lv_aload_n X.1.1 X.1.2.1 dX0_wayTo_10 rfl (lv_at hl 0 rfl) ?_
      obtain ⟨k3, h⟩ := h
      obtain ⟨o4, e5, h⟩ := h
      refine gf_X0_18 X V k3 e5 dX0_wayTo_11 ?_
      refine lv_iload_n X.1.1 X.1.2.1 dX0_wayTo_14 rfl (lv_at hl 1 rfl) ?_
      obtain ⟨k6, h⟩ := h
      obtain ⟨i7, h⟩ := h
      refine r_iald X V k6 i7 dX0_wayTo_15 ?_
      refine lv_goto (tgt := 20) X.1.1 X.1.2.1 dX0_wayTo_16 (by decide) ?_
      exact W.iret X.1.1 X.1.2.1 hr (fun t ht _ => V.q (r := (ai Z o4 v1.toNatClampNeg)) h ht) V.2.1.2.2 dX0_wayTo_20 X.1.2.2.2.2
abbrev rm_X0_isFull : Room := { frames := 1, cells := 0, slots := 0, locals := 20 }
def wp_X0_isFull (post : Int32 → HS → Prop) (S : HS) (a0 : Nat) : Prop := kd S a0 = 2 ∧ (∃ o2 : Nat, fr S 4 a0 = some o2 ∧ (kd S o2 = 1 ∧ (wp_Jx4a65c_size_8abf5 (fun r6 S5 => ((r6 < (24 : Int32) → post (0 : Int32) S5) ∧ (¬ r6 < (24 : Int32) → post (1 : Int32) S5))) S o2)))
set_option maxHeartbeats 400000 in
set_option maxRecDepth 100000 in
theorem sd_X0_isFull (l : Launch) (D : va_G) (ka : Nat → ClassId) (sz : Nat) (Z : HS) (post : Int32 → HS → Prop) (a0 : Nat) (h : wp_X0_isFull post Z a0) : Met l yX0_isFull [Cond.code yX0_isFull cX0_isFull 1 (some .boolean)] rm_X0_isFull (Px D ka Z sz [.ref a0]) (Qx eI post D ka Z sz) 0 0 (fA Z sz) := by
  refine Met.ofW (cc := cX0_isFull) (maxL := 1) (ret := (some .boolean)) (by decide) rfl ?_
  intro p e s m args below meth c s₁ B hml hv
  obtain ⟨rfl, X, V, hsz⟩ := Cx.entry B hml hv
  have hr : meth.sig.returnType = (some .boolean) := B.returns
  have hl := lv_entry ([.ref a0]) (n := 1) (Nat.le_of_ble_eq_true rfl)
  rw [lg_entry_eq]
  generalize (lg_sl ([.ref a0]) ++ List.replicate (1 - (lg_sl ([.ref a0])).length) Slot.unset).toArray = ls at hl ⊢
  have hl : lv_has ls 1 [(0, .ref a0)] := hl
  have h : wp_X0_isFull post Z a0 := h
  refine lv_aload_n X.1.1 X.1.2.1 dX0_isFull_0 rfl (lv_at hl 0 rfl) ?_
  obtain ⟨k1, h⟩ := h
  obtain ⟨o2, e3, h⟩ := h
  refine gf_X0_12 X V k1 e3 dX0_isFull_1 ?_
  obtain ⟨k4, h⟩ := h
  refine r_callV (k := 1) (n := 0) (As := []) X V (sd_Jx4a65c_size_8abf5 l D ka _ Z _ o2 h) k4 (by decide) (by decide) rfl wd_108 wd_109 wd_39 wd_110 wd_111 rfl rfl (by decide +kernel) ⟨Nat.le_of_ble_eq_true rfl, Nat.le_of_ble_eq_true rfl⟩ rfl hl.1 rfl (Nat.le_of_ble_eq_true rfl) dX0_isFull_4 ⟨show 0 ≤ 0 by omega, show 0 ≤ 0 by omega⟩ (fun r6 S5 H locs h m7 V => ?_)
  have k1 := m7.k k1 (by decide)
  have k4 := m7.k k4 (by decide)
  refine lv_bipush (v := (24 : Int32)) X.1.1 X.1.2.1 dX0_isFull_7 (by decide) ?_
  refine lv_icmp_lt (tgt := 16) X.1.1 X.1.2.1 dX0_isFull_9 (by decide) (fun c8 => ?_) (fun c8 => ?_)
  · have h := h.1 c8
    refine lv_iconst (v := (0 : Int32)) X.1.1 X.1.2.1 dX0_isFull_16 (by decide) ?_
    exact W.zret X.1.1 X.1.2.1 hr (by decide) (fun t ht _ => V.q (r := (0 : Int32)) h ht) V.2.1.2.2 dX0_isFull_17 X.1.2.2.2.2
  · have h := h.2 c8
    refine lv_iconst (v := (1 : Int32)) X.1.1 X.1.2.1 dX0_isFull_12 (by decide) ?_
    refine lv_goto (tgt := 17) X.1.1 X.1.2.1 dX0_isFull_13 (by decide) ?_
    exact W.zret X.1.1 X.1.2.1 hr (by decide) (fun t ht _ => V.q (r := (1 : Int32)) h ht) V.2.1.2.2 dX0_isFull_17 X.1.2.2.2.2
abbrev rm_X0_knownAt : Room := { frames := 3, cells := 0, slots := 0, locals := 64 }
def wp_X0_knownAt (post : (Option Nat) → HS → Prop) (S : HS) (a0 : Nat) (v1 : Int32) : Prop := ((v1 < 0 → post none S) ∧ (¬ v1 < 0 → kd S a0 = 2 ∧ (∃ o3 : Nat, fr S 4 a0 = some o3 ∧ (kd S o3 = 1 ∧ (wp_Jx4a65c_size_8abf5 (fun r7 S6 => ((v1 < r7 → ∃ o10 : Nat, fr S6 4 a0 = some o10 ∧ (kd S6 o10 = 1 ∧ (wp_Jx4a65c_get_915e3 (fun r14 S13 => ∃ o16 : Nat, r14 = some o16 ∧ (kd S13 o16 = 3 ∧ (post (some o16) S13))) S6 o10 v1))) ∧ (¬ v1 < r7 → post none S6))) S o3)))))
set_option maxHeartbeats 400000 in
set_option maxRecDepth 100000 in
theorem sd_X0_knownAt (l : Launch) (D : va_G) (ka : Nat → ClassId) (sz : Nat) (Z : HS) (post : (Option Nat) → HS → Prop) (a0 : Nat) (v1 : Int32) (h : wp_X0_knownAt post Z a0 v1) : Met l yX0_knownAt [Cond.code yX0_knownAt cX0_knownAt 2 (some (.object "OverlayFabric$Known"))] rm_X0_knownAt (Px D ka Z sz [.ref a0, .int v1]) (Qx eR post D ka Z sz) 0 0 (fA Z sz) := by
  refine Met.ofW (cc := cX0_knownAt) (maxL := 2) (ret := (some (.object "OverlayFabric$Known"))) (by decide) rfl ?_
  intro p e s m args below meth c s₁ B hml hv
  obtain ⟨rfl, X, V, hsz⟩ := Cx.entry B hml hv
  have hr : meth.sig.returnType = (some (.object "OverlayFabric$Known")) := B.returns
  have hl := lv_entry ([.ref a0, .int v1]) (n := 2) (Nat.le_of_ble_eq_true rfl)
  rw [lg_entry_eq]
  generalize (lg_sl ([.ref a0, .int v1]) ++ List.replicate (2 - (lg_sl ([.ref a0, .int v1])).length) Slot.unset).toArray = ls at hl ⊢
  have hl : lv_has ls 2 [(0, .ref a0), (1, .int v1)] := hl
  have h : wp_X0_knownAt post Z a0 v1 := h
  refine lv_iload_n X.1.1 X.1.2.1 dX0_knownAt_0 rfl (lv_at hl 1 rfl) ?_
  refine lv_if_lt (tgt := 15) X.1.1 X.1.2.1 dX0_knownAt_1 (by decide) (fun c1 => ?_) (fun c1 => ?_)
  · have h := h.1 c1
    refine lv_null X.1.1 X.1.2.1 dX0_knownAt_15 ?_
    refine lv_goto (tgt := 30) X.1.1 X.1.2.1 dX0_knownAt_16 (by decide) ?_
    exact W.aret X.1.1 X.1.2.1 hr (Or.inl ⟨_, rfl⟩) (Or.inl rfl) (fun t ht _ => V.q (r := none) h ht) V.2.1.2.2 dX0_knownAt_30 X.1.2.2.2.2
  · have h := h.2 c1
    refine lv_iload_n X.1.1 X.1.2.1 dX0_knownAt_4 rfl (lv_at hl 1 rfl) ?_
    refine lv_aload_n X.1.1 X.1.2.1 dX0_knownAt_5 rfl (lv_at hl 0 rfl) ?_
    obtain ⟨k2, h⟩ := h
    obtain ⟨o3, e4, h⟩ := h
    refine gf_X0_12 X V k2 e4 dX0_knownAt_6 ?_
    obtain ⟨k5, h⟩ := h
    refine r_callV (k := 1) (n := 0) (As := []) X V (sd_Jx4a65c_size_8abf5 l D ka _ Z _ o3 h) k5 (by decide) (by decide) rfl wd_108 wd_109 wd_39 wd_110 wd_111 rfl rfl (by decide +kernel) ⟨Nat.le_of_ble_eq_true rfl, Nat.le_of_ble_eq_true rfl⟩ rfl hl.1 rfl (Nat.le_of_ble_eq_true rfl) dX0_knownAt_9 ⟨show 0 ≤ 0 by omega, show 0 ≤ 0 by omega⟩ (fun r7 S6 H locs h m8 V => ?_)
    have k2 := m8.k k2 (by decide)
    have k5 := m8.k k5 (by decide)
    refine lv_icmp_lt (tgt := 19) X.1.1 X.1.2.1 dX0_knownAt_12 (by decide) (fun c9 => ?_) (fun c9 => ?_)
    · have h := h.1 c9
      refine lv_aload_n X.1.1 X.1.2.1 dX0_knownAt_19 rfl (lv_at hl 0 rfl) ?_
      obtain ⟨o10, e11, h⟩ := h
      refine gf_X0_12 X V k2 e11 dX0_knownAt_20 ?_
      refine lv_iload_n X.1.1 X.1.2.1 dX0_knownAt_23 rfl (lv_at hl 1 rfl) ?_
      obtain ⟨k12, h⟩ := h
      refine r_callV (k := 1) (n := 1) (As := [.int v1]) X V (sd_Jx4a65c_get_915e3 l D ka _ S6 _ o10 v1 h) k12 (by decide) (by decide) rfl wd_112 wd_113 wd_39 wd_114 wd_115 rfl rfl (by decide +kernel) ⟨Nat.le_of_ble_eq_true rfl, Nat.le_of_ble_eq_true rfl⟩ rfl hl.1 rfl (Nat.le_of_ble_eq_true rfl) dX0_knownAt_24 ⟨show 0 ≤ 0 by omega, show 0 ≤ 0 by omega⟩ (fun r14 S13 H locs h m15 V => ?_)
      have k2 := m15.k k2 (by decide)
      have k5 := m15.k k5 (by decide)
      have k12 := m15.k k12 (by decide)
      obtain ⟨o16, e17, h⟩ := h
      subst e17
      obtain ⟨k18, h⟩ := h
      refine r_cast X V k18 (by decide) (by decide) wd_116 dX0_knownAt_27 ?_
      exact W.aret X.1.1 X.1.2.1 hr (Or.inl ⟨_, rfl⟩) (Or.inr ⟨_, rfl⟩) (fun t ht _ => V.q (r := (some o16)) h ht) V.2.1.2.2 dX0_knownAt_30 X.1.2.2.2.2
    · have h := h.2 c9
      refine lv_null X.1.1 X.1.2.1 dX0_knownAt_15 ?_
      refine lv_goto (tgt := 30) X.1.1 X.1.2.1 dX0_knownAt_16 (by decide) ?_
      exact W.aret X.1.1 X.1.2.1 hr (Or.inl ⟨_, rfl⟩) (Or.inl rfl) (fun t ht _ => V.q (r := none) h ht) V.2.1.2.2 dX0_knownAt_30 X.1.2.2.2.2
abbrev rm_X0_find : Room := { frames := 4, cells := 0, slots := 0, locals := 85 }
def wp_X0_find_3 : Nat → (Int32 → HS → Prop) → HS → Nat → Int32 → Int64 → Int32 → Prop
  | 0, _, _, _, _, _, _ => False
  | n + 1, post, S, b0, x1, y2, x4 => kd S b0 = 2 ∧ (∃ o2 : Nat, fr S 4 b0 = some o2 ∧ (kd S o2 = 1 ∧ (wp_Jx4a65c_size_8abf5 (fun r6 S5 => ((r6 ≤ x4 → post (-1 : Int32) S5) ∧ (¬ r6 ≤ x4 → wp_X0_knownAt (fun r10 S9 => ((r10 = none → wp_X0_find_3 n post S9 b0 x1 y2 (x4 + (1 : Int32))) ∧ (∀ o12 : Nat, r10 = some o12 → kd S9 o12 = 3 ∧ (((¬ (fi S9 7 o12) = x1 → wp_X0_find_3 n post S9 b0 x1 y2 (x4 + (1 : Int32))) ∧ ((fi S9 7 o12) = x1 → ((¬ (lg_cmp (fl S9 8 o12) y2) = 0 → wp_X0_find_3 n post S9 b0 x1 y2 (x4 + (1 : Int32))) ∧ ((lg_cmp (fl S9 8 o12) y2) = 0 → post x4 S9)))))))) S5 b0 x4))) S o2)))
set_option maxHeartbeats 400000 in
set_option maxRecDepth 100000 in
theorem sl_X0_find_3 (l : Launch) (D : va_G) (ka : Nat → ClassId) (sz : Nat) (Z : HS) (post : Int32 → HS → Prop) {p : Program} {e : Env} {s : State} {m : MethodId} {args : Array Value} {below : List Frame} {meth : Method} {c : Code} (X : Cx p s m meth c cX0_find 6 RX0 D ka Z (fA Z sz)) (hr : meth.sig.returnType = (some .int))  : ∀ (n : Nat), ∀ (S : HS) (b0 : Nat) (x1 : Int32) (y2 : Int64) (x4 : Int32), wp_X0_find_3 n post S b0 x1 y2 x4 → ∀ (H : Heap) (locs : List Loc) (ls : Array Slot), Hv D ka Z s (fA Z sz) S H locs → lv_has ls 6 [(0, .ref b0), (1, .int x1), (2, .long y2), (4, .int x4)] → W p l e rm_X0_find s m args below meth c H locs 0 0 (MQ below (Qx eI post D ka Z sz) args s 0 0 (fA Z sz)) (F0 m 3 ls []) := by
  intro n
  induction n with
  | zero => intro S b0 x1 y2 x4 h; exact h.elim
  | succ n ih =>
    intro S b0 x1 y2 x4 h H locs ls V hl
    refine lv_iload X.1.1 X.1.2.1 dX0_find_3 (lv_at hl 3 rfl) ?_
    refine lv_aload_n X.1.1 X.1.2.1 dX0_find_5 rfl (lv_at hl 0 rfl) ?_
    obtain ⟨k1, h⟩ := h
    obtain ⟨o2, e3, h⟩ := h
    refine gf_X0_12 X V k1 e3 dX0_find_6 ?_
    obtain ⟨k4, h⟩ := h
    refine r_callV (k := 1) (n := 0) (As := []) X V (sd_Jx4a65c_size_8abf5 l D ka _ S _ o2 h) k4 (by decide) (by decide) rfl wd_108 wd_109 wd_39 wd_110 wd_111 rfl rfl (by decide +kernel) ⟨Nat.le_of_ble_eq_true rfl, Nat.le_of_ble_eq_true rfl⟩ rfl hl.1 rfl (Nat.le_of_ble_eq_true rfl) dX0_find_9 ⟨show 0 ≤ 0 by omega, show 0 ≤ 0 by omega⟩ (fun r6 S5 H locs h m7 V => ?_)
    have k1 := m7.k k1 (by decide)
    have k4 := m7.k k4 (by decide)
    refine lv_icmp_ge (tgt := 56) X.1.1 X.1.2.1 dX0_find_12 (by decide) (fun c8 => ?_) (fun c8 => ?_)
    · have h := h.1 c8
      refine lv_iconst (v := (-1 : Int32)) X.1.1 X.1.2.1 dX0_find_56 (by decide) ?_
      exact W.iret X.1.1 X.1.2.1 hr (fun t ht _ => V.q (r := (-1 : Int32)) h ht) V.2.1.2.2 dX0_find_57 X.1.2.2.2.2
    · have h := h.2 c8
      refine lv_aload_n X.1.1 X.1.2.1 dX0_find_15 rfl (lv_at hl 0 rfl) ?_
      refine lv_iload X.1.1 X.1.2.1 dX0_find_16 (lv_at hl 3 rfl) ?_
      refine r_callV (k := 2) (n := 1) (As := [.int x4]) X V (sd_X0_knownAt l D ka _ S5 _ b0 x4 h) k1 (by decide) (by decide) rfl wd_117 wd_118 wd_119 wd_120 wd_121 rfl rfl (by decide +kernel) ⟨Nat.le_of_ble_eq_true rfl, Nat.le_of_ble_eq_true rfl⟩ rfl hl.1 rfl (Nat.le_of_ble_eq_true rfl) dX0_find_18 ⟨show 0 ≤ 0 by omega, show 0 ≤ 0 by omega⟩ (fun r10 S9 H locs h m11 V => ?_)
      have k1 := m11.k k1 (by decide)
      have k4 := m11.k k4 (by decide)
      cases r10 with
      | none =>
        have h := h.1 rfl
        refine lv_astoreN (lv' := [(5, .null), (0, .ref b0), (1, .int x1), (2, .long y2), (4, .int x4)]) X.1.1 X.1.2.1 dX0_find_21 hl (by decide) rfl (fun ls hl => ?_)
        refine lv_aloadN X.1.1 X.1.2.1 dX0_find_23 (lv_at hl 0 rfl) ?_
        refine lv_ifnullN (tgt := 50) X.1.1 X.1.2.1 dX0_find_25 (by decide) ?_
        refine lv_iinc (v := (x4 + (1 : Int32))) (lv' := [(4, .int (x4 + (1 : Int32))), (5, .null), (0, .ref b0), (1, .int x1), (2, .long y2)]) X.1.1 X.1.2.1 dX0_find_50 hl (k := 4) rfl (congrArg (HAdd.hAdd _) (by decide)) (by decide) rfl (fun ls hl => ?_)
        refine lv_goto (tgt := 3) X.1.1 X.1.2.1 dX0_find_53 (by decide) ?_
        exact ih S9 b0 x1 y2 (x4 + (1 : Int32)) h _ _ _ V (lv_sub hl [2, 3, 4, 0] rfl)
      | some o12 =>
        have h := h.2 o12 rfl
        refine lv_astore (lv' := [(5, .ref o12), (0, .ref b0), (1, .int x1), (2, .long y2), (4, .int x4)]) X.1.1 X.1.2.1 dX0_find_21 hl (by decide) rfl (fun ls hl => ?_)
        refine lv_aload X.1.1 X.1.2.1 dX0_find_23 (lv_at hl 0 rfl) ?_
        refine lv_ifnull X.1.1 X.1.2.1 dX0_find_25 ?_
        refine lv_aload X.1.1 X.1.2.1 dX0_find_28 (lv_at hl 0 rfl) ?_
        obtain ⟨k14, h⟩ := h
        refine gf_X0_48 X V k14 dX0_find_30 ?_
        refine lv_iload_n X.1.1 X.1.2.1 dX0_find_33 rfl (lv_at hl 2 rfl) ?_
        refine lv_icmp_ne (tgt := 50) X.1.1 X.1.2.1 dX0_find_34 (by decide) (fun c15 => ?_) (fun c15 => ?_)
        · have h := h.1 c15
          refine lv_iinc (v := (x4 + (1 : Int32))) (lv' := [(4, .int (x4 + (1 : Int32))), (5, .ref o12), (0, .ref b0), (1, .int x1), (2, .long y2)]) X.1.1 X.1.2.1 dX0_find_50 hl (k := 4) rfl (congrArg (HAdd.hAdd _) (by decide)) (by decide) rfl (fun ls hl => ?_)
          refine lv_goto (tgt := 3) X.1.1 X.1.2.1 dX0_find_53 (by decide) ?_
          exact ih S9 b0 x1 y2 (x4 + (1 : Int32)) h _ _ _ V (lv_sub hl [2, 3, 4, 0] rfl)
        · have h := h.2 c15
          refine lv_aload X.1.1 X.1.2.1 dX0_find_37 (lv_at hl 0 rfl) ?_
          refine gf_X0_51 X V k14 dX0_find_39 ?_
          refine lv_lload_n X.1.1 X.1.2.1 dX0_find_42 rfl (lv_at hl 3 rfl) ?_
          refine W.lcmp X.1.1 X.1.2.1 dX0_find_43 ?_
          refine lv_if_ne (tgt := 50) X.1.1 X.1.2.1 dX0_find_44 (by decide) (fun c16 => ?_) (fun c16 => ?_)
          · have h := h.1 c16
            refine lv_iinc (v := (x4 + (1 : Int32))) (lv' := [(4, .int (x4 + (1 : Int32))), (5, .ref o12), (0, .ref b0), (1, .int x1), (2, .long y2)]) X.1.1 X.1.2.1 dX0_find_50 hl (k := 4) rfl (congrArg (HAdd.hAdd _) (by decide)) (by decide) rfl (fun ls hl => ?_)
            refine lv_goto (tgt := 3) X.1.1 X.1.2.1 dX0_find_53 (by decide) ?_
            exact ih S9 b0 x1 y2 (x4 + (1 : Int32)) h _ _ _ V (lv_sub hl [2, 3, 4, 0] rfl)
          · have h := h.2 c16
            refine lv_iload X.1.1 X.1.2.1 dX0_find_47 (lv_at hl 4 rfl) ?_
            exact W.iret X.1.1 X.1.2.1 hr (fun t ht _ => V.q (r := x4) h ht) V.2.1.2.2 dX0_find_49 X.1.2.2.2.2
def wp_X0_find (post : Int32 → HS → Prop) (S : HS) (a0 : Nat) (v1 : Int32) (w2 : Int64) : Prop := ∃ n9, wp_X0_find_3 n9 post S a0 v1 w2 (0 : Int32)
set_option maxHeartbeats 400000 in
set_option maxRecDepth 100000 in
theorem sd_X0_find (l : Launch) (D : va_G) (ka : Nat → ClassId) (sz : Nat) (Z : HS) (post : Int32 → HS → Prop) (a0 : Nat) (v1 : Int32) (w2 : Int64) (h : wp_X0_find post Z a0 v1 w2) : Met l yX0_find [Cond.code yX0_find cX0_find 6 (some .int)] rm_X0_find (Px D ka Z sz [.ref a0, .int v1, .long w2]) (Qx eI post D ka Z sz) 0 0 (fA Z sz) := by
  refine Met.ofW (cc := cX0_find) (maxL := 6) (ret := (some .int)) (by decide) rfl ?_
  intro p e s m args below meth c s₁ B hml hv
  obtain ⟨rfl, X, V, hsz⟩ := Cx.entry B hml hv
  have hr : meth.sig.returnType = (some .int) := B.returns
  have hl := lv_entry ([.ref a0, .int v1, .long w2]) (n := 6) (Nat.le_of_ble_eq_true rfl)
  rw [lg_entry_eq]
  generalize (lg_sl ([.ref a0, .int v1, .long w2]) ++ List.replicate (6 - (lg_sl ([.ref a0, .int v1, .long w2])).length) Slot.unset).toArray = ls at hl ⊢
  have hl : lv_has ls 6 [(0, .ref a0), (1, .int v1), (2, .long w2)] := hl
  have h : wp_X0_find post Z a0 v1 w2 := h
  refine lv_iconst (v := (0 : Int32)) X.1.1 X.1.2.1 dX0_find_0 (by decide) ?_
  refine lv_istore (lv' := [(4, .int (0 : Int32)), (0, .ref a0), (1, .int v1), (2, .long w2)]) X.1.1 X.1.2.1 dX0_find_1 hl (by decide) rfl (fun ls hl => ?_)
  obtain ⟨n9, h⟩ := h
  exact sl_X0_find_3 l D ka sz Z post X hr n9 Z a0 v1 w2 (0 : Int32) h _ _ _ V (lv_sub hl [1, 2, 3, 0] rfl)
abbrev rm_X5_isGroup : Room := { frames := 0, cells := 0, slots := 0, locals := 0 }
def wp_X5_isGroup (post : Int32 → HS → Prop) (S : HS) (w0 : Int64) : Prop := (((lg_cmp ((w0.toUInt64 >>> ((40 : Int32).toInt64.toUInt64 &&& Int64.toUInt64 63)).toInt64 &&& (1 : Int64)) (0 : Int64)) = 0 → post (0 : Int32) S) ∧ (¬ (lg_cmp ((w0.toUInt64 >>> ((40 : Int32).toInt64.toUInt64 &&& Int64.toUInt64 63)).toInt64 &&& (1 : Int64)) (0 : Int64)) = 0 → post (1 : Int32) S))
set_option maxHeartbeats 400000 in
set_option maxRecDepth 100000 in
theorem sd_X5_isGroup (l : Launch) (D : va_G) (ka : Nat → ClassId) (sz : Nat) (Z : HS) (post : Int32 → HS → Prop) (w0 : Int64) (h : wp_X5_isGroup post Z w0) : Met l yX5_isGroup [Cond.code yX5_isGroup cX5_isGroup 2 (some .boolean)] rm_X5_isGroup (Px D ka Z sz [.long w0]) (Qx eI post D ka Z sz) 0 0 (fA Z sz) := by
  refine Met.ofW (cc := cX5_isGroup) (maxL := 2) (ret := (some .boolean)) (by decide) rfl ?_
  intro p e s m args below meth c s₁ B hml hv
  obtain ⟨rfl, X, V, hsz⟩ := Cx.entry B hml hv
  have hr : meth.sig.returnType = (some .boolean) := B.returns
  have hl := lv_entry ([.long w0]) (n := 2) (Nat.le_of_ble_eq_true rfl)
  rw [lg_entry_eq]
  generalize (lg_sl ([.long w0]) ++ List.replicate (2 - (lg_sl ([.long w0])).length) Slot.unset).toArray = ls at hl ⊢
  have hl : lv_has ls 2 [(0, .long w0)] := hl
  have h : wp_X5_isGroup post Z w0 := h
  refine lv_lload_n X.1.1 X.1.2.1 dX5_isGroup_0 rfl (lv_at hl 0 rfl) ?_
  refine lv_bipush (v := (40 : Int32)) X.1.1 X.1.2.1 dX5_isGroup_1 (by decide) ?_
  refine lv_lushr X.1.1 X.1.2.1 dX5_isGroup_3 rfl ?_
  refine lv_lconst (v := (1 : Int64)) X.1.1 X.1.2.1 dX5_isGroup_4 (by decide) ?_
  refine lv_land X.1.1 X.1.2.1 dX5_isGroup_5 ?_
  refine lv_lconst (v := (0 : Int64)) X.1.1 X.1.2.1 dX5_isGroup_6 (by decide) ?_
  refine W.lcmp X.1.1 X.1.2.1 dX5_isGroup_7 ?_
  refine lv_if_eq (tgt := 15) X.1.1 X.1.2.1 dX5_isGroup_8 (by decide) (fun c1 => ?_) (fun c1 => ?_)
  · have h := h.1 c1
    refine lv_iconst (v := (0 : Int32)) X.1.1 X.1.2.1 dX5_isGroup_15 (by decide) ?_
    exact W.zret X.1.1 X.1.2.1 hr (by decide) (fun t ht _ => V.q (r := (0 : Int32)) h ht) V.2.1.2.2 dX5_isGroup_16 X.1.2.2.2.2
  · have h := h.2 c1
    refine lv_iconst (v := (1 : Int32)) X.1.1 X.1.2.1 dX5_isGroup_11 (by decide) ?_
    refine lv_goto (tgt := 16) X.1.1 X.1.2.1 dX5_isGroup_12 (by decide) ?_
    exact W.zret X.1.1 X.1.2.1 hr (by decide) (fun t ht _ => V.q (r := (1 : Int32)) h ht) V.2.1.2.2 dX5_isGroup_16 X.1.2.2.2.2
abbrev rm_X0_whereIs : Room := { frames := 5, cells := 0, slots := 0, locals := 110 }
def wp_X0_whereIs (post : (Option Nat) → HS → Prop) (S : HS) (a0 : Nat) (v1 : Int32) (w2 : Int64) : Prop := wp_X5_isGroup (fun r2 S1 => ((r2 = 0 → kd S1 a0 = 2 ∧ (wp_X0_find (fun r7 S6 => wp_X0_knownAt (fun r10 S9 => ((r10 = none → post none S9) ∧ (∀ o12 : Nat, r10 = some o12 → post (some o12) S9))) S6 a0 r7) S1 a0 v1 w2)) ∧ (¬ r2 = 0 → post none S1))) S w2
set_option maxHeartbeats 400000 in
set_option maxRecDepth 100000 in
theorem sd_X0_whereIs (l : Launch) (D : va_G) (ka : Nat → ClassId) (sz : Nat) (Z : HS) (post : (Option Nat) → HS → Prop) (a0 : Nat) (v1 : Int32) (w2 : Int64) (h : wp_X0_whereIs post Z a0 v1 w2) : Met l yX0_whereIs [Cond.code yX0_whereIs cX0_whereIs 4 (some (.object "OverlayFabric$Known"))] rm_X0_whereIs (Px D ka Z sz [.ref a0, .int v1, .long w2]) (Qx eR post D ka Z sz) 0 0 (fA Z sz) := by
  refine Met.ofW (cc := cX0_whereIs) (maxL := 4) (ret := (some (.object "OverlayFabric$Known"))) (by decide) rfl ?_
  intro p e s m args below meth c s₁ B hml hv
  obtain ⟨rfl, X, V, hsz⟩ := Cx.entry B hml hv
  have hr : meth.sig.returnType = (some (.object "OverlayFabric$Known")) := B.returns
  have hl := lv_entry ([.ref a0, .int v1, .long w2]) (n := 4) (Nat.le_of_ble_eq_true rfl)
  rw [lg_entry_eq]
  generalize (lg_sl ([.ref a0, .int v1, .long w2]) ++ List.replicate (4 - (lg_sl ([.ref a0, .int v1, .long w2])).length) Slot.unset).toArray = ls at hl ⊢
  have hl : lv_has ls 4 [(0, .ref a0), (1, .int v1), (2, .long w2)] := hl
  have h : wp_X0_whereIs post Z a0 v1 w2 := h
  refine lv_lload_n X.1.1 X.1.2.1 dX0_whereIs_0 rfl (lv_at hl 2 rfl) ?_
  refine r_callS (n := 1) (As := [.long w2]) X V (sd_X5_isGroup l D ka _ Z _ w2 h) wd_124 wd_125 wd_126 wd_127 rfl rfl (by decide +kernel) ⟨Nat.le_of_ble_eq_true rfl, Nat.le_of_ble_eq_true rfl⟩ rfl hl.1 rfl (Nat.le_of_ble_eq_true rfl) dX0_whereIs_1 ⟨show 0 ≤ 0 by omega, show 0 ≤ 0 by omega⟩ (fun r2 S1 H locs h m3 V => ?_)
  refine lv_if_eq (tgt := 11) X.1.1 X.1.2.1 dX0_whereIs_4 (by decide) (fun c4 => ?_) (fun c4 => ?_)
  · have h := h.1 c4
    refine lv_aload_n X.1.1 X.1.2.1 dX0_whereIs_11 rfl (lv_at hl 0 rfl) ?_
    refine lv_aload_n X.1.1 X.1.2.1 dX0_whereIs_12 rfl (lv_at hl 0 rfl) ?_
    refine lv_iload_n X.1.1 X.1.2.1 dX0_whereIs_13 rfl (lv_at hl 1 rfl) ?_
    refine lv_lload_n X.1.1 X.1.2.1 dX0_whereIs_14 rfl (lv_at hl 2 rfl) ?_
    obtain ⟨k5, h⟩ := h
    refine r_callV (k := 2) (n := 2) (As := [.int v1, .long w2]) X V (sd_X0_find l D ka _ S1 _ a0 v1 w2 h) k5 (by decide) (by decide) rfl wd_128 wd_129 wd_119 wd_130 wd_131 rfl rfl (by decide +kernel) ⟨Nat.le_of_ble_eq_true rfl, Nat.le_of_ble_eq_true rfl⟩ rfl hl.1 rfl (Nat.le_of_ble_eq_true rfl) dX0_whereIs_15 ⟨show 0 ≤ 0 by omega, show 0 ≤ 0 by omega⟩ (fun r7 S6 H locs h m8 V => ?_)
    have k5 := m8.k k5 (by decide)
    refine r_callV (k := 2) (n := 1) (As := [.int r7]) X V (sd_X0_knownAt l D ka _ S6 _ a0 r7 h) k5 (by decide) (by decide) rfl wd_117 wd_118 wd_119 wd_120 wd_121 rfl rfl (by decide +kernel) ⟨Nat.le_of_ble_eq_true rfl, Nat.le_of_ble_eq_true rfl⟩ rfl hl.1 rfl (Nat.le_of_ble_eq_true rfl) dX0_whereIs_18 ⟨show 0 ≤ 0 by omega, show 0 ≤ 0 by omega⟩ (fun r10 S9 H locs h m11 V => ?_)
    have k5 := m11.k k5 (by decide)
    cases r10 with
    | none =>
      have h := h.1 rfl
      exact W.aret X.1.1 X.1.2.1 hr (Or.inl ⟨_, rfl⟩) (Or.inl rfl) (fun t ht _ => V.q (r := none) h ht) V.2.1.2.2 dX0_whereIs_21 X.1.2.2.2.2
    | some o12 =>
      have h := h.2 o12 rfl
      exact W.aret X.1.1 X.1.2.1 hr (Or.inl ⟨_, rfl⟩) (Or.inr ⟨_, rfl⟩) (fun t ht _ => V.q (r := (some o12)) h ht) V.2.1.2.2 dX0_whereIs_21 X.1.2.2.2.2
  · have h := h.2 c4
    refine lv_null X.1.1 X.1.2.1 dX0_whereIs_7 ?_
    refine lv_goto (tgt := 21) X.1.1 X.1.2.1 dX0_whereIs_8 (by decide) ?_
    exact W.aret X.1.1 X.1.2.1 hr (Or.inl ⟨_, rfl⟩) (Or.inl rfl) (fun t ht _ => V.q (r := none) h ht) V.2.1.2.2 dX0_whereIs_21 X.1.2.2.2.2
abbrev rm_X0_oldest : Room := { frames := 4, cells := 0, slots := 0, locals := 85 }
def wp_X0_oldest_6 : Nat → (Int32 → HS → Prop) → HS → Nat → Int32 → Int32 → Int32 → Prop
  | 0, _, _, _, _, _, _ => False
  | n + 1, post, S, b0, x1, x2, x3 => kd S b0 = 2 ∧ (∃ o2 : Nat, fr S 4 b0 = some o2 ∧ (kd S o2 = 1 ∧ (wp_Jx4a65c_size_8abf5 (fun r6 S5 => ((r6 ≤ x3 → post x1 S5) ∧ (¬ r6 ≤ x3 → wp_X0_knownAt (fun r10 S9 => ((r10 = none → wp_X0_oldest_6 n post S9 b0 x1 x2 (x3 + (1 : Int32))) ∧ (∀ o12 : Nat, r10 = some o12 → kd S9 o12 = 3 ∧ ((((fi S9 11 o12) ≤ x2 → wp_X0_oldest_6 n post S9 b0 x1 x2 (x3 + (1 : Int32))) ∧ (¬ (fi S9 11 o12) ≤ x2 → wp_X0_oldest_6 n post S9 b0 x3 (fi S9 11 o12) (x3 + (1 : Int32)))))))) S5 b0 x3))) S o2)))
set_option maxHeartbeats 400000 in
set_option maxRecDepth 100000 in
theorem sl_X0_oldest_6 (l : Launch) (D : va_G) (ka : Nat → ClassId) (sz : Nat) (Z : HS) (post : Int32 → HS → Prop) {p : Program} {e : Env} {s : State} {m : MethodId} {args : Array Value} {below : List Frame} {meth : Method} {c : Code} (X : Cx p s m meth c cX0_oldest 5 RX0 D ka Z (fA Z sz)) (hr : meth.sig.returnType = (some .int))  : ∀ (n : Nat), ∀ (S : HS) (b0 : Nat) (x1 : Int32) (x2 : Int32) (x3 : Int32), wp_X0_oldest_6 n post S b0 x1 x2 x3 → ∀ (H : Heap) (locs : List Loc) (ls : Array Slot), Hv D ka Z s (fA Z sz) S H locs → lv_has ls 5 [(0, .ref b0), (1, .int x1), (2, .int x2), (3, .int x3)] → W p l e rm_X0_oldest s m args below meth c H locs 0 0 (MQ below (Qx eI post D ka Z sz) args s 0 0 (fA Z sz)) (F0 m 6 ls []) := by
  intro n
  induction n with
  | zero => intro S b0 x1 x2 x3 h; exact h.elim
  | succ n ih =>
    intro S b0 x1 x2 x3 h H locs ls V hl
    refine lv_iload_n X.1.1 X.1.2.1 dX0_oldest_6 rfl (lv_at hl 3 rfl) ?_
    refine lv_aload_n X.1.1 X.1.2.1 dX0_oldest_7 rfl (lv_at hl 0 rfl) ?_
    obtain ⟨k1, h⟩ := h
    obtain ⟨o2, e3, h⟩ := h
    refine gf_X0_12 X V k1 e3 dX0_oldest_8 ?_
    obtain ⟨k4, h⟩ := h
    refine r_callV (k := 1) (n := 0) (As := []) X V (sd_Jx4a65c_size_8abf5 l D ka _ S _ o2 h) k4 (by decide) (by decide) rfl wd_108 wd_109 wd_39 wd_110 wd_111 rfl rfl (by decide +kernel) ⟨Nat.le_of_ble_eq_true rfl, Nat.le_of_ble_eq_true rfl⟩ rfl hl.1 rfl (Nat.le_of_ble_eq_true rfl) dX0_oldest_11 ⟨show 0 ≤ 0 by omega, show 0 ≤ 0 by omega⟩ (fun r6 S5 H locs h m7 V => ?_)
    have k1 := m7.k k1 (by decide)
    have k4 := m7.k k4 (by decide)
    refine lv_icmp_ge (tgt := 52) X.1.1 X.1.2.1 dX0_oldest_14 (by decide) (fun c8 => ?_) (fun c8 => ?_)
    · have h := h.1 c8
      refine lv_iload_n X.1.1 X.1.2.1 dX0_oldest_52 rfl (lv_at hl 1 rfl) ?_
      exact W.iret X.1.1 X.1.2.1 hr (fun t ht _ => V.q (r := x1) h ht) V.2.1.2.2 dX0_oldest_53 X.1.2.2.2.2
    · have h := h.2 c8
      refine lv_aload_n X.1.1 X.1.2.1 dX0_oldest_17 rfl (lv_at hl 0 rfl) ?_
      refine lv_iload_n X.1.1 X.1.2.1 dX0_oldest_18 rfl (lv_at hl 3 rfl) ?_
      refine r_callV (k := 2) (n := 1) (As := [.int x3]) X V (sd_X0_knownAt l D ka _ S5 _ b0 x3 h) k1 (by decide) (by decide) rfl wd_117 wd_118 wd_119 wd_120 wd_121 rfl rfl (by decide +kernel) ⟨Nat.le_of_ble_eq_true rfl, Nat.le_of_ble_eq_true rfl⟩ rfl hl.1 rfl (Nat.le_of_ble_eq_true rfl) dX0_oldest_19 ⟨show 0 ≤ 0 by omega, show 0 ≤ 0 by omega⟩ (fun r10 S9 H locs h m11 V => ?_)
      have k1 := m11.k k1 (by decide)
      have k4 := m11.k k4 (by decide)
      cases r10 with
      | none =>
        have h := h.1 rfl
        refine lv_astoreN (lv' := [(4, .null), (0, .ref b0), (1, .int x1), (2, .int x2), (3, .int x3)]) X.1.1 X.1.2.1 dX0_oldest_22 hl (by decide) rfl (fun ls hl => ?_)
        refine lv_aloadN X.1.1 X.1.2.1 dX0_oldest_24 (lv_at hl 0 rfl) ?_
        refine lv_ifnullN (tgt := 46) X.1.1 X.1.2.1 dX0_oldest_26 (by decide) ?_
        refine lv_iinc (v := (x3 + (1 : Int32))) (lv' := [(3, .int (x3 + (1 : Int32))), (4, .null), (0, .ref b0), (1, .int x1), (2, .int x2)]) X.1.1 X.1.2.1 dX0_oldest_46 hl (k := 4) rfl (congrArg (HAdd.hAdd _) (by decide)) (by decide) rfl (fun ls hl => ?_)
        refine lv_goto (tgt := 6) X.1.1 X.1.2.1 dX0_oldest_49 (by decide) ?_
        exact ih S9 b0 x1 x2 (x3 + (1 : Int32)) h _ _ _ V (lv_sub hl [2, 3, 4, 0] rfl)
      | some o12 =>
        have h := h.2 o12 rfl
        refine lv_astore (lv' := [(4, .ref o12), (0, .ref b0), (1, .int x1), (2, .int x2), (3, .int x3)]) X.1.1 X.1.2.1 dX0_oldest_22 hl (by decide) rfl (fun ls hl => ?_)
        refine lv_aload X.1.1 X.1.2.1 dX0_oldest_24 (lv_at hl 0 rfl) ?_
        refine lv_ifnull X.1.1 X.1.2.1 dX0_oldest_26 ?_
        refine lv_aload X.1.1 X.1.2.1 dX0_oldest_29 (lv_at hl 0 rfl) ?_
        obtain ⟨k14, h⟩ := h
        refine gf_X0_63 X V k14 dX0_oldest_31 ?_
        refine lv_iload_n X.1.1 X.1.2.1 dX0_oldest_34 rfl (lv_at hl 3 rfl) ?_
        refine lv_icmp_le (tgt := 46) X.1.1 X.1.2.1 dX0_oldest_35 (by decide) (fun c15 => ?_) (fun c15 => ?_)
        · have h := h.1 c15
          refine lv_iinc (v := (x3 + (1 : Int32))) (lv' := [(3, .int (x3 + (1 : Int32))), (4, .ref o12), (0, .ref b0), (1, .int x1), (2, .int x2)]) X.1.1 X.1.2.1 dX0_oldest_46 hl (k := 4) rfl (congrArg (HAdd.hAdd _) (by decide)) (by decide) rfl (fun ls hl => ?_)
          refine lv_goto (tgt := 6) X.1.1 X.1.2.1 dX0_oldest_49 (by decide) ?_
          exact ih S9 b0 x1 x2 (x3 + (1 : Int32)) h _ _ _ V (lv_sub hl [2, 3, 4, 0] rfl)
        · have h := h.2 c15
          refine lv_iload_n X.1.1 X.1.2.1 dX0_oldest_38 rfl (lv_at hl 4 rfl) ?_
          refine lv_istore_n (lv' := [(1, .int x3), (4, .ref o12), (0, .ref b0), (2, .int x2), (3, .int x3)]) X.1.1 X.1.2.1 dX0_oldest_39 rfl hl (by decide) rfl (fun ls hl => ?_)
          refine lv_aload X.1.1 X.1.2.1 dX0_oldest_40 (lv_at hl 1 rfl) ?_
          refine gf_X0_63 X V k14 dX0_oldest_42 ?_
          refine lv_istore_n (lv' := [(2, .int (fi S9 11 o12)), (1, .int x3), (4, .ref o12), (0, .ref b0), (3, .int x3)]) X.1.1 X.1.2.1 dX0_oldest_45 rfl hl (by decide) rfl (fun ls hl => ?_)
          refine lv_iinc (v := (x3 + (1 : Int32))) (lv' := [(3, .int (x3 + (1 : Int32))), (2, .int (fi S9 11 o12)), (1, .int x3), (4, .ref o12), (0, .ref b0)]) X.1.1 X.1.2.1 dX0_oldest_46 hl (k := 4) rfl (congrArg (HAdd.hAdd _) (by decide)) (by decide) rfl (fun ls hl => ?_)
          refine lv_goto (tgt := 6) X.1.1 X.1.2.1 dX0_oldest_49 (by decide) ?_
          exact ih S9 b0 x3 (fi S9 11 o12) (x3 + (1 : Int32)) h _ _ _ V (lv_sub hl [4, 2, 1, 0] rfl)
def wp_X0_oldest (post : Int32 → HS → Prop) (S : HS) (a0 : Nat) : Prop := ∃ n9, wp_X0_oldest_6 n9 post S a0 (-1 : Int32) (-1 : Int32) (0 : Int32)
set_option maxHeartbeats 400000 in
set_option maxRecDepth 100000 in
theorem sd_X0_oldest (l : Launch) (D : va_G) (ka : Nat → ClassId) (sz : Nat) (Z : HS) (post : Int32 → HS → Prop) (a0 : Nat) (h : wp_X0_oldest post Z a0) : Met l yX0_oldest [Cond.code yX0_oldest cX0_oldest 5 (some .int)] rm_X0_oldest (Px D ka Z sz [.ref a0]) (Qx eI post D ka Z sz) 0 0 (fA Z sz) := by
  refine Met.ofW (cc := cX0_oldest) (maxL := 5) (ret := (some .int)) (by decide) rfl ?_
  intro p e s m args below meth c s₁ B hml hv
  obtain ⟨rfl, X, V, hsz⟩ := Cx.entry B hml hv
  have hr : meth.sig.returnType = (some .int) := B.returns
  have hl := lv_entry ([.ref a0]) (n := 5) (Nat.le_of_ble_eq_true rfl)
  rw [lg_entry_eq]
  generalize (lg_sl ([.ref a0]) ++ List.replicate (5 - (lg_sl ([.ref a0])).length) Slot.unset).toArray = ls at hl ⊢
  have hl : lv_has ls 5 [(0, .ref a0)] := hl
  have h : wp_X0_oldest post Z a0 := h
  refine lv_iconst (v := (-1 : Int32)) X.1.1 X.1.2.1 dX0_oldest_0 (by decide) ?_
  refine lv_istore_n (lv' := [(1, .int (-1 : Int32)), (0, .ref a0)]) X.1.1 X.1.2.1 dX0_oldest_1 rfl hl (by decide) rfl (fun ls hl => ?_)
  refine lv_iconst (v := (-1 : Int32)) X.1.1 X.1.2.1 dX0_oldest_2 (by decide) ?_
  refine lv_istore_n (lv' := [(2, .int (-1 : Int32)), (1, .int (-1 : Int32)), (0, .ref a0)]) X.1.1 X.1.2.1 dX0_oldest_3 rfl hl (by decide) rfl (fun ls hl => ?_)
  refine lv_iconst (v := (0 : Int32)) X.1.1 X.1.2.1 dX0_oldest_4 (by decide) ?_
  refine lv_istore_n (lv' := [(3, .int (0 : Int32)), (2, .int (-1 : Int32)), (1, .int (-1 : Int32)), (0, .ref a0)]) X.1.1 X.1.2.1 dX0_oldest_5 rfl hl (by decide) rfl (fun ls hl => ?_)
  obtain ⟨n9, h⟩ := h
  exact sl_X0_oldest_6 l D ka sz Z post X hr n9 Z a0 (-1 : Int32) (-1 : Int32) (0 : Int32) h _ _ _ V (lv_sub hl [3, 2, 1, 0] rfl)
abbrev rm_X0_drop : Room := { frames := 3, cells := 0, slots := 0, locals := 86 }
def wp_X0_drop (post : Unit → HS → Prop) (S : HS) (a0 : Nat) (v1 : Int32) : Prop := ((v1 < 0 → post () S) ∧ (¬ v1 < 0 → kd S a0 = 2 ∧ (∃ o3 : Nat, fr S 4 a0 = some o3 ∧ (kd S o3 = 1 ∧ (wp_Jx4a65c_size_8abf5 (fun r7 S6 => ((r7 ≤ v1 → post () S6) ∧ (¬ r7 ≤ v1 → ∃ o10 : Nat, fr S6 4 a0 = some o10 ∧ (kd S6 o10 = 1 ∧ (wp_Jx4a65c_remove_915e3 (fun r14 S13 => ∃ o16 : Nat, r14 = some o16 ∧ (post () S13)) S6 o10 v1))))) S o3)))))
set_option maxHeartbeats 400000 in
set_option maxRecDepth 100000 in
theorem sd_X0_drop (l : Launch) (D : va_G) (ka : Nat → ClassId) (sz : Nat) (Z : HS) (post : Unit → HS → Prop) (a0 : Nat) (v1 : Int32) (h : wp_X0_drop post Z a0 v1) : Met l yX0_drop [Cond.code yX0_drop cX0_drop 2 none] rm_X0_drop (Px D ka Z sz [.ref a0, .int v1]) (Qx eV post D ka Z sz) 0 0 (fA Z sz) := by
  refine Met.ofW (cc := cX0_drop) (maxL := 2) (ret := none) (by decide) rfl ?_
  intro p e s m args below meth c s₁ B hml hv
  obtain ⟨rfl, X, V, hsz⟩ := Cx.entry B hml hv
  have hr : meth.sig.returnType = none := B.returns
  have hl := lv_entry ([.ref a0, .int v1]) (n := 2) (Nat.le_of_ble_eq_true rfl)
  rw [lg_entry_eq]
  generalize (lg_sl ([.ref a0, .int v1]) ++ List.replicate (2 - (lg_sl ([.ref a0, .int v1])).length) Slot.unset).toArray = ls at hl ⊢
  have hl : lv_has ls 2 [(0, .ref a0), (1, .int v1)] := hl
  have h : wp_X0_drop post Z a0 v1 := h
  refine lv_iload_n X.1.1 X.1.2.1 dX0_drop_0 rfl (lv_at hl 1 rfl) ?_
  refine lv_if_lt (tgt := 24) X.1.1 X.1.2.1 dX0_drop_1 (by decide) (fun c1 => ?_) (fun c1 => ?_)
  · have h := h.1 c1
    exact W.vret X.1.1 X.1.2.1 hr (fun t ht _ => V.q (r := ()) h ht) V.2.1.2.2 dX0_drop_24 X.1.2.2.2.2
  · have h := h.2 c1
    refine lv_iload_n X.1.1 X.1.2.1 dX0_drop_4 rfl (lv_at hl 1 rfl) ?_
    refine lv_aload_n X.1.1 X.1.2.1 dX0_drop_5 rfl (lv_at hl 0 rfl) ?_
    obtain ⟨k2, h⟩ := h
    obtain ⟨o3, e4, h⟩ := h
    refine gf_X0_12 X V k2 e4 dX0_drop_6 ?_
    obtain ⟨k5, h⟩ := h
    refine r_callV (k := 1) (n := 0) (As := []) X V (sd_Jx4a65c_size_8abf5 l D ka _ Z _ o3 h) k5 (by decide) (by decide) rfl wd_108 wd_109 wd_39 wd_110 wd_111 rfl rfl (by decide +kernel) ⟨Nat.le_of_ble_eq_true rfl, Nat.le_of_ble_eq_true rfl⟩ rfl hl.1 rfl (Nat.le_of_ble_eq_true rfl) dX0_drop_9 ⟨show 0 ≤ 0 by omega, show 0 ≤ 0 by omega⟩ (fun r7 S6 H locs h m8 V => ?_)
    have k2 := m8.k k2 (by decide)
    have k5 := m8.k k5 (by decide)
    refine lv_icmp_ge (tgt := 24) X.1.1 X.1.2.1 dX0_drop_12 (by decide) (fun c9 => ?_) (fun c9 => ?_)
    · have h := h.1 c9
      exact W.vret X.1.1 X.1.2.1 hr (fun t ht _ => V.q (r := ()) h ht) V.2.1.2.2 dX0_drop_24 X.1.2.2.2.2
    · have h := h.2 c9
      refine lv_aload_n X.1.1 X.1.2.1 dX0_drop_15 rfl (lv_at hl 0 rfl) ?_
      obtain ⟨o10, e11, h⟩ := h
      refine gf_X0_12 X V k2 e11 dX0_drop_16 ?_
      refine lv_iload_n X.1.1 X.1.2.1 dX0_drop_19 rfl (lv_at hl 1 rfl) ?_
      obtain ⟨k12, h⟩ := h
      refine r_callV (k := 1) (n := 1) (As := [.int v1]) X V (sd_Jx4a65c_remove_915e3 l D ka _ S6 _ o10 v1 h) k12 (by decide) (by decide) rfl wd_133 wd_134 wd_39 wd_135 wd_136 rfl rfl (by decide +kernel) ⟨Nat.le_of_ble_eq_true rfl, Nat.le_of_ble_eq_true rfl⟩ rfl hl.1 rfl (Nat.le_of_ble_eq_true rfl) dX0_drop_20 ⟨show 0 ≤ 0 by omega, show 0 ≤ 0 by omega⟩ (fun r14 S13 H locs h m15 V => ?_)
      have k2 := m15.k k2 (by decide)
      have k5 := m15.k k5 (by decide)
      have k12 := m15.k k12 (by decide)
      obtain ⟨o16, e17, h⟩ := h
      subst e17
      refine lv_pop X.1.1 X.1.2.1 dX0_drop_23 rfl ?_
      exact W.vret X.1.1 X.1.2.1 hr (fun t ht _ => V.q (r := ()) h ht) V.2.1.2.2 dX0_drop_24 X.1.2.2.2.2
abbrev rm_X0_growOlder : Room := { frames := 4, cells := 0, slots := 0, locals := 107 }
def wp_X0_growOlder_49a (post : Int32 → HS → Prop) (K12 : HS → Nat → Int32 → Int32 → Int32 → Prop) (S : HS) (b0 : Nat) (x1 : Int32) (x2 : Int32) (x3 : Int32) : Prop := K12 S b0 x1 x2 (x3 + (-1 : Int32))
set_option maxHeartbeats 400000 in
set_option maxRecDepth 100000 in
theorem sl_X0_growOlder_49a (l : Launch) (D : va_G) (ka : Nat → ClassId) (sz : Nat) (Z : HS) (post : Int32 → HS → Prop) {p : Program} {e : Env} {s : State} {m : MethodId} {args : Array Value} {below : List Frame} {meth : Method} {c : Code} (X : Cx p s m meth c cX0_growOlder 5 RX0 D ka Z (fA Z sz)) (hr : meth.sig.returnType = (some .int))  {K12 : HS → Nat → Int32 → Int32 → Int32 → Prop} (hK12 : ∀ (S : HS) (b0 : Nat) (x1 : Int32) (x2 : Int32) (x3 : Int32), K12 S b0 x1 x2 x3 → ∀ (H : Heap) (locs : List Loc) (ls : Array Slot), Hv D ka Z s (fA Z sz) S H locs → lv_has ls 5 [(0, .ref b0), (1, .int x1), (2, .int x2), (3, .int x3)] → W p l e rm_X0_growOlder s m args below meth c H locs 0 0 (MQ below (Qx eI post D ka Z sz) args s 0 0 (fA Z sz)) (F0 m 12 ls [])) : ∀ (S : HS) (b0 : Nat) (x1 : Int32) (x2 : Int32) (x3 : Int32), wp_X0_growOlder_49a post K12 S b0 x1 x2 x3 → ∀ (H : Heap) (locs : List Loc) (ls : Array Slot), Hv D ka Z s (fA Z sz) S H locs → lv_has ls 5 [(0, .ref b0), (1, .int x1), (2, .int x2), (3, .int x3), (4, .null)] → W p l e rm_X0_growOlder s m args below meth c H locs 0 0 (MQ below (Qx eI post D ka Z sz) args s 0 0 (fA Z sz)) (F0 m 49 ls []) := by
  intro S b0 x1 x2 x3 h H locs ls V hl
  refine lv_aloadN X.1.1 X.1.2.1 dX0_growOlder_49 (lv_at hl 4 rfl) ?_
  refine lv_ifnullN (tgt := 65) X.1.1 X.1.2.1 dX0_growOlder_51 (by decide) ?_
  refine lv_iinc (v := (x3 + (-1 : Int32))) (lv' := [(3, .int (x3 + (-1 : Int32))), (0, .ref b0), (1, .int x1), (2, .int x2), (4, .null)]) X.1.1 X.1.2.1 dX0_growOlder_65 hl (k := 3) rfl (congrArg (HAdd.hAdd _) (by decide)) (by decide) rfl (fun ls hl => ?_)
  refine lv_goto (tgt := 12) X.1.1 X.1.2.1 dX0_growOlder_68 (by decide) ?_
  exact hK12 S b0 x1 x2 (x3 + (-1 : Int32)) h _ _ _ V (lv_sub hl [1, 2, 3, 0] rfl)
def wp_X0_growOlder_49b (post : Int32 → HS → Prop) (K12 : HS → Nat → Int32 → Int32 → Int32 → Prop) (S : HS) (b0 : Nat) (x1 : Int32) (x2 : Int32) (x3 : Int32) (b4 : Nat) : Prop := kd S b4 = 3 ∧ (K12 (sfi S 11 b4 ((fi S 11 b4) + x1)) b0 x1 x2 (x3 + (-1 : Int32)))
set_option maxHeartbeats 400000 in
set_option maxRecDepth 100000 in
theorem sl_X0_growOlder_49b (l : Launch) (D : va_G) (ka : Nat → ClassId) (sz : Nat) (Z : HS) (post : Int32 → HS → Prop) {p : Program} {e : Env} {s : State} {m : MethodId} {args : Array Value} {below : List Frame} {meth : Method} {c : Code} (X : Cx p s m meth c cX0_growOlder 5 RX0 D ka Z (fA Z sz)) (hr : meth.sig.returnType = (some .int))  {K12 : HS → Nat → Int32 → Int32 → Int32 → Prop} (hK12 : ∀ (S : HS) (b0 : Nat) (x1 : Int32) (x2 : Int32) (x3 : Int32), K12 S b0 x1 x2 x3 → ∀ (H : Heap) (locs : List Loc) (ls : Array Slot), Hv D ka Z s (fA Z sz) S H locs → lv_has ls 5 [(0, .ref b0), (1, .int x1), (2, .int x2), (3, .int x3)] → W p l e rm_X0_growOlder s m args below meth c H locs 0 0 (MQ below (Qx eI post D ka Z sz) args s 0 0 (fA Z sz)) (F0 m 12 ls [])) : ∀ (S : HS) (b0 : Nat) (x1 : Int32) (x2 : Int32) (x3 : Int32) (b4 : Nat), wp_X0_growOlder_49b post K12 S b0 x1 x2 x3 b4 → ∀ (H : Heap) (locs : List Loc) (ls : Array Slot), Hv D ka Z s (fA Z sz) S H locs → lv_has ls 5 [(0, .ref b0), (1, .int x1), (2, .int x2), (3, .int x3), (4, .ref b4)] → W p l e rm_X0_growOlder s m args below meth c H locs 0 0 (MQ below (Qx eI post D ka Z sz) args s 0 0 (fA Z sz)) (F0 m 49 ls []) := by
  intro S b0 x1 x2 x3 b4 h H locs ls V hl
  refine lv_aload X.1.1 X.1.2.1 dX0_growOlder_49 (lv_at hl 4 rfl) ?_
  refine lv_ifnull X.1.1 X.1.2.1 dX0_growOlder_51 ?_
  refine lv_aload X.1.1 X.1.2.1 dX0_growOlder_54 (lv_at hl 4 rfl) ?_
  refine lv_dup X.1.1 X.1.2.1 dX0_growOlder_56 rfl ?_
  obtain ⟨k24, h⟩ := h
  refine gf_X0_63 X V k24 dX0_growOlder_57 ?_
  refine lv_iload_n X.1.1 X.1.2.1 dX0_growOlder_60 rfl (lv_at hl 1 rfl) ?_
  refine lv_iadd X.1.1 X.1.2.1 dX0_growOlder_61 ?_
  refine pf_X0_63 X V k24 dX0_growOlder_62 (fun H locs V => ?_)
  refine lv_iinc (v := (x3 + (-1 : Int32))) (lv' := [(3, .int (x3 + (-1 : Int32))), (0, .ref b0), (1, .int x1), (2, .int x2), (4, .ref b4)]) X.1.1 X.1.2.1 dX0_growOlder_65 hl (k := 3) rfl (congrArg (HAdd.hAdd _) (by decide)) (by decide) rfl (fun ls hl => ?_)
  refine lv_goto (tgt := 12) X.1.1 X.1.2.1 dX0_growOlder_68 (by decide) ?_
  exact hK12 (sfi S 11 b4 ((fi S 11 b4) + x1)) b0 x1 x2 (x3 + (-1 : Int32)) h _ _ _ V (lv_sub hl [1, 2, 3, 0] rfl)
def wp_X0_growOlder_12 : Nat → (Int32 → HS → Prop) → HS → Nat → Int32 → Int32 → Int32 → Prop
  | 0, _, _, _, _, _, _ => False
  | n + 1, post, S, b0, x1, x2, x3 => ((x3 < 0 → kd S b0 = 2 ∧ (∃ o10 : Nat, fr S 4 b0 = some o10 ∧ (kd S o10 = 1 ∧ (wp_Jx4a65c_size_8abf5 (fun r14 S13 => post (x2 - r14) S13) S o10)))) ∧ (¬ x3 < 0 → kd S b0 = 2 ∧ (wp_X0_knownAt (fun r18 S17 => ((r18 = none → wp_X0_growOlder_49a post (fun Sk b0k x1k x2k x3k => wp_X0_growOlder_12 n post Sk b0k x1k x2k x3k) S17 b0 x1 x2 x3) ∧ (∀ o20 : Nat, r18 = some o20 → kd S17 o20 = 3 ∧ (((((fi S17 11 o20) + x1) ≤ (300 : Int32) → wp_X0_growOlder_49b post (fun Sk b0k x1k x2k x3k => wp_X0_growOlder_12 n post Sk b0k x1k x2k x3k) S17 b0 x1 x2 x3 o20) ∧ (¬ ((fi S17 11 o20) + x1) ≤ (300 : Int32) → wp_X0_drop (fun _ S25 => wp_X0_growOlder_12 n post S25 b0 x1 x2 (x3 + (-1 : Int32))) S17 b0 x3)))))) S b0 x3)))
set_option maxHeartbeats 400000 in
set_option maxRecDepth 100000 in
theorem sl_X0_growOlder_12 (l : Launch) (D : va_G) (ka : Nat → ClassId) (sz : Nat) (Z : HS) (post : Int32 → HS → Prop) {p : Program} {e : Env} {s : State} {m : MethodId} {args : Array Value} {below : List Frame} {meth : Method} {c : Code} (X : Cx p s m meth c cX0_growOlder 5 RX0 D ka Z (fA Z sz)) (hr : meth.sig.returnType = (some .int))  : ∀ (n : Nat), ∀ (S : HS) (b0 : Nat) (x1 : Int32) (x2 : Int32) (x3 : Int32), wp_X0_growOlder_12 n post S b0 x1 x2 x3 → ∀ (H : Heap) (locs : List Loc) (ls : Array Slot), Hv D ka Z s (fA Z sz) S H locs → lv_has ls 5 [(0, .ref b0), (1, .int x1), (2, .int x2), (3, .int x3)] → W p l e rm_X0_growOlder s m args below meth c H locs 0 0 (MQ below (Qx eI post D ka Z sz) args s 0 0 (fA Z sz)) (F0 m 12 ls []) := by
  intro n
  induction n with
  | zero => intro S b0 x1 x2 x3 h; exact h.elim
  | succ n ih =>
    intro S b0 x1 x2 x3 h H locs ls V hl
    refine lv_iload_n X.1.1 X.1.2.1 dX0_growOlder_12 rfl (lv_at hl 3 rfl) ?_
    refine lv_if_lt (tgt := 71) X.1.1 X.1.2.1 dX0_growOlder_13 (by decide) (fun c8 => ?_) (fun c8 => ?_)
    · have h := h.1 c8
      refine lv_iload_n X.1.1 X.1.2.1 dX0_growOlder_71 rfl (lv_at hl 2 rfl) ?_
      refine lv_aload_n X.1.1 X.1.2.1 dX0_growOlder_72 rfl (lv_at hl 0 rfl) ?_
      obtain ⟨k9, h⟩ := h
      obtain ⟨o10, e11, h⟩ := h
      refine gf_X0_12 X V k9 e11 dX0_growOlder_73 ?_
      obtain ⟨k12, h⟩ := h
      refine r_callV (k := 1) (n := 0) (As := []) X V (sd_Jx4a65c_size_8abf5 l D ka _ S _ o10 h) k12 (by decide) (by decide) rfl wd_108 wd_109 wd_39 wd_110 wd_111 rfl rfl (by decide +kernel) ⟨Nat.le_of_ble_eq_true rfl, Nat.le_of_ble_eq_true rfl⟩ rfl hl.1 rfl (Nat.le_of_ble_eq_true rfl) dX0_growOlder_76 ⟨show 0 ≤ 0 by omega, show 0 ≤ 0 by omega⟩ (fun r14 S13 H locs h m15 V => ?_)
      have k9 := m15.k k9 (by decide)
      have k12 := m15.k k12 (by decide)
      refine lv_isub X.1.1 X.1.2.1 dX0_growOlder_79 ?_
      exact W.iret X.1.1 X.1.2.1 hr (fun t ht _ => V.q (r := (x2 - r14)) h ht) V.2.1.2.2 dX0_growOlder_80 X.1.2.2.2.2
    · have h := h.2 c8
      refine lv_aload_n X.1.1 X.1.2.1 dX0_growOlder_16 rfl (lv_at hl 0 rfl) ?_
      refine lv_iload_n X.1.1 X.1.2.1 dX0_growOlder_17 rfl (lv_at hl 3 rfl) ?_
      obtain ⟨k16, h⟩ := h
      refine r_callV (k := 2) (n := 1) (As := [.int x3]) X V (sd_X0_knownAt l D ka _ S _ b0 x3 h) k16 (by decide) (by decide) rfl wd_117 wd_118 wd_119 wd_120 wd_121 rfl rfl (by decide +kernel) ⟨Nat.le_of_ble_eq_true rfl, Nat.le_of_ble_eq_true rfl⟩ rfl hl.1 rfl (Nat.le_of_ble_eq_true rfl) dX0_growOlder_18 ⟨show 0 ≤ 0 by omega, show 0 ≤ 0 by omega⟩ (fun r18 S17 H locs h m19 V => ?_)
      have k16 := m19.k k16 (by decide)
      cases r18 with
      | none =>
        have h := h.1 rfl
        refine lv_astoreN (lv' := [(4, .null), (0, .ref b0), (1, .int x1), (2, .int x2), (3, .int x3)]) X.1.1 X.1.2.1 dX0_growOlder_21 hl (by decide) rfl (fun ls hl => ?_)
        refine lv_aloadN X.1.1 X.1.2.1 dX0_growOlder_23 (lv_at hl 0 rfl) ?_
        refine lv_ifnullN (tgt := 49) X.1.1 X.1.2.1 dX0_growOlder_25 (by decide) ?_
        exact sl_X0_growOlder_49a l D ka sz Z post X hr ih S17 b0 x1 x2 x3 h _ _ _ V (lv_sub hl [1, 2, 3, 4, 0] rfl)
      | some o20 =>
        have h := h.2 o20 rfl
        refine lv_astore (lv' := [(4, .ref o20), (0, .ref b0), (1, .int x1), (2, .int x2), (3, .int x3)]) X.1.1 X.1.2.1 dX0_growOlder_21 hl (by decide) rfl (fun ls hl => ?_)
        refine lv_aload X.1.1 X.1.2.1 dX0_growOlder_23 (lv_at hl 0 rfl) ?_
        refine lv_ifnull X.1.1 X.1.2.1 dX0_growOlder_25 ?_
        refine lv_aload X.1.1 X.1.2.1 dX0_growOlder_28 (lv_at hl 0 rfl) ?_
        obtain ⟨k22, h⟩ := h
        refine gf_X0_63 X V k22 dX0_growOlder_30 ?_
        refine lv_iload_n X.1.1 X.1.2.1 dX0_growOlder_33 rfl (lv_at hl 2 rfl) ?_
        refine lv_iadd X.1.1 X.1.2.1 dX0_growOlder_34 ?_
        refine lv_sipush (v := (300 : Int32)) X.1.1 X.1.2.1 dX0_growOlder_35 (by decide) ?_
        refine lv_icmp_le (tgt := 49) X.1.1 X.1.2.1 dX0_growOlder_38 (by decide) (fun c23 => ?_) (fun c23 => ?_)
        · have h := h.1 c23
          exact sl_X0_growOlder_49b l D ka sz Z post X hr ih S17 b0 x1 x2 x3 o20 h _ _ _ V (lv_sub hl [1, 2, 3, 4, 0] rfl)
        · have h := h.2 c23
          refine lv_aload_n X.1.1 X.1.2.1 dX0_growOlder_41 rfl (lv_at hl 1 rfl) ?_
          refine lv_iload_n X.1.1 X.1.2.1 dX0_growOlder_42 rfl (lv_at hl 4 rfl) ?_
          refine r_callV (k := 2) (n := 1) (As := [.int x3]) X V (sd_X0_drop l D ka _ S17 _ b0 x3 h) k16 (by decide) (by decide) rfl wd_137 wd_138 wd_119 wd_139 wd_140 rfl rfl (by decide +kernel) ⟨Nat.le_of_ble_eq_true rfl, Nat.le_of_ble_eq_true rfl⟩ rfl hl.1 rfl (Nat.le_of_ble_eq_true rfl) dX0_growOlder_43 ⟨show 0 ≤ 0 by omega, show 0 ≤ 0 by omega⟩ (fun r26 S25 H locs h m27 V => ?_)
          have k16 := m27.k k16 (by decide)
          have k22 := m27.k k22 (by decide)
          refine lv_goto (tgt := 65) X.1.1 X.1.2.1 dX0_growOlder_46 (by decide) ?_
          refine lv_iinc (v := (x3 + (-1 : Int32))) (lv' := [(3, .int (x3 + (-1 : Int32))), (4, .ref o20), (0, .ref b0), (1, .int x1), (2, .int x2)]) X.1.1 X.1.2.1 dX0_growOlder_65 hl (k := 4) rfl (congrArg (HAdd.hAdd _) (by decide)) (by decide) rfl (fun ls hl => ?_)
          refine lv_goto (tgt := 12) X.1.1 X.1.2.1 dX0_growOlder_68 (by decide) ?_
          exact ih S25 b0 x1 x2 (x3 + (-1 : Int32)) h _ _ _ V (lv_sub hl [2, 3, 4, 0] rfl)
def wp_X0_growOlder (post : Int32 → HS → Prop) (S : HS) (a0 : Nat) (v1 : Int32) : Prop := kd S a0 = 2 ∧ (∃ o2 : Nat, fr S 4 a0 = some o2 ∧ (kd S o2 = 1 ∧ (wp_Jx4a65c_size_8abf5 (fun r6 S5 => ∃ n9, wp_X0_growOlder_12 n9 post S5 a0 v1 r6 (r6 - (1 : Int32))) S o2)))
set_option maxHeartbeats 400000 in
set_option maxRecDepth 100000 in
theorem sd_X0_growOlder (l : Launch) (D : va_G) (ka : Nat → ClassId) (sz : Nat) (Z : HS) (post : Int32 → HS → Prop) (a0 : Nat) (v1 : Int32) (h : wp_X0_growOlder post Z a0 v1) : Met l yX0_growOlder [Cond.code yX0_growOlder cX0_growOlder 5 (some .int)] rm_X0_growOlder (Px D ka Z sz [.ref a0, .int v1]) (Qx eI post D ka Z sz) 0 0 (fA Z sz) := by
  refine Met.ofW (cc := cX0_growOlder) (maxL := 5) (ret := (some .int)) (by decide) rfl ?_
  intro p e s m args below meth c s₁ B hml hv
  obtain ⟨rfl, X, V, hsz⟩ := Cx.entry B hml hv
  have hr : meth.sig.returnType = (some .int) := B.returns
  have hl := lv_entry ([.ref a0, .int v1]) (n := 5) (Nat.le_of_ble_eq_true rfl)
  rw [lg_entry_eq]
  generalize (lg_sl ([.ref a0, .int v1]) ++ List.replicate (5 - (lg_sl ([.ref a0, .int v1])).length) Slot.unset).toArray = ls at hl ⊢
  have hl : lv_has ls 5 [(0, .ref a0), (1, .int v1)] := hl
  have h : wp_X0_growOlder post Z a0 v1 := h
  refine lv_aload_n X.1.1 X.1.2.1 dX0_growOlder_0 rfl (lv_at hl 0 rfl) ?_
  obtain ⟨k1, h⟩ := h
  obtain ⟨o2, e3, h⟩ := h
  refine gf_X0_12 X V k1 e3 dX0_growOlder_1 ?_
  obtain ⟨k4, h⟩ := h
  refine r_callV (k := 1) (n := 0) (As := []) X V (sd_Jx4a65c_size_8abf5 l D ka _ Z _ o2 h) k4 (by decide) (by decide) rfl wd_108 wd_109 wd_39 wd_110 wd_111 rfl rfl (by decide +kernel) ⟨Nat.le_of_ble_eq_true rfl, Nat.le_of_ble_eq_true rfl⟩ rfl hl.1 rfl (Nat.le_of_ble_eq_true rfl) dX0_growOlder_4 ⟨show 0 ≤ 0 by omega, show 0 ≤ 0 by omega⟩ (fun r6 S5 H locs h m7 V => ?_)
  have k1 := m7.k k1 (by decide)
  have k4 := m7.k k4 (by decide)
  refine lv_istore_n (lv' := [(2, .int r6), (0, .ref a0), (1, .int v1)]) X.1.1 X.1.2.1 dX0_growOlder_7 rfl hl (by decide) rfl (fun ls hl => ?_)
  refine lv_iload_n X.1.1 X.1.2.1 dX0_growOlder_8 rfl (lv_at hl 0 rfl) ?_
  refine lv_iconst (v := (1 : Int32)) X.1.1 X.1.2.1 dX0_growOlder_9 (by decide) ?_
  refine lv_isub X.1.1 X.1.2.1 dX0_growOlder_10 ?_
  refine lv_istore_n (lv' := [(3, .int (r6 - (1 : Int32))), (2, .int r6), (0, .ref a0), (1, .int v1)]) X.1.1 X.1.2.1 dX0_growOlder_11 rfl hl (by decide) rfl (fun ls hl => ?_)
  obtain ⟨n9, h⟩ := h
  exact sl_X0_growOlder_12 l D ka sz Z post X hr n9 S5 a0 v1 r6 (r6 - (1 : Int32)) h _ _ _ V (lv_sub hl [2, 3, 1, 0] rfl)
abbrev rm_X0_forgetAll : Room := { frames := 1, cells := 0, slots := 0, locals := 23 }
def wp_X0_forgetAll (post : Int32 → HS → Prop) (S : HS) (a0 : Nat) : Prop := kd S a0 = 2 ∧ (∃ o2 : Nat, fr S 4 a0 = some o2 ∧ (kd S o2 = 1 ∧ (wp_Jx4a65c_size_8abf5 (fun r6 S5 => ∃ o8 : Nat, fr S5 4 a0 = some o8 ∧ (kd S5 o8 = 1 ∧ (wp_Jx4a65c_clear_da8c8 (fun _ S11 => post r6 S11) S5 o8))) S o2)))
set_option maxHeartbeats 400000 in
set_option maxRecDepth 100000 in
theorem sd_X0_forgetAll (l : Launch) (D : va_G) (ka : Nat → ClassId) (sz : Nat) (Z : HS) (post : Int32 → HS → Prop) (a0 : Nat) (h : wp_X0_forgetAll post Z a0) : Met l yX0_forgetAll [Cond.code yX0_forgetAll cX0_forgetAll 2 (some .int)] rm_X0_forgetAll (Px D ka Z sz [.ref a0]) (Qx eI post D ka Z sz) 0 0 (fA Z sz) := by
  refine Met.ofW (cc := cX0_forgetAll) (maxL := 2) (ret := (some .int)) (by decide) rfl ?_
  intro p e s m args below meth c s₁ B hml hv
  obtain ⟨rfl, X, V, hsz⟩ := Cx.entry B hml hv
  have hr : meth.sig.returnType = (some .int) := B.returns
  have hl := lv_entry ([.ref a0]) (n := 2) (Nat.le_of_ble_eq_true rfl)
  rw [lg_entry_eq]
  generalize (lg_sl ([.ref a0]) ++ List.replicate (2 - (lg_sl ([.ref a0])).length) Slot.unset).toArray = ls at hl ⊢
  have hl : lv_has ls 2 [(0, .ref a0)] := hl
  have h : wp_X0_forgetAll post Z a0 := h
  refine lv_aload_n X.1.1 X.1.2.1 dX0_forgetAll_0 rfl (lv_at hl 0 rfl) ?_
  obtain ⟨k1, h⟩ := h
  obtain ⟨o2, e3, h⟩ := h
  refine gf_X0_12 X V k1 e3 dX0_forgetAll_1 ?_
  obtain ⟨k4, h⟩ := h
  refine r_callV (k := 1) (n := 0) (As := []) X V (sd_Jx4a65c_size_8abf5 l D ka _ Z _ o2 h) k4 (by decide) (by decide) rfl wd_108 wd_109 wd_39 wd_110 wd_111 rfl rfl (by decide +kernel) ⟨Nat.le_of_ble_eq_true rfl, Nat.le_of_ble_eq_true rfl⟩ rfl hl.1 rfl (Nat.le_of_ble_eq_true rfl) dX0_forgetAll_4 ⟨show 0 ≤ 0 by omega, show 0 ≤ 0 by omega⟩ (fun r6 S5 H locs h m7 V => ?_)
  have k1 := m7.k k1 (by decide)
  have k4 := m7.k k4 (by decide)
  refine lv_istore_n (lv' := [(1, .int r6), (0, .ref a0)]) X.1.1 X.1.2.1 dX0_forgetAll_7 rfl hl (by decide) rfl (fun ls hl => ?_)
  refine lv_aload_n X.1.1 X.1.2.1 dX0_forgetAll_8 rfl (lv_at hl 1 rfl) ?_
  obtain ⟨o8, e9, h⟩ := h
  refine gf_X0_12 X V k1 e9 dX0_forgetAll_9 ?_
  obtain ⟨k10, h⟩ := h
  refine r_callV (k := 1) (n := 0) (As := []) X V (sd_Jx4a65c_clear_da8c8 l D ka _ S5 _ o8 h) k10 (by decide) (by decide) rfl wd_103 wd_104 wd_39 wd_105 wd_106 rfl rfl (by decide +kernel) ⟨Nat.le_of_ble_eq_true rfl, Nat.le_of_ble_eq_true rfl⟩ rfl hl.1 rfl (Nat.le_of_ble_eq_true rfl) dX0_forgetAll_12 ⟨show 0 ≤ 0 by omega, show 0 ≤ 0 by omega⟩ (fun r12 S11 H locs h m13 V => ?_)
  have k1 := m13.k k1 (by decide)
  have k4 := m13.k k4 (by decide)
  have k10 := m13.k k10 (by decide)
  refine lv_iload_n X.1.1 X.1.2.1 dX0_forgetAll_15 rfl (lv_at hl 0 rfl) ?_
  exact W.iret X.1.1 X.1.2.1 hr (fun t ht _ => V.q (r := r6) h ht) V.2.1.2.2 dX0_forgetAll_16 X.1.2.2.2.2
abbrev rm_X1_init : Room := { frames := 1, cells := 0, slots := 0, locals := 12 }
def wp_X1_init (post : Unit → HS → Prop) (S : HS) (a0 : Nat) (v1 : Int32) (w2 : Int64) (v4 : Int32) (v5 : Int32) : Prop := kd S a0 = 3 ∧ (post () (sfi (sfi (sfl (sfi S 7 a0 v1) 8 a0 w2) 9 a0 v4) 10 a0 v5))
set_option maxHeartbeats 400000 in
set_option maxRecDepth 100000 in
theorem sd_X1_init (l : Launch) (D : va_G) (ka : Nat → ClassId) (sz : Nat) (Z : HS) (post : Unit → HS → Prop) (a0 : Nat) (v1 : Int32) (w2 : Int64) (v4 : Int32) (v5 : Int32) (h : wp_X1_init post Z a0 v1 w2 v4 v5) : Met l yX1_init [Cond.code yX1_init cX1_init 6 none] rm_X1_init (Px D ka Z sz [.ref a0, .int v1, .long w2, .int v4, .int v5]) (Qx eV post D ka Z sz) 0 0 (fA Z sz) := by
  refine Met.ofW (cc := cX1_init) (maxL := 6) (ret := none) (by decide) rfl ?_
  intro p e s m args below meth c s₁ B hml hv
  obtain ⟨rfl, X, V, hsz⟩ := Cx.entry B hml hv
  have hr : meth.sig.returnType = none := B.returns
  have hin2 : meth.name = "<init>" := (name_of_methodNamed B.named B.method).1
  have hl := lv_entry ([.ref a0, .int v1, .long w2, .int v4, .int v5]) (n := 6) (Nat.le_of_ble_eq_true rfl)
  rw [lg_entry_eq]
  generalize (lg_sl ([.ref a0, .int v1, .long w2, .int v4, .int v5]) ++ List.replicate (6 - (lg_sl ([.ref a0, .int v1, .long w2, .int v4, .int v5])).length) Slot.unset).toArray = ls at hl ⊢
  have hl : lv_has ls 6 [(0, .ref a0), (1, .int v1), (2, .long w2), (4, .int v4), (5, .int v5)] := hl
  have h : wp_X1_init post Z a0 v1 w2 v4 v5 := h
  refine lv_aload_n X.1.1 X.1.2.1 dX1_init_0 rfl (lv_at hl 0 rfl) ?_
  refine W.objInit X.1.1 X.1.2.1 X.1.2.2.2.1 (X.w wd_141 rfl _) (X.w wd_1 rfl _) (X.w wd_2 rfl _) rfl (by rw [X.1.2.2.1]; exact hl.1) rfl dX1_init_1 (Nat.le_of_ble_eq_true rfl) (Nat.le_of_ble_eq_true rfl) ?_
  refine W.eq (g2 := F0 m 4 ls []) rfl ?_
  refine lv_aload_n X.1.1 X.1.2.1 dX1_init_4 rfl (lv_at hl 0 rfl) ?_
  refine lv_iload_n X.1.1 X.1.2.1 dX1_init_5 rfl (lv_at hl 1 rfl) ?_
  obtain ⟨k1, h⟩ := h
  refine pf_X1_9 X V k1 hin2 dX1_init_6 (fun H locs V => ?_)
  refine lv_aload_n X.1.1 X.1.2.1 dX1_init_9 rfl (lv_at hl 0 rfl) ?_
  refine lv_lload_n X.1.1 X.1.2.1 dX1_init_10 rfl (lv_at hl 2 rfl) ?_
  refine pf_X1_15 X V k1 hin2 dX1_init_11 (fun H locs V => ?_)
  refine lv_aload_n X.1.1 X.1.2.1 dX1_init_14 rfl (lv_at hl 0 rfl) ?_
  refine lv_iload X.1.1 X.1.2.1 dX1_init_15 (lv_at hl 3 rfl) ?_
  refine pf_X1_19 X V k1 hin2 dX1_init_17 (fun H locs V => ?_)
  refine lv_aload_n X.1.1 X.1.2.1 dX1_init_20 rfl (lv_at hl 0 rfl) ?_
  refine lv_iload X.1.1 X.1.2.1 dX1_init_21 (lv_at hl 4 rfl) ?_
  refine pf_X1_22 X V k1 hin2 dX1_init_23 (fun H locs V => ?_)
  exact W.vret X.1.1 X.1.2.1 hr (fun t ht _ => V.q (r := ()) h ht) V.2.1.2.2 dX1_init_26 X.1.2.2.2.2
abbrev rm_X1_isAtPlaceOf : Room := { frames := 0, cells := 0, slots := 0, locals := 0 }
def wp_X1_isAtPlaceOf (post : Int32 → HS → Prop) (S : HS) (a0 : Nat) (a1 : Nat) : Prop := kd S a0 = 3 ∧ (kd S a1 = 3 ∧ (((¬ (fi S 9 a0) = (fi S 9 a1) → post (0 : Int32) S) ∧ ((fi S 9 a0) = (fi S 9 a1) → ((¬ (fi S 10 a0) = (fi S 10 a1) → post (0 : Int32) S) ∧ ((fi S 10 a0) = (fi S 10 a1) → post (1 : Int32) S))))))
set_option maxHeartbeats 400000 in
set_option maxRecDepth 100000 in
theorem sd_X1_isAtPlaceOf (l : Launch) (D : va_G) (ka : Nat → ClassId) (sz : Nat) (Z : HS) (post : Int32 → HS → Prop) (a0 : Nat) (a1 : Nat) (h : wp_X1_isAtPlaceOf post Z a0 a1) : Met l yX1_isAtPlaceOf [Cond.code yX1_isAtPlaceOf cX1_isAtPlaceOf 2 (some .boolean)] rm_X1_isAtPlaceOf (Px D ka Z sz [.ref a0, .ref a1]) (Qx eI post D ka Z sz) 0 0 (fA Z sz) := by
  refine Met.ofW (cc := cX1_isAtPlaceOf) (maxL := 2) (ret := (some .boolean)) (by decide) rfl ?_
  intro p e s m args below meth c s₁ B hml hv
  obtain ⟨rfl, X, V, hsz⟩ := Cx.entry B hml hv
  have hr : meth.sig.returnType = (some .boolean) := B.returns
  have hl := lv_entry ([.ref a0, .ref a1]) (n := 2) (Nat.le_of_ble_eq_true rfl)
  rw [lg_entry_eq]
  generalize (lg_sl ([.ref a0, .ref a1]) ++ List.replicate (2 - (lg_sl ([.ref a0, .ref a1])).length) Slot.unset).toArray = ls at hl ⊢
  have hl : lv_has ls 2 [(0, .ref a0), (1, .ref a1)] := hl
  have h : wp_X1_isAtPlaceOf post Z a0 a1 := h
  refine lv_aload_n X.1.1 X.1.2.1 dX1_isAtPlaceOf_0 rfl (lv_at hl 0 rfl) ?_
  obtain ⟨k1, h⟩ := h
  refine gf_X1_19 X V k1 dX1_isAtPlaceOf_1 ?_
  refine lv_aload_n X.1.1 X.1.2.1 dX1_isAtPlaceOf_4 rfl (lv_at hl 1 rfl) ?_
  obtain ⟨k2, h⟩ := h
  refine gf_X1_19 X V k2 dX1_isAtPlaceOf_5 ?_
  refine lv_icmp_ne (tgt := 26) X.1.1 X.1.2.1 dX1_isAtPlaceOf_8 (by decide) (fun c3 => ?_) (fun c3 => ?_)
  · have h := h.1 c3
    refine lv_iconst (v := (0 : Int32)) X.1.1 X.1.2.1 dX1_isAtPlaceOf_26 (by decide) ?_
    exact W.zret X.1.1 X.1.2.1 hr (by decide) (fun t ht _ => V.q (r := (0 : Int32)) h ht) V.2.1.2.2 dX1_isAtPlaceOf_27 X.1.2.2.2.2
  · have h := h.2 c3
    refine lv_aload_n X.1.1 X.1.2.1 dX1_isAtPlaceOf_11 rfl (lv_at hl 0 rfl) ?_
    refine gf_X1_22 X V k1 dX1_isAtPlaceOf_12 ?_
    refine lv_aload_n X.1.1 X.1.2.1 dX1_isAtPlaceOf_15 rfl (lv_at hl 1 rfl) ?_
    refine gf_X1_22 X V k2 dX1_isAtPlaceOf_16 ?_
    refine lv_icmp_ne (tgt := 26) X.1.1 X.1.2.1 dX1_isAtPlaceOf_19 (by decide) (fun c4 => ?_) (fun c4 => ?_)
    · have h := h.1 c4
      refine lv_iconst (v := (0 : Int32)) X.1.1 X.1.2.1 dX1_isAtPlaceOf_26 (by decide) ?_
      exact W.zret X.1.1 X.1.2.1 hr (by decide) (fun t ht _ => V.q (r := (0 : Int32)) h ht) V.2.1.2.2 dX1_isAtPlaceOf_27 X.1.2.2.2.2
    · have h := h.2 c4
      refine lv_iconst (v := (1 : Int32)) X.1.1 X.1.2.1 dX1_isAtPlaceOf_22 (by decide) ?_
      refine lv_goto (tgt := 27) X.1.1 X.1.2.1 dX1_isAtPlaceOf_23 (by decide) ?_
      exact W.zret X.1.1 X.1.2.1 hr (by decide) (fun t ht _ => V.q (r := (1 : Int32)) h ht) V.2.1.2.2 dX1_isAtPlaceOf_27 X.1.2.2.2.2
abbrev rm_X1_tell : Room := { frames := 0, cells := 0, slots := 0, locals := 0 }
def wp_X1_tell (post : Int64 → HS → Prop) (S : HS) (a0 : Nat) (v1 : Int32) : Prop := ((v1 = (0 : Int32) → kd S a0 = 3 ∧ (post ((fi S 7 a0).toInt64) S)) ∧ (v1 = (1 : Int32) → kd S a0 = 3 ∧ (post (fl S 8 a0) S)) ∧ (v1 = (2 : Int32) → kd S a0 = 3 ∧ (post ((fi S 9 a0).toInt64) S)) ∧ (v1 = (3 : Int32) → kd S a0 = 3 ∧ (post ((fi S 10 a0).toInt64) S)) ∧ (v1 = (4 : Int32) → kd S a0 = 3 ∧ (post ((fi S 11 a0).toInt64) S)) ∧ (¬ v1 = (0 : Int32) → ¬ v1 = (1 : Int32) → ¬ v1 = (2 : Int32) → ¬ v1 = (3 : Int32) → ¬ v1 = (4 : Int32) → post (-1 : Int64) S))
set_option maxHeartbeats 400000 in
set_option maxRecDepth 100000 in
theorem sd_X1_tell (l : Launch) (D : va_G) (ka : Nat → ClassId) (sz : Nat) (Z : HS) (post : Int64 → HS → Prop) (a0 : Nat) (v1 : Int32) (h : wp_X1_tell post Z a0 v1) : Met l yX1_tell [Cond.code yX1_tell cX1_tell 2 (some .long)] rm_X1_tell (Px D ka Z sz [.ref a0, .int v1]) (Qx eL post D ka Z sz) 0 0 (fA Z sz) := by
  refine Met.ofW (cc := cX1_tell) (maxL := 2) (ret := (some .long)) (by decide) rfl ?_
  intro p e s m args below meth c s₁ B hml hv
  obtain ⟨rfl, X, V, hsz⟩ := Cx.entry B hml hv
  have hr : meth.sig.returnType = (some .long) := B.returns
  have hl := lv_entry ([.ref a0, .int v1]) (n := 2) (Nat.le_of_ble_eq_true rfl)
  rw [lg_entry_eq]
  generalize (lg_sl ([.ref a0, .int v1]) ++ List.replicate (2 - (lg_sl ([.ref a0, .int v1])).length) Slot.unset).toArray = ls at hl ⊢
  have hl : lv_has ls 2 [(0, .ref a0), (1, .int v1)] := hl
  have h : wp_X1_tell post Z a0 v1 := h
  refine lv_iload_n X.1.1 X.1.2.1 dX1_tell_0 rfl (lv_at hl 1 rfl) ?_
  by_cases c1_0 : v1 = (0 : Int32)
  · have h := h.1 c1_0
    refine lv_tableIn (off := 35) (tgt := 36) X.1.1 X.1.2.1 dX1_tell_1 (by rw [c1_0]; decide) (by rw [c1_0]; decide) (by rw [c1_0]; rfl) (by decide) ?_
    refine lv_aload_n X.1.1 X.1.2.1 dX1_tell_36 rfl (lv_at hl 0 rfl) ?_
    obtain ⟨k2, h⟩ := h
    refine gf_X1_9 X V k2 dX1_tell_37 ?_
    refine lv_i2l X.1.1 X.1.2.1 dX1_tell_40 rfl ?_
    exact W.lret X.1.1 X.1.2.1 hr (fun t ht _ => V.q (r := (fi Z 7 a0).toInt64) h ht) V.2.1.2.2 dX1_tell_41 X.1.2.2.2.2
  have h := h.2
  by_cases c1_1 : v1 = (1 : Int32)
  · have h := h.1 c1_1
    refine lv_tableIn (off := 41) (tgt := 42) X.1.1 X.1.2.1 dX1_tell_1 (by rw [c1_1]; decide) (by rw [c1_1]; decide) (by rw [c1_1]; rfl) (by decide) ?_
    refine lv_aload_n X.1.1 X.1.2.1 dX1_tell_42 rfl (lv_at hl 0 rfl) ?_
    obtain ⟨k3, h⟩ := h
    refine gf_X1_15 X V k3 dX1_tell_43 ?_
    exact W.lret X.1.1 X.1.2.1 hr (fun t ht _ => V.q (r := (fl Z 8 a0)) h ht) V.2.1.2.2 dX1_tell_46 X.1.2.2.2.2
  have h := h.2
  by_cases c1_2 : v1 = (2 : Int32)
  · have h := h.1 c1_2
    refine lv_tableIn (off := 46) (tgt := 47) X.1.1 X.1.2.1 dX1_tell_1 (by rw [c1_2]; decide) (by rw [c1_2]; decide) (by rw [c1_2]; rfl) (by decide) ?_
    refine lv_aload_n X.1.1 X.1.2.1 dX1_tell_47 rfl (lv_at hl 0 rfl) ?_
    obtain ⟨k4, h⟩ := h
    refine gf_X1_19 X V k4 dX1_tell_48 ?_
    refine lv_i2l X.1.1 X.1.2.1 dX1_tell_51 rfl ?_
    exact W.lret X.1.1 X.1.2.1 hr (fun t ht _ => V.q (r := (fi Z 9 a0).toInt64) h ht) V.2.1.2.2 dX1_tell_52 X.1.2.2.2.2
  have h := h.2
  by_cases c1_3 : v1 = (3 : Int32)
  · have h := h.1 c1_3
    refine lv_tableIn (off := 52) (tgt := 53) X.1.1 X.1.2.1 dX1_tell_1 (by rw [c1_3]; decide) (by rw [c1_3]; decide) (by rw [c1_3]; rfl) (by decide) ?_
    refine lv_aload_n X.1.1 X.1.2.1 dX1_tell_53 rfl (lv_at hl 0 rfl) ?_
    obtain ⟨k5, h⟩ := h
    refine gf_X1_22 X V k5 dX1_tell_54 ?_
    refine lv_i2l X.1.1 X.1.2.1 dX1_tell_57 rfl ?_
    exact W.lret X.1.1 X.1.2.1 hr (fun t ht _ => V.q (r := (fi Z 10 a0).toInt64) h ht) V.2.1.2.2 dX1_tell_58 X.1.2.2.2.2
  have h := h.2
  by_cases c1_4 : v1 = (4 : Int32)
  · have h := h.1 c1_4
    refine lv_tableIn (off := 58) (tgt := 59) X.1.1 X.1.2.1 dX1_tell_1 (by rw [c1_4]; decide) (by rw [c1_4]; decide) (by rw [c1_4]; rfl) (by decide) ?_
    refine lv_aload_n X.1.1 X.1.2.1 dX1_tell_59 rfl (lv_at hl 0 rfl) ?_
    obtain ⟨k6, h⟩ := h
    refine gf_X1_25 X V k6 dX1_tell_60 ?_
    refine lv_i2l X.1.1 X.1.2.1 dX1_tell_63 rfl ?_
    exact W.lret X.1.1 X.1.2.1 hr (fun t ht _ => V.q (r := (fi Z 11 a0).toInt64) h ht) V.2.1.2.2 dX1_tell_64 X.1.2.2.2.2
  have h := h.2
  have h := h c1_0 c1_1 c1_2 c1_3 c1_4
  refine lv_tableOut (tgt := 65) X.1.1 X.1.2.1 dX1_tell_1 (sw_out 4 _ (by intro j hj; rcases (show j = 0 ∨ j = 1 ∨ j = 2 ∨ j = 3 ∨ j = 4 by omega) with rfl | rfl | rfl | rfl | rfl <;> first | exact c1_0 | exact c1_1 | exact c1_2 | exact c1_3 | exact c1_4)) (by decide) ?_
  refine lv_ldc2 (v := (-1 : Int64)) X.1.1 X.1.2.1 X.1.2.2.2.1 (X.w wd_147 rfl _) dX1_tell_65 ?_
  exact W.lret X.1.1 X.1.2.1 hr (fun t ht _ => V.q (r := (-1 : Int64)) h ht) V.2.1.2.2 dX1_tell_68 X.1.2.2.2.2
abbrev rm_X2_init : Room := { frames := 1, cells := 0, slots := 0, locals := 12 }
def wp_X2_init (post : Unit → HS → Prop) (S : HS) (a0 : Nat) (a1 : Nat) (v2 : Int32) : Prop := kd S a0 = 4 ∧ (post () (sfi (sfr S 12 a0 (some a1)) 13 a0 v2))
set_option maxHeartbeats 400000 in
set_option maxRecDepth 100000 in
theorem sd_X2_init (l : Launch) (D : va_G) (ka : Nat → ClassId) (sz : Nat) (Z : HS) (post : Unit → HS → Prop) (a0 : Nat) (a1 : Nat) (v2 : Int32) (h : wp_X2_init post Z a0 a1 v2) : Met l yX2_init [Cond.code yX2_init cX2_init 3 none] rm_X2_init (Px D ka Z sz [.ref a0, .ref a1, .int v2]) (Qx eV post D ka Z sz) 0 0 (fA Z sz) := by
  refine Met.ofW (cc := cX2_init) (maxL := 3) (ret := none) (by decide) rfl ?_
  intro p e s m args below meth c s₁ B hml hv
  obtain ⟨rfl, X, V, hsz⟩ := Cx.entry B hml hv
  have hr : meth.sig.returnType = none := B.returns
  have hin2 : meth.name = "<init>" := (name_of_methodNamed B.named B.method).1
  have hl := lv_entry ([.ref a0, .ref a1, .int v2]) (n := 3) (Nat.le_of_ble_eq_true rfl)
  rw [lg_entry_eq]
  generalize (lg_sl ([.ref a0, .ref a1, .int v2]) ++ List.replicate (3 - (lg_sl ([.ref a0, .ref a1, .int v2])).length) Slot.unset).toArray = ls at hl ⊢
  have hl : lv_has ls 3 [(0, .ref a0), (1, .ref a1), (2, .int v2)] := hl
  have h : wp_X2_init post Z a0 a1 v2 := h
  refine lv_aload_n X.1.1 X.1.2.1 dX2_init_0 rfl (lv_at hl 0 rfl) ?_
  refine W.objInit X.1.1 X.1.2.1 X.1.2.2.2.1 (X.w wd_148 rfl _) (X.w wd_1 rfl _) (X.w wd_2 rfl _) rfl (by rw [X.1.2.2.1]; exact hl.1) rfl dX2_init_1 (Nat.le_of_ble_eq_true rfl) (Nat.le_of_ble_eq_true rfl) ?_
  refine W.eq (g2 := F0 m 4 ls []) rfl ?_
  refine lv_aload_n X.1.1 X.1.2.1 dX2_init_4 rfl (lv_at hl 0 rfl) ?_
  refine lv_aload_n X.1.1 X.1.2.1 dX2_init_5 rfl (lv_at hl 1 rfl) ?_
  obtain ⟨k1, h⟩ := h
  refine pf_X2_7 X V k1 hin2 dX2_init_6 (fun H locs V => ?_)
  refine lv_aload_n X.1.1 X.1.2.1 dX2_init_9 rfl (lv_at hl 0 rfl) ?_
  refine lv_iload_n X.1.1 X.1.2.1 dX2_init_10 rfl (lv_at hl 2 rfl) ?_
  refine pf_X2_13 X V k1 hin2 dX2_init_11 (fun H locs V => ?_)
  exact W.vret X.1.1 X.1.2.1 hr (fun t ht _ => V.q (r := ()) h ht) V.2.1.2.2 dX2_init_14 X.1.2.2.2.2
abbrev rm_X4_init : Room := { frames := 1, cells := 1, slots := 6, locals := 12 }
def wp_X4_init (post : Unit → HS → Prop) (S : HS) (a0 : Nat) (v1 : Int32) (v2 : Int32) (v3 : Int32) : Prop := ∀ o1 : Nat, kd S o1 = 0 → (kd (snw S o1 160 6) a0 = 6 ∧ (post () (sfl (sfi (sfi (sfr (snw S o1 160 6) 18 a0 (some o1)) 19 a0 v1) 16 a0 v2) 17 a0 ((2199023255552 : Int64) ||| (v3.toInt64 &&& (4294967295 : Int64))))))
set_option maxHeartbeats 400000 in
set_option maxRecDepth 100000 in
theorem sd_X4_init (l : Launch) (D : va_G) (ka : Nat → ClassId) (sz : Nat) (Z : HS) (post : Unit → HS → Prop) (a0 : Nat) (v1 : Int32) (v2 : Int32) (v3 : Int32) (h : wp_X4_init post Z a0 v1 v2 v3) : Met l yX4_init [Cond.code yX4_init cX4_init 4 none] rm_X4_init (Px D ka Z sz [.ref a0, .int v1, .int v2, .int v3]) (Qx eV post D ka Z sz) 1 6 (fA Z sz) := by
  refine Met.ofW (cc := cX4_init) (maxL := 4) (ret := none) (by decide) rfl ?_
  intro p e s m args below meth c s₁ B hml hv
  obtain ⟨rfl, X, V, hsz⟩ := Cx.entry B hml hv
  have hr : meth.sig.returnType = none := B.returns
  have hin2 : meth.name = "<init>" := (name_of_methodNamed B.named B.method).1
  have hl := lv_entry ([.ref a0, .int v1, .int v2, .int v3]) (n := 4) (Nat.le_of_ble_eq_true rfl)
  rw [lg_entry_eq]
  generalize (lg_sl ([.ref a0, .int v1, .int v2, .int v3]) ++ List.replicate (4 - (lg_sl ([.ref a0, .int v1, .int v2, .int v3])).length) Slot.unset).toArray = ls at hl ⊢
  have hl : lv_has ls 4 [(0, .ref a0), (1, .int v1), (2, .int v2), (3, .int v3)] := hl
  have h : wp_X4_init post Z a0 v1 v2 v3 := h
  refine lv_aload_n X.1.1 X.1.2.1 dX4_init_0 rfl (lv_at hl 0 rfl) ?_
  refine W.objInit X.1.1 X.1.2.1 X.1.2.2.2.1 (X.w wd_151 rfl _) (X.w wd_1 rfl _) (X.w wd_2 rfl _) rfl (by rw [X.1.2.2.1]; exact hl.1) rfl dX4_init_1 (Nat.le_of_ble_eq_true rfl) (Nat.le_of_ble_eq_true rfl) ?_
  refine W.eq (g2 := F0 m 4 ls []) rfl ?_
  refine lv_aload_n X.1.1 X.1.2.1 dX4_init_4 rfl (lv_at hl 0 rfl) ?_
  refine lv_bipush (v := (6 : Int32)) X.1.1 X.1.2.1 dX4_init_5 (by decide) ?_
  refine r_newq (t := 4) (k := 160) (C := RX3) (N' := 6) X V wd_152 wd_153 rfl (by decide) (by decide) (fun q => na_160) (by decide) (by decide) (by decide) (show 1 ≤ 1 by omega) (show 6 ≤ 6 by omega) dX4_init_7 (fun o1 H z2 V => ?_)
  have h := h o1 z2
  refine W.widen (k := 1) (n := 6) (by omega) (by omega) ?_
  have k3 : kd (snw Z o1 160 6) o1 / 32 = 5 := by show va_up (kd _) _ _ _ / 32 = _; rw [va_up_self]
  obtain ⟨k4, h⟩ := h
  refine pf_X4_11 X V k4 hin2 dX4_init_10 (fun H locs V => ?_)
  refine lv_aload_n X.1.1 X.1.2.1 dX4_init_13 rfl (lv_at hl 0 rfl) ?_
  refine lv_iload_n X.1.1 X.1.2.1 dX4_init_14 rfl (lv_at hl 1 rfl) ?_
  refine pf_X4_15 X V k4 dX4_init_15 (fun H locs V => ?_)
  refine lv_aload_n X.1.1 X.1.2.1 dX4_init_18 rfl (lv_at hl 0 rfl) ?_
  refine lv_iload_n X.1.1 X.1.2.1 dX4_init_19 rfl (lv_at hl 2 rfl) ?_
  refine pf_X4_19 X V k4 hin2 dX4_init_20 (fun H locs V => ?_)
  refine lv_aload_n X.1.1 X.1.2.1 dX4_init_23 rfl (lv_at hl 0 rfl) ?_
  refine lv_ldc2 (v := (2199023255552 : Int64)) X.1.1 X.1.2.1 X.1.2.2.2.1 (X.w wd_157 rfl _) dX4_init_24 ?_
  refine lv_iload_n X.1.1 X.1.2.1 dX4_init_27 rfl (lv_at hl 3 rfl) ?_
  refine lv_i2l X.1.1 X.1.2.1 dX4_init_28 rfl ?_
  refine lv_ldc2 (v := (4294967295 : Int64)) X.1.1 X.1.2.1 X.1.2.2.2.1 (X.w wd_158 rfl _) dX4_init_29 ?_
  refine lv_land X.1.1 X.1.2.1 dX4_init_32 ?_
  refine lv_lor X.1.1 X.1.2.1 dX4_init_33 ?_
  refine pf_X4_26 X V k4 hin2 dX4_init_34 (fun H locs V => ?_)
  refine W.widen (k := 1) (n := 6) (by omega) (by omega) ?_
  exact W.vret X.1.1 X.1.2.1 hr (fun t ht _ => V.q (r := ()) h ht) V.2.1.2.2 dX4_init_37 X.1.2.2.2.2
abbrev rm_X4_isThere : Room := { frames := 0, cells := 0, slots := 0, locals := 0 }
def wp_X4_isThere (post : Int32 → HS → Prop) (S : HS) (a0 : Nat) (v1 : Int32) (v2 : Int32) : Prop := kd S a0 = 6 ∧ (((¬ (fi S 19 a0) = v1 → post (0 : Int32) S) ∧ ((fi S 19 a0) = v1 → ((¬ (fi S 16 a0) = v2 → post (0 : Int32) S) ∧ ((fi S 16 a0) = v2 → post (1 : Int32) S)))))
set_option maxHeartbeats 400000 in
set_option maxRecDepth 100000 in
theorem sd_X4_isThere (l : Launch) (D : va_G) (ka : Nat → ClassId) (sz : Nat) (Z : HS) (post : Int32 → HS → Prop) (a0 : Nat) (v1 : Int32) (v2 : Int32) (h : wp_X4_isThere post Z a0 v1 v2) : Met l yX4_isThere [Cond.code yX4_isThere cX4_isThere 3 (some .boolean)] rm_X4_isThere (Px D ka Z sz [.ref a0, .int v1, .int v2]) (Qx eI post D ka Z sz) 0 0 (fA Z sz) := by
  refine Met.ofW (cc := cX4_isThere) (maxL := 3) (ret := (some .boolean)) (by decide) rfl ?_
  intro p e s m args below meth c s₁ B hml hv
  obtain ⟨rfl, X, V, hsz⟩ := Cx.entry B hml hv
  have hr : meth.sig.returnType = (some .boolean) := B.returns
  have hl := lv_entry ([.ref a0, .int v1, .int v2]) (n := 3) (Nat.le_of_ble_eq_true rfl)
  rw [lg_entry_eq]
  generalize (lg_sl ([.ref a0, .int v1, .int v2]) ++ List.replicate (3 - (lg_sl ([.ref a0, .int v1, .int v2])).length) Slot.unset).toArray = ls at hl ⊢
  have hl : lv_has ls 3 [(0, .ref a0), (1, .int v1), (2, .int v2)] := hl
  have h : wp_X4_isThere post Z a0 v1 v2 := h
  refine lv_aload_n X.1.1 X.1.2.1 dX4_isThere_0 rfl (lv_at hl 0 rfl) ?_
  obtain ⟨k1, h⟩ := h
  refine gf_X4_15 X V k1 dX4_isThere_1 ?_
  refine lv_iload_n X.1.1 X.1.2.1 dX4_isThere_4 rfl (lv_at hl 1 rfl) ?_
  refine lv_icmp_ne (tgt := 20) X.1.1 X.1.2.1 dX4_isThere_5 (by decide) (fun c2 => ?_) (fun c2 => ?_)
  · have h := h.1 c2
    refine lv_iconst (v := (0 : Int32)) X.1.1 X.1.2.1 dX4_isThere_20 (by decide) ?_
    exact W.zret X.1.1 X.1.2.1 hr (by decide) (fun t ht _ => V.q (r := (0 : Int32)) h ht) V.2.1.2.2 dX4_isThere_21 X.1.2.2.2.2
  · have h := h.2 c2
    refine lv_aload_n X.1.1 X.1.2.1 dX4_isThere_8 rfl (lv_at hl 0 rfl) ?_
    refine gf_X4_19 X V k1 dX4_isThere_9 ?_
    refine lv_iload_n X.1.1 X.1.2.1 dX4_isThere_12 rfl (lv_at hl 2 rfl) ?_
    refine lv_icmp_ne (tgt := 20) X.1.1 X.1.2.1 dX4_isThere_13 (by decide) (fun c3 => ?_) (fun c3 => ?_)
    · have h := h.1 c3
      refine lv_iconst (v := (0 : Int32)) X.1.1 X.1.2.1 dX4_isThere_20 (by decide) ?_
      exact W.zret X.1.1 X.1.2.1 hr (by decide) (fun t ht _ => V.q (r := (0 : Int32)) h ht) V.2.1.2.2 dX4_isThere_21 X.1.2.2.2.2
    · have h := h.2 c3
      refine lv_iconst (v := (1 : Int32)) X.1.1 X.1.2.1 dX4_isThere_16 (by decide) ?_
      refine lv_goto (tgt := 21) X.1.1 X.1.2.1 dX4_isThere_17 (by decide) ?_
      exact W.zret X.1.1 X.1.2.1 hr (by decide) (fun t ht _ => V.q (r := (1 : Int32)) h ht) V.2.1.2.2 dX4_isThere_21 X.1.2.2.2.2
abbrev rm_X4_take : Room := { frames := 0, cells := 0, slots := 0, locals := 0 }
def wp_X4_take_2 : Nat → (Unit → HS → Prop) → HS → Nat → Nat → Int32 → Prop
  | 0, _, _, _, _, _ => False
  | n + 1, post, S, b0, b1, x2 => ((x2 ≤ 0 → kd S b0 = 6 ∧ (∃ o3 : Nat, fr S 18 b0 = some o3 ∧ (kd S o3 / 32 = 5 ∧ (kd S b1 = 5 ∧ (vp_in (0 : Int32) (ln S o3) ∧ (post () (sfi (sar S o3 (0 : Int32).toNatClampNeg (some b1)) 20 b0 ((fi (sar S o3 (0 : Int32).toNatClampNeg (some b1)) 20 b0) + (1 : Int32))))))))) ∧ (¬ x2 ≤ 0 → kd S b0 = 6 ∧ (∃ o9 : Nat, fr S 18 b0 = some o9 ∧ (∃ o11 : Nat, fr S 18 b0 = some o11 ∧ (kd S o11 / 32 = 5 ∧ (vp_in (x2 - (1 : Int32)) (ln S o11) ∧ (((ar S o11 (x2 - (1 : Int32)).toNatClampNeg = none → kd S o9 / 32 = 5 ∧ (vp_in x2 (ln S o9) ∧ (wp_X4_take_2 n post (sar S o9 x2.toNatClampNeg none) b0 b1 (x2 + (-1 : Int32))))) ∧ (∀ o16 : Nat, ar S o11 (x2 - (1 : Int32)).toNatClampNeg = some o16 → kd S o9 / 32 = 5 ∧ (kd S o16 = 5 ∧ (vp_in x2 (ln S o9) ∧ (wp_X4_take_2 n post (sar S o9 x2.toNatClampNeg (some o16)) b0 b1 (x2 + (-1 : Int32))))))))))))))
set_option maxHeartbeats 400000 in
set_option maxRecDepth 100000 in
theorem sl_X4_take_2 (l : Launch) (D : va_G) (ka : Nat → ClassId) (sz : Nat) (Z : HS) (post : Unit → HS → Prop) {p : Program} {e : Env} {s : State} {m : MethodId} {args : Array Value} {below : List Frame} {meth : Method} {c : Code} (X : Cx p s m meth c cX4_take 3 RX4 D ka Z (fA Z sz)) (hr : meth.sig.returnType = none)  : ∀ (n : Nat), ∀ (S : HS) (b0 : Nat) (b1 : Nat) (x2 : Int32), wp_X4_take_2 n post S b0 b1 x2 → ∀ (H : Heap) (locs : List Loc) (ls : Array Slot), Hv D ka Z s (fA Z sz) S H locs → lv_has ls 3 [(0, .ref b0), (1, .ref b1), (2, .int x2)] → W p l e rm_X4_take s m args below meth c H locs 0 0 (MQ below (Qx eV post D ka Z sz) args s 0 0 (fA Z sz)) (F0 m 2 ls []) := by
  intro n
  induction n with
  | zero => intro S b0 b1 x2 h; exact h.elim
  | succ n ih =>
    intro S b0 b1 x2 h H locs ls V hl
    refine lv_iload_n X.1.1 X.1.2.1 dX4_take_2 rfl (lv_at hl 2 rfl) ?_
    refine lv_if_le (tgt := 26) X.1.1 X.1.2.1 dX4_take_3 (by decide) (fun c1 => ?_) (fun c1 => ?_)
    · have h := h.1 c1
      refine lv_aload_n X.1.1 X.1.2.1 dX4_take_26 rfl (lv_at hl 0 rfl) ?_
      obtain ⟨k2, h⟩ := h
      obtain ⟨o3, e4, h⟩ := h
      refine gf_X4_11 X V k2 e4 dX4_take_27 ?_
      refine lv_iconst (v := (0 : Int32)) X.1.1 X.1.2.1 dX4_take_30 (by decide) ?_
      refine lv_aload_n X.1.1 X.1.2.1 dX4_take_31 rfl (lv_at hl 1 rfl) ?_
      obtain ⟨k5, h⟩ := h
      obtain ⟨k7, h⟩ := h
      obtain ⟨i6, h⟩ := h
      refine r_aast X V (Or.inr (Or.inr ⟨k5, k7⟩)) i6 dX4_take_32 (fun H locs V => ?_)
      refine lv_aload_n X.1.1 X.1.2.1 dX4_take_33 rfl (lv_at hl 0 rfl) ?_
      refine lv_dup X.1.1 X.1.2.1 dX4_take_34 rfl ?_
      refine gf_X4_30 X V k2 dX4_take_35 ?_
      refine lv_iconst (v := (1 : Int32)) X.1.1 X.1.2.1 dX4_take_38 (by decide) ?_
      refine lv_iadd X.1.1 X.1.2.1 dX4_take_39 ?_
      refine pf_X4_30 X V k2 dX4_take_40 (fun H locs V => ?_)
      exact W.vret X.1.1 X.1.2.1 hr (fun t ht _ => V.q (r := ()) h ht) V.2.1.2.2 dX4_take_43 X.1.2.2.2.2
    · have h := h.2 c1
      refine lv_aload_n X.1.1 X.1.2.1 dX4_take_6 rfl (lv_at hl 0 rfl) ?_
      obtain ⟨k8, h⟩ := h
      obtain ⟨o9, e10, h⟩ := h
      refine gf_X4_11 X V k8 e10 dX4_take_7 ?_
      refine lv_iload_n X.1.1 X.1.2.1 dX4_take_10 rfl (lv_at hl 2 rfl) ?_
      refine lv_aload_n X.1.1 X.1.2.1 dX4_take_11 rfl (lv_at hl 0 rfl) ?_
      obtain ⟨o11, e12, h⟩ := h
      refine gf_X4_11 X V k8 e12 dX4_take_12 ?_
      refine lv_iload_n X.1.1 X.1.2.1 dX4_take_15 rfl (lv_at hl 2 rfl) ?_
      refine lv_iconst (v := (1 : Int32)) X.1.1 X.1.2.1 dX4_take_16 (by decide) ?_
      refine lv_isub X.1.1 X.1.2.1 dX4_take_17 ?_
      obtain ⟨k15, h⟩ := h
      obtain ⟨i13, h⟩ := h
      refine r_aald X V (Or.inr (Or.inl k15)) i13 dX4_take_18 ?_
      cases e17 : ar S o11 (x2 - (1 : Int32)).toNatClampNeg with
      | none =>
        have h := h.1 e17
        obtain ⟨k18, h⟩ := h
        obtain ⟨i19, h⟩ := h
        refine r_aastN X V (Or.inr (Or.inr k18)) i19 dX4_take_19 (fun H locs V => ?_)
        refine lv_iinc (v := (x2 + (-1 : Int32))) (lv' := [(2, .int (x2 + (-1 : Int32))), (0, .ref b0), (1, .ref b1)]) X.1.1 X.1.2.1 dX4_take_20 hl (k := 2) rfl (congrArg (HAdd.hAdd _) (by decide)) (by decide) rfl (fun ls hl => ?_)
        refine lv_goto (tgt := 2) X.1.1 X.1.2.1 dX4_take_23 (by decide) ?_
        exact ih (sar S o9 x2.toNatClampNeg none) b0 b1 (x2 + (-1 : Int32)) h _ _ _ V (lv_sub hl [1, 2, 0] rfl)
      | some o16 =>
        have h := h.2 o16 e17
        obtain ⟨k20, h⟩ := h
        obtain ⟨k22, h⟩ := h
        obtain ⟨i21, h⟩ := h
        refine r_aast X V (Or.inr (Or.inr ⟨k20, k22⟩)) i21 dX4_take_19 (fun H locs V => ?_)
        refine lv_iinc (v := (x2 + (-1 : Int32))) (lv' := [(2, .int (x2 + (-1 : Int32))), (0, .ref b0), (1, .ref b1)]) X.1.1 X.1.2.1 dX4_take_20 hl (k := 2) rfl (congrArg (HAdd.hAdd _) (by decide)) (by decide) rfl (fun ls hl => ?_)
        refine lv_goto (tgt := 2) X.1.1 X.1.2.1 dX4_take_23 (by decide) ?_
        exact ih (sar S o9 x2.toNatClampNeg (some o16)) b0 b1 (x2 + (-1 : Int32)) h _ _ _ V (lv_sub hl [1, 2, 0] rfl)
def wp_X4_take (post : Unit → HS → Prop) (S : HS) (a0 : Nat) (a1 : Nat) : Prop := ∃ n9, wp_X4_take_2 n9 post S a0 a1 (5 : Int32)
set_option maxHeartbeats 400000 in
set_option maxRecDepth 100000 in
theorem sd_X4_take (l : Launch) (D : va_G) (ka : Nat → ClassId) (sz : Nat) (Z : HS) (post : Unit → HS → Prop) (a0 : Nat) (a1 : Nat) (h : wp_X4_take post Z a0 a1) : Met l yX4_take [Cond.code yX4_take cX4_take 3 none] rm_X4_take (Px D ka Z sz [.ref a0, .ref a1]) (Qx eV post D ka Z sz) 0 0 (fA Z sz) := by
  refine Met.ofW (cc := cX4_take) (maxL := 3) (ret := none) (by decide) rfl ?_
  intro p e s m args below meth c s₁ B hml hv
  obtain ⟨rfl, X, V, hsz⟩ := Cx.entry B hml hv
  have hr : meth.sig.returnType = none := B.returns
  have hl := lv_entry ([.ref a0, .ref a1]) (n := 3) (Nat.le_of_ble_eq_true rfl)
  rw [lg_entry_eq]
  generalize (lg_sl ([.ref a0, .ref a1]) ++ List.replicate (3 - (lg_sl ([.ref a0, .ref a1])).length) Slot.unset).toArray = ls at hl ⊢
  have hl : lv_has ls 3 [(0, .ref a0), (1, .ref a1)] := hl
  have h : wp_X4_take post Z a0 a1 := h
  refine lv_iconst (v := (5 : Int32)) X.1.1 X.1.2.1 dX4_take_0 (by decide) ?_
  refine lv_istore_n (lv' := [(2, .int (5 : Int32)), (0, .ref a0), (1, .ref a1)]) X.1.1 X.1.2.1 dX4_take_1 rfl hl (by decide) rfl (fun ls hl => ?_)
  obtain ⟨n9, h⟩ := h
  exact sl_X4_take_2 l D ka sz Z post X hr n9 Z a0 a1 (5 : Int32) h _ _ _ V (lv_sub hl [1, 2, 0] rfl)
abbrev rm_X4_latestFrame : Room := { frames := 0, cells := 0, slots := 0, locals := 0 }
def wp_X4_latestFrame (post : (Option Nat) → HS → Prop) (S : HS) (a0 : Nat) (v1 : Int32) : Prop := ((v1 < 0 → post none S) ∧ (¬ v1 < 0 → ((v1 < (6 : Int32) → kd S a0 = 6 ∧ (∃ o4 : Nat, fr S 18 a0 = some o4 ∧ (kd S o4 / 32 = 5 ∧ (vp_in v1 (ln S o4) ∧ (((ar S o4 v1.toNatClampNeg = none → post none S) ∧ (∀ o9 : Nat, ar S o4 v1.toNatClampNeg = some o9 → post (some o9) S))))))) ∧ (¬ v1 < (6 : Int32) → post none S))))
set_option maxHeartbeats 400000 in
set_option maxRecDepth 100000 in
theorem sd_X4_latestFrame (l : Launch) (D : va_G) (ka : Nat → ClassId) (sz : Nat) (Z : HS) (post : (Option Nat) → HS → Prop) (a0 : Nat) (v1 : Int32) (h : wp_X4_latestFrame post Z a0 v1) : Met l yX4_latestFrame [Cond.code yX4_latestFrame cX4_latestFrame 2 (some (.object "OverlayFabric$Row"))] rm_X4_latestFrame (Px D ka Z sz [.ref a0, .int v1]) (Qx eR post D ka Z sz) 0 0 (fA Z sz) := by
  refine Met.ofW (cc := cX4_latestFrame) (maxL := 2) (ret := (some (.object "OverlayFabric$Row"))) (by decide) rfl ?_
  intro p e s m args below meth c s₁ B hml hv
  obtain ⟨rfl, X, V, hsz⟩ := Cx.entry B hml hv
  have hr : meth.sig.returnType = (some (.object "OverlayFabric$Row")) := B.returns
  have hl := lv_entry ([.ref a0, .int v1]) (n := 2) (Nat.le_of_ble_eq_true rfl)
  rw [lg_entry_eq]
  generalize (lg_sl ([.ref a0, .int v1]) ++ List.replicate (2 - (lg_sl ([.ref a0, .int v1])).length) Slot.unset).toArray = ls at hl ⊢
  have hl : lv_has ls 2 [(0, .ref a0), (1, .int v1)] := hl
  have h : wp_X4_latestFrame post Z a0 v1 := h
  refine lv_iload_n X.1.1 X.1.2.1 dX4_latestFrame_0 rfl (lv_at hl 1 rfl) ?_
  refine lv_if_lt (tgt := 10) X.1.1 X.1.2.1 dX4_latestFrame_1 (by decide) (fun c1 => ?_) (fun c1 => ?_)
  · have h := h.1 c1
    refine lv_null X.1.1 X.1.2.1 dX4_latestFrame_10 ?_
    refine lv_goto (tgt := 20) X.1.1 X.1.2.1 dX4_latestFrame_11 (by decide) ?_
    exact W.aret X.1.1 X.1.2.1 hr (Or.inl ⟨_, rfl⟩) (Or.inl rfl) (fun t ht _ => V.q (r := none) h ht) V.2.1.2.2 dX4_latestFrame_20 X.1.2.2.2.2
  · have h := h.2 c1
    refine lv_iload_n X.1.1 X.1.2.1 dX4_latestFrame_4 rfl (lv_at hl 1 rfl) ?_
    refine lv_bipush (v := (6 : Int32)) X.1.1 X.1.2.1 dX4_latestFrame_5 (by decide) ?_
    refine lv_icmp_lt (tgt := 14) X.1.1 X.1.2.1 dX4_latestFrame_7 (by decide) (fun c2 => ?_) (fun c2 => ?_)
    · have h := h.1 c2
      refine lv_aload_n X.1.1 X.1.2.1 dX4_latestFrame_14 rfl (lv_at hl 0 rfl) ?_
      obtain ⟨k3, h⟩ := h
      obtain ⟨o4, e5, h⟩ := h
      refine gf_X4_11 X V k3 e5 dX4_latestFrame_15 ?_
      refine lv_iload_n X.1.1 X.1.2.1 dX4_latestFrame_18 rfl (lv_at hl 1 rfl) ?_
      obtain ⟨k8, h⟩ := h
      obtain ⟨i6, h⟩ := h
      refine r_aald X V (Or.inr (Or.inl k8)) i6 dX4_latestFrame_19 ?_
      cases e10 : ar Z o4 v1.toNatClampNeg with
      | none =>
        have h := h.1 e10
        exact W.aret X.1.1 X.1.2.1 hr (Or.inl ⟨_, rfl⟩) (Or.inl rfl) (fun t ht _ => V.q (r := none) h ht) V.2.1.2.2 dX4_latestFrame_20 X.1.2.2.2.2
      | some o9 =>
        have h := h.2 o9 e10
        exact W.aret X.1.1 X.1.2.1 hr (Or.inl ⟨_, rfl⟩) (Or.inr ⟨_, rfl⟩) (fun t ht _ => V.q (r := (some o9)) h ht) V.2.1.2.2 dX4_latestFrame_20 X.1.2.2.2.2
    · have h := h.2 c2
      refine lv_null X.1.1 X.1.2.1 dX4_latestFrame_10 ?_
      refine lv_goto (tgt := 20) X.1.1 X.1.2.1 dX4_latestFrame_11 (by decide) ?_
      exact W.aret X.1.1 X.1.2.1 hr (Or.inl ⟨_, rfl⟩) (Or.inl rfl) (fun t ht _ => V.q (r := none) h ht) V.2.1.2.2 dX4_latestFrame_20 X.1.2.2.2.2
abbrev rm_X5_frameOf : Room := { frames := 2, cells := 2, slots := 122, locals := 45 }
def wp_X5_frameOf (post : (Option Nat) → HS → Prop) (S : HS) (w0 : Int64) (w2 : Int64) (v4 : Int32) (a5 : Nat) : Prop := ∀ o1 : Nat, kd S o1 = 0 → (kd (snw S o1 5 0) a5 = 5 ∧ (wp_X3_init (fun _ S5 => wp_X3_appendNumber (fun _ S8 => wp_X3_appendNumber (fun _ S11 => wp_X3_appendNumber (fun _ S14 => wp_X3_appendRest (fun _ S17 => post (some o1) S17) S14 o1 a5 (0 : Int32)) S11 o1 (v4.toInt64) (2 : Int32)) S8 o1 w2 (6 : Int32)) S5 o1 w0 (6 : Int32)) (snw S o1 5 0) o1 ((14 : Int32) + (fi (snw S o1 5 0) 15 a5))))
set_option maxHeartbeats 400000 in
set_option maxRecDepth 100000 in
theorem sd_X5_frameOf (l : Launch) (D : va_G) (ka : Nat → ClassId) (sz : Nat) (Z : HS) (post : (Option Nat) → HS → Prop) (w0 : Int64) (w2 : Int64) (v4 : Int32) (a5 : Nat) (h : wp_X5_frameOf post Z w0 w2 v4 a5) : Met l yX5_frameOf [Cond.code yX5_frameOf cX5_frameOf 7 (some (.object "OverlayFabric$Row"))] rm_X5_frameOf (Px D ka Z sz [.long w0, .long w2, .int v4, .ref a5]) (Qx eR post D ka Z sz) 2 122 (fA Z sz) := by
  refine Met.ofW (cc := cX5_frameOf) (maxL := 7) (ret := (some (.object "OverlayFabric$Row"))) (by decide) rfl ?_
  intro p e s m args below meth c s₁ B hml hv
  obtain ⟨rfl, X, V, hsz⟩ := Cx.entry B hml hv
  have hr : meth.sig.returnType = (some (.object "OverlayFabric$Row")) := B.returns
  have hl := lv_entry ([.long w0, .long w2, .int v4, .ref a5]) (n := 7) (Nat.le_of_ble_eq_true rfl)
  rw [lg_entry_eq]
  generalize (lg_sl ([.long w0, .long w2, .int v4, .ref a5]) ++ List.replicate (7 - (lg_sl ([.long w0, .long w2, .int v4, .ref a5])).length) Slot.unset).toArray = ls at hl ⊢
  have hl : lv_has ls 7 [(0, .long w0), (2, .long w2), (4, .int v4), (5, .ref a5)] := hl
  have h : wp_X5_frameOf post Z w0 w2 v4 a5 := h
  refine nw_X5_11 X V (show 1 ≤ 2 by omega) (show 2 ≤ 122 by omega) dX5_frameOf_0 (fun o1 H z2 V => ?_)
  have h := h o1 z2
  refine W.widen (k := 1) (n := 2) (by omega) (by omega) ?_
  have k3 : kd (snw Z o1 5 0) o1 = 5 := va_up_self _ _ _
  refine lv_dup X.1.1 X.1.2.1 dX5_frameOf_3 rfl ?_
  refine lv_bipush (v := (14 : Int32)) X.1.1 X.1.2.1 dX5_frameOf_4 (by decide) ?_
  refine lv_aload X.1.1 X.1.2.1 dX5_frameOf_6 (lv_at hl 3 rfl) ?_
  obtain ⟨k4, h⟩ := h
  refine gf_X5_13 X V k4 dX5_frameOf_8 ?_
  refine lv_iadd X.1.1 X.1.2.1 dX5_frameOf_11 ?_
  refine r_callI (n := 1) (As := [.int ((14 : Int32) + (fi (snw Z o1 5 0) 15 a5))]) X V (sd_X3_init l D ka _ (snw Z o1 5 0) _ o1 ((14 : Int32) + (fi (snw Z o1 5 0) 15 a5)) h) wd_164 wd_165 wd_8 wd_166 rfl rfl rfl (by decide +kernel) ⟨Nat.le_of_ble_eq_true rfl, Nat.le_of_ble_eq_true rfl⟩ rfl hl.1 rfl (Nat.le_of_ble_eq_true rfl) dX5_frameOf_12 ⟨show 2 ≤ 2 by omega, show 122 ≤ 122 by omega⟩ (fun r6 S5 H locs h m7 V => ?_)
  have k3 := m7.k k3 (by decide)
  have k4 := m7.k k4 (by decide)
  refine W.widen (k := 2) (n := 122) (by omega) (by omega) ?_
  refine lv_astore (lv' := [(6, .ref o1), (0, .long w0), (2, .long w2), (4, .int v4), (5, .ref a5)]) X.1.1 X.1.2.1 dX5_frameOf_15 hl (by decide) rfl (fun ls hl => ?_)
  refine lv_aload X.1.1 X.1.2.1 dX5_frameOf_17 (lv_at hl 0 rfl) ?_
  refine lv_lload_n X.1.1 X.1.2.1 dX5_frameOf_19 rfl (lv_at hl 1 rfl) ?_
  refine lv_bipush (v := (6 : Int32)) X.1.1 X.1.2.1 dX5_frameOf_20 (by decide) ?_
  refine r_callV (k := 5) (n := 2) (As := [.long w0, .int (6 : Int32)]) X V (sd_X3_appendNumber l D ka _ S5 _ o1 w0 (6 : Int32) h) k3 (by decide) (by decide) rfl wd_167 wd_168 wd_8 wd_169 wd_170 rfl rfl (by decide +kernel) ⟨Nat.le_of_ble_eq_true rfl, Nat.le_of_ble_eq_true rfl⟩ rfl hl.1 rfl (Nat.le_of_ble_eq_true rfl) dX5_frameOf_22 ⟨show 2 ≤ 2 by omega, show 122 ≤ 122 by omega⟩ (fun r9 S8 H locs h m10 V => ?_)
  have k3 := m10.k k3 (by decide)
  have k4 := m10.k k4 (by decide)
  refine lv_aload X.1.1 X.1.2.1 dX5_frameOf_25 (lv_at hl 0 rfl) ?_
  refine lv_lload_n X.1.1 X.1.2.1 dX5_frameOf_27 rfl (lv_at hl 2 rfl) ?_
  refine lv_bipush (v := (6 : Int32)) X.1.1 X.1.2.1 dX5_frameOf_28 (by decide) ?_
  refine r_callV (k := 5) (n := 2) (As := [.long w2, .int (6 : Int32)]) X V (sd_X3_appendNumber l D ka _ S8 _ o1 w2 (6 : Int32) h) k3 (by decide) (by decide) rfl wd_167 wd_168 wd_8 wd_169 wd_170 rfl rfl (by decide +kernel) ⟨Nat.le_of_ble_eq_true rfl, Nat.le_of_ble_eq_true rfl⟩ rfl hl.1 rfl (Nat.le_of_ble_eq_true rfl) dX5_frameOf_30 ⟨show 2 ≤ 2 by omega, show 122 ≤ 122 by omega⟩ (fun r12 S11 H locs h m13 V => ?_)
  have k3 := m13.k k3 (by decide)
  have k4 := m13.k k4 (by decide)
  refine lv_aload X.1.1 X.1.2.1 dX5_frameOf_33 (lv_at hl 0 rfl) ?_
  refine lv_iload X.1.1 X.1.2.1 dX5_frameOf_35 (lv_at hl 3 rfl) ?_
  refine lv_i2l X.1.1 X.1.2.1 dX5_frameOf_37 rfl ?_
  refine lv_iconst (v := (2 : Int32)) X.1.1 X.1.2.1 dX5_frameOf_38 (by decide) ?_
  refine r_callV (k := 5) (n := 2) (As := [.long (v4.toInt64), .int (2 : Int32)]) X V (sd_X3_appendNumber l D ka _ S11 _ o1 (v4.toInt64) (2 : Int32) h) k3 (by decide) (by decide) rfl wd_167 wd_168 wd_8 wd_169 wd_170 rfl rfl (by decide +kernel) ⟨Nat.le_of_ble_eq_true rfl, Nat.le_of_ble_eq_true rfl⟩ rfl hl.1 rfl (Nat.le_of_ble_eq_true rfl) dX5_frameOf_39 ⟨show 2 ≤ 2 by omega, show 122 ≤ 122 by omega⟩ (fun r15 S14 H locs h m16 V => ?_)
  have k3 := m16.k k3 (by decide)
  have k4 := m16.k k4 (by decide)
  refine lv_aload X.1.1 X.1.2.1 dX5_frameOf_42 (lv_at hl 0 rfl) ?_
  refine lv_aload X.1.1 X.1.2.1 dX5_frameOf_44 (lv_at hl 4 rfl) ?_
  refine lv_iconst (v := (0 : Int32)) X.1.1 X.1.2.1 dX5_frameOf_46 (by decide) ?_
  refine r_callV (k := 5) (n := 2) (As := [.ref a5, .int (0 : Int32)]) X V (sd_X3_appendRest l D ka _ S14 _ o1 a5 (0 : Int32) h) k3 (by decide) (by decide) rfl wd_171 wd_172 wd_8 wd_173 wd_174 rfl rfl (by decide +kernel) ⟨Nat.le_of_ble_eq_true rfl, Nat.le_of_ble_eq_true rfl⟩ rfl hl.1 rfl (Nat.le_of_ble_eq_true rfl) dX5_frameOf_47 ⟨show 2 ≤ 2 by omega, show 122 ≤ 122 by omega⟩ (fun r18 S17 H locs h m19 V => ?_)
  have k3 := m19.k k3 (by decide)
  have k4 := m19.k k4 (by decide)
  refine lv_aload X.1.1 X.1.2.1 dX5_frameOf_50 (lv_at hl 0 rfl) ?_
  refine W.widen (k := 2) (n := 122) (by omega) (by omega) ?_
  exact W.aret X.1.1 X.1.2.1 hr (Or.inl ⟨_, rfl⟩) (Or.inr ⟨_, rfl⟩) (fun t ht _ => V.q (r := (some o1)) h ht) V.2.1.2.2 dX5_frameOf_52 X.1.2.2.2.2
abbrev rm_X5_appendIp : Room := { frames := 2, cells := 0, slots := 0, locals := 45 }
def wp_X5_appendIp (post : Unit → HS → Prop) (S : HS) (a0 : Nat) (v1 : Int32) (v2 : Int32) (v3 : Int32) (v4 : Int32) (v5 : Int32) : Prop := kd S a0 = 5 ∧ (wp_X3_append (fun _ S2 => wp_X3_append (fun _ S5 => wp_X3_appendNumber (fun _ S8 => wp_X3_appendNumber (fun _ S11 => wp_X3_appendNumber (fun _ S14 => wp_X3_append (fun _ S17 => wp_X3_append (fun _ S20 => wp_X3_appendNumber (fun _ S23 => wp_X3_appendNumber (fun _ S26 => wp_X3_appendNumber (fun _ S29 => wp_X3_sum (fun r33 S32 => wp_X3_putPair (fun _ S35 => post () S35) S32 a0 (10 : Int32) r33) S29 a0 (0 : Int32) (20 : Int32)) S26 a0 (((167772161 : Int32) + v5).toInt64) (4 : Int32)) S23 a0 (((167772161 : Int32) + v4).toInt64) (4 : Int32)) S20 a0 (0 : Int64) (2 : Int32)) S17 a0 v3) S14 a0 (64 : Int32)) S11 a0 (16384 : Int64) (2 : Int32)) S8 a0 (v2.toInt64) (2 : Int32)) S5 a0 (v1.toInt64) (2 : Int32)) S2 a0 (0 : Int32)) S a0 (69 : Int32))
set_option maxHeartbeats 400000 in
set_option maxRecDepth 100000 in
theorem sd_X5_appendIp (l : Launch) (D : va_G) (ka : Nat → ClassId) (sz : Nat) (Z : HS) (post : Unit → HS → Prop) (a0 : Nat) (v1 : Int32) (v2 : Int32) (v3 : Int32) (v4 : Int32) (v5 : Int32) (h : wp_X5_appendIp post Z a0 v1 v2 v3 v4 v5) : Met l yX5_appendIp [Cond.code yX5_appendIp cX5_appendIp 6 none] rm_X5_appendIp (Px D ka Z sz [.ref a0, .int v1, .int v2, .int v3, .int v4, .int v5]) (Qx eV post D ka Z sz) 0 0 (fA Z sz) := by
  refine Met.ofW (cc := cX5_appendIp) (maxL := 6) (ret := none) (by decide) rfl ?_
  intro p e s m args below meth c s₁ B hml hv
  obtain ⟨rfl, X, V, hsz⟩ := Cx.entry B hml hv
  have hr : meth.sig.returnType = none := B.returns
  have hl := lv_entry ([.ref a0, .int v1, .int v2, .int v3, .int v4, .int v5]) (n := 6) (Nat.le_of_ble_eq_true rfl)
  rw [lg_entry_eq]
  generalize (lg_sl ([.ref a0, .int v1, .int v2, .int v3, .int v4, .int v5]) ++ List.replicate (6 - (lg_sl ([.ref a0, .int v1, .int v2, .int v3, .int v4, .int v5])).length) Slot.unset).toArray = ls at hl ⊢
  have hl : lv_has ls 6 [(0, .ref a0), (1, .int v1), (2, .int v2), (3, .int v3), (4, .int v4), (5, .int v5)] := hl
  have h : wp_X5_appendIp post Z a0 v1 v2 v3 v4 v5 := h
  refine lv_aload_n X.1.1 X.1.2.1 dX5_appendIp_0 rfl (lv_at hl 0 rfl) ?_
  refine lv_bipush (v := (69 : Int32)) X.1.1 X.1.2.1 dX5_appendIp_1 (by decide) ?_
  obtain ⟨k1, h⟩ := h
  refine r_callV (k := 5) (n := 1) (As := [.int (69 : Int32)]) X V (sd_X3_append l D ka _ Z _ a0 (69 : Int32) h) k1 (by decide) (by decide) rfl wd_6 wd_175 wd_8 wd_9 wd_10 rfl rfl (by decide +kernel) ⟨Nat.le_of_ble_eq_true rfl, Nat.le_of_ble_eq_true rfl⟩ rfl hl.1 rfl (Nat.le_of_ble_eq_true rfl) dX5_appendIp_3 ⟨show 0 ≤ 0 by omega, show 0 ≤ 0 by omega⟩ (fun r3 S2 H locs h m4 V => ?_)
  have k1 := m4.k k1 (by decide)
  refine lv_aload_n X.1.1 X.1.2.1 dX5_appendIp_6 rfl (lv_at hl 0 rfl) ?_
  refine lv_iconst (v := (0 : Int32)) X.1.1 X.1.2.1 dX5_appendIp_7 (by decide) ?_
  refine r_callV (k := 5) (n := 1) (As := [.int (0 : Int32)]) X V (sd_X3_append l D ka _ S2 _ a0 (0 : Int32) h) k1 (by decide) (by decide) rfl wd_6 wd_175 wd_8 wd_9 wd_10 rfl rfl (by decide +kernel) ⟨Nat.le_of_ble_eq_true rfl, Nat.le_of_ble_eq_true rfl⟩ rfl hl.1 rfl (Nat.le_of_ble_eq_true rfl) dX5_appendIp_8 ⟨show 0 ≤ 0 by omega, show 0 ≤ 0 by omega⟩ (fun r6 S5 H locs h m7 V => ?_)
  have k1 := m7.k k1 (by decide)
  refine lv_aload_n X.1.1 X.1.2.1 dX5_appendIp_11 rfl (lv_at hl 0 rfl) ?_
  refine lv_iload_n X.1.1 X.1.2.1 dX5_appendIp_12 rfl (lv_at hl 1 rfl) ?_
  refine lv_i2l X.1.1 X.1.2.1 dX5_appendIp_13 rfl ?_
  refine lv_iconst (v := (2 : Int32)) X.1.1 X.1.2.1 dX5_appendIp_14 (by decide) ?_
  refine r_callV (k := 5) (n := 2) (As := [.long (v1.toInt64), .int (2 : Int32)]) X V (sd_X3_appendNumber l D ka _ S5 _ a0 (v1.toInt64) (2 : Int32) h) k1 (by decide) (by decide) rfl wd_167 wd_168 wd_8 wd_169 wd_170 rfl rfl (by decide +kernel) ⟨Nat.le_of_ble_eq_true rfl, Nat.le_of_ble_eq_true rfl⟩ rfl hl.1 rfl (Nat.le_of_ble_eq_true rfl) dX5_appendIp_15 ⟨show 0 ≤ 0 by omega, show 0 ≤ 0 by omega⟩ (fun r9 S8 H locs h m10 V => ?_)
  have k1 := m10.k k1 (by decide)
  refine lv_aload_n X.1.1 X.1.2.1 dX5_appendIp_18 rfl (lv_at hl 0 rfl) ?_
  refine lv_iload_n X.1.1 X.1.2.1 dX5_appendIp_19 rfl (lv_at hl 2 rfl) ?_
  refine lv_i2l X.1.1 X.1.2.1 dX5_appendIp_20 rfl ?_
  refine lv_iconst (v := (2 : Int32)) X.1.1 X.1.2.1 dX5_appendIp_21 (by decide) ?_
  refine r_callV (k := 5) (n := 2) (As := [.long (v2.toInt64), .int (2 : Int32)]) X V (sd_X3_appendNumber l D ka _ S8 _ a0 (v2.toInt64) (2 : Int32) h) k1 (by decide) (by decide) rfl wd_167 wd_168 wd_8 wd_169 wd_170 rfl rfl (by decide +kernel) ⟨Nat.le_of_ble_eq_true rfl, Nat.le_of_ble_eq_true rfl⟩ rfl hl.1 rfl (Nat.le_of_ble_eq_true rfl) dX5_appendIp_22 ⟨show 0 ≤ 0 by omega, show 0 ≤ 0 by omega⟩ (fun r12 S11 H locs h m13 V => ?_)
  have k1 := m13.k k1 (by decide)
  refine lv_aload_n X.1.1 X.1.2.1 dX5_appendIp_25 rfl (lv_at hl 0 rfl) ?_
  refine lv_ldc2 (v := (16384 : Int64)) X.1.1 X.1.2.1 X.1.2.2.2.1 (X.w wd_176 rfl _) dX5_appendIp_26 ?_
  refine lv_iconst (v := (2 : Int32)) X.1.1 X.1.2.1 dX5_appendIp_29 (by decide) ?_
  refine r_callV (k := 5) (n := 2) (As := [.long (16384 : Int64), .int (2 : Int32)]) X V (sd_X3_appendNumber l D ka _ S11 _ a0 (16384 : Int64) (2 : Int32) h) k1 (by decide) (by decide) rfl wd_167 wd_168 wd_8 wd_169 wd_170 rfl rfl (by decide +kernel) ⟨Nat.le_of_ble_eq_true rfl, Nat.le_of_ble_eq_true rfl⟩ rfl hl.1 rfl (Nat.le_of_ble_eq_true rfl) dX5_appendIp_30 ⟨show 0 ≤ 0 by omega, show 0 ≤ 0 by omega⟩ (fun r15 S14 H locs h m16 V => ?_)
  have k1 := m16.k k1 (by decide)
  refine lv_aload_n X.1.1 X.1.2.1 dX5_appendIp_33 rfl (lv_at hl 0 rfl) ?_
  refine lv_bipush (v := (64 : Int32)) X.1.1 X.1.2.1 dX5_appendIp_34 (by decide) ?_
  refine r_callV (k := 5) (n := 1) (As := [.int (64 : Int32)]) X V (sd_X3_append l D ka _ S14 _ a0 (64 : Int32) h) k1 (by decide) (by decide) rfl wd_6 wd_175 wd_8 wd_9 wd_10 rfl rfl (by decide +kernel) ⟨Nat.le_of_ble_eq_true rfl, Nat.le_of_ble_eq_true rfl⟩ rfl hl.1 rfl (Nat.le_of_ble_eq_true rfl) dX5_appendIp_36 ⟨show 0 ≤ 0 by omega, show 0 ≤ 0 by omega⟩ (fun r18 S17 H locs h m19 V => ?_)
  have k1 := m19.k k1 (by decide)
  refine lv_aload_n X.1.1 X.1.2.1 dX5_appendIp_39 rfl (lv_at hl 0 rfl) ?_
  refine lv_iload_n X.1.1 X.1.2.1 dX5_appendIp_40 rfl (lv_at hl 3 rfl) ?_
  refine r_callV (k := 5) (n := 1) (As := [.int v3]) X V (sd_X3_append l D ka _ S17 _ a0 v3 h) k1 (by decide) (by decide) rfl wd_6 wd_175 wd_8 wd_9 wd_10 rfl rfl (by decide +kernel) ⟨Nat.le_of_ble_eq_true rfl, Nat.le_of_ble_eq_true rfl⟩ rfl hl.1 rfl (Nat.le_of_ble_eq_true rfl) dX5_appendIp_41 ⟨show 0 ≤ 0 by omega, show 0 ≤ 0 by omega⟩ (fun r21 S20 H locs h m22 V => ?_)
  have k1 := m22.k k1 (by decide)
  refine lv_aload_n X.1.1 X.1.2.1 dX5_appendIp_44 rfl (lv_at hl 0 rfl) ?_
  refine lv_lconst (v := (0 : Int64)) X.1.1 X.1.2.1 dX5_appendIp_45 (by decide) ?_
  refine lv_iconst (v := (2 : Int32)) X.1.1 X.1.2.1 dX5_appendIp_46 (by decide) ?_
  refine r_callV (k := 5) (n := 2) (As := [.long (0 : Int64), .int (2 : Int32)]) X V (sd_X3_appendNumber l D ka _ S20 _ a0 (0 : Int64) (2 : Int32) h) k1 (by decide) (by decide) rfl wd_167 wd_168 wd_8 wd_169 wd_170 rfl rfl (by decide +kernel) ⟨Nat.le_of_ble_eq_true rfl, Nat.le_of_ble_eq_true rfl⟩ rfl hl.1 rfl (Nat.le_of_ble_eq_true rfl) dX5_appendIp_47 ⟨show 0 ≤ 0 by omega, show 0 ≤ 0 by omega⟩ (fun r24 S23 H locs h m25 V => ?_)
  have k1 := m25.k k1 (by decide)
  refine lv_aload_n X.1.1 X.1.2.1 dX5_appendIp_50 rfl (lv_at hl 0 rfl) ?_
  refine lv_ldc (v := (167772161 : Int32)) X.1.1 X.1.2.1 X.1.2.2.2.1 (X.w wd_177 rfl _) dX5_appendIp_51 ?_
  refine lv_iload X.1.1 X.1.2.1 dX5_appendIp_53 (lv_at hl 4 rfl) ?_
  refine lv_iadd X.1.1 X.1.2.1 dX5_appendIp_55 ?_
  refine lv_i2l X.1.1 X.1.2.1 dX5_appendIp_56 rfl ?_
  refine lv_iconst (v := (4 : Int32)) X.1.1 X.1.2.1 dX5_appendIp_57 (by decide) ?_
  refine r_callV (k := 5) (n := 2) (As := [.long (((167772161 : Int32) + v4).toInt64), .int (4 : Int32)]) X V (sd_X3_appendNumber l D ka _ S23 _ a0 (((167772161 : Int32) + v4).toInt64) (4 : Int32) h) k1 (by decide) (by decide) rfl wd_167 wd_168 wd_8 wd_169 wd_170 rfl rfl (by decide +kernel) ⟨Nat.le_of_ble_eq_true rfl, Nat.le_of_ble_eq_true rfl⟩ rfl hl.1 rfl (Nat.le_of_ble_eq_true rfl) dX5_appendIp_58 ⟨show 0 ≤ 0 by omega, show 0 ≤ 0 by omega⟩ (fun r27 S26 H locs h m28 V => ?_)
  have k1 := m28.k k1 (by decide)
  refine lv_aload_n X.1.1 X.1.2.1 dX5_appendIp_61 rfl (lv_at hl 0 rfl) ?_
  refine lv_ldc (v := (167772161 : Int32)) X.1.1 X.1.2.1 X.1.2.2.2.1 (X.w wd_177 rfl _) dX5_appendIp_62 ?_
  refine lv_iload X.1.1 X.1.2.1 dX5_appendIp_64 (lv_at hl 5 rfl) ?_
  refine lv_iadd X.1.1 X.1.2.1 dX5_appendIp_66 ?_
  refine lv_i2l X.1.1 X.1.2.1 dX5_appendIp_67 rfl ?_
  refine lv_iconst (v := (4 : Int32)) X.1.1 X.1.2.1 dX5_appendIp_68 (by decide) ?_
  refine r_callV (k := 5) (n := 2) (As := [.long (((167772161 : Int32) + v5).toInt64), .int (4 : Int32)]) X V (sd_X3_appendNumber l D ka _ S26 _ a0 (((167772161 : Int32) + v5).toInt64) (4 : Int32) h) k1 (by decide) (by decide) rfl wd_167 wd_168 wd_8 wd_169 wd_170 rfl rfl (by decide +kernel) ⟨Nat.le_of_ble_eq_true rfl, Nat.le_of_ble_eq_true rfl⟩ rfl hl.1 rfl (Nat.le_of_ble_eq_true rfl) dX5_appendIp_69 ⟨show 0 ≤ 0 by omega, show 0 ≤ 0 by omega⟩ (fun r30 S29 H locs h m31 V => ?_)
  have k1 := m31.k k1 (by decide)
  refine lv_aload_n X.1.1 X.1.2.1 dX5_appendIp_72 rfl (lv_at hl 0 rfl) ?_
  refine lv_bipush (v := (10 : Int32)) X.1.1 X.1.2.1 dX5_appendIp_73 (by decide) ?_
  refine lv_aload_n X.1.1 X.1.2.1 dX5_appendIp_75 rfl (lv_at hl 0 rfl) ?_
  refine lv_iconst (v := (0 : Int32)) X.1.1 X.1.2.1 dX5_appendIp_76 (by decide) ?_
  refine lv_bipush (v := (20 : Int32)) X.1.1 X.1.2.1 dX5_appendIp_77 (by decide) ?_
  refine r_callV (k := 5) (n := 2) (As := [.int (0 : Int32), .int (20 : Int32)]) X V (sd_X3_sum l D ka _ S29 _ a0 (0 : Int32) (20 : Int32) h) k1 (by decide) (by decide) rfl wd_178 wd_179 wd_8 wd_180 wd_181 rfl rfl (by decide +kernel) ⟨Nat.le_of_ble_eq_true rfl, Nat.le_of_ble_eq_true rfl⟩ rfl hl.1 rfl (Nat.le_of_ble_eq_true rfl) dX5_appendIp_79 ⟨show 0 ≤ 0 by omega, show 0 ≤ 0 by omega⟩ (fun r33 S32 H locs h m34 V => ?_)
  have k1 := m34.k k1 (by decide)
  refine r_callV (k := 5) (n := 2) (As := [.int (10 : Int32), .int r33]) X V (sd_X3_putPair l D ka _ S32 _ a0 (10 : Int32) r33 h) k1 (by decide) (by decide) rfl wd_182 wd_183 wd_8 wd_184 wd_185 rfl rfl (by decide +kernel) ⟨Nat.le_of_ble_eq_true rfl, Nat.le_of_ble_eq_true rfl⟩ rfl hl.1 rfl (Nat.le_of_ble_eq_true rfl) dX5_appendIp_82 ⟨show 0 ≤ 0 by omega, show 0 ≤ 0 by omega⟩ (fun r36 S35 H locs h m37 V => ?_)
  have k1 := m37.k k1 (by decide)
  exact W.vret X.1.1 X.1.2.1 hr (fun t ht _ => V.q (r := ()) h ht) V.2.1.2.2 dX5_appendIp_85 X.1.2.2.2.2
abbrev rm_X5_mixOf : Room := { frames := 1, cells := 0, slots := 0, locals := 21 }
def wp_X5_mixOf_4 : Nat → (Int32 → HS → Prop) → HS → Nat → Int32 → Int32 → Prop
  | 0, _, _, _, _, _ => False
  | n + 1, post, S, b0, x1, x2 => (((12 : Int32) ≤ x2 → post x1 S) ∧ (¬ (12 : Int32) ≤ x2 → kd S b0 = 5 ∧ (wp_X3_at (fun r4 S3 => wp_X5_mixOf_4 n post S3 b0 (((31 : Int32) * x1) + r4) (x2 + (1 : Int32))) S b0 x2)))
set_option maxHeartbeats 400000 in
set_option maxRecDepth 100000 in
theorem sl_X5_mixOf_4 (l : Launch) (D : va_G) (ka : Nat → ClassId) (sz : Nat) (Z : HS) (post : Int32 → HS → Prop) {p : Program} {e : Env} {s : State} {m : MethodId} {args : Array Value} {below : List Frame} {meth : Method} {c : Code} (X : Cx p s m meth c cX5_mixOf 3 RX5 D ka Z (fA Z sz)) (hr : meth.sig.returnType = (some .int))  : ∀ (n : Nat), ∀ (S : HS) (b0 : Nat) (x1 : Int32) (x2 : Int32), wp_X5_mixOf_4 n post S b0 x1 x2 → ∀ (H : Heap) (locs : List Loc) (ls : Array Slot), Hv D ka Z s (fA Z sz) S H locs → lv_has ls 3 [(0, .ref b0), (1, .int x1), (2, .int x2)] → W p l e rm_X5_mixOf s m args below meth c H locs 0 0 (MQ below (Qx eI post D ka Z sz) args s 0 0 (fA Z sz)) (F0 m 4 ls []) := by
  intro n
  induction n with
  | zero => intro S b0 x1 x2 h; exact h.elim
  | succ n ih =>
    intro S b0 x1 x2 h H locs ls V hl
    refine lv_iload_n X.1.1 X.1.2.1 dX5_mixOf_4 rfl (lv_at hl 2 rfl) ?_
    refine lv_bipush (v := (12 : Int32)) X.1.1 X.1.2.1 dX5_mixOf_5 (by decide) ?_
    refine lv_icmp_ge (tgt := 27) X.1.1 X.1.2.1 dX5_mixOf_7 (by decide) (fun c1 => ?_) (fun c1 => ?_)
    · have h := h.1 c1
      refine lv_iload_n X.1.1 X.1.2.1 dX5_mixOf_27 rfl (lv_at hl 1 rfl) ?_
      exact W.iret X.1.1 X.1.2.1 hr (fun t ht _ => V.q (r := x1) h ht) V.2.1.2.2 dX5_mixOf_28 X.1.2.2.2.2
    · have h := h.2 c1
      refine lv_bipush (v := (31 : Int32)) X.1.1 X.1.2.1 dX5_mixOf_10 (by decide) ?_
      refine lv_iload_n X.1.1 X.1.2.1 dX5_mixOf_12 rfl (lv_at hl 1 rfl) ?_
      refine lv_imul X.1.1 X.1.2.1 dX5_mixOf_13 ?_
      refine lv_aload_n X.1.1 X.1.2.1 dX5_mixOf_14 rfl (lv_at hl 0 rfl) ?_
      refine lv_iload_n X.1.1 X.1.2.1 dX5_mixOf_15 rfl (lv_at hl 2 rfl) ?_
      obtain ⟨k2, h⟩ := h
      refine r_callV (k := 5) (n := 1) (As := [.int x2]) X V (sd_X3_at l D ka _ S _ b0 x2 h) k2 (by decide) (by decide) rfl wd_11 wd_186 wd_8 wd_13 wd_14 rfl rfl (by decide +kernel) ⟨Nat.le_of_ble_eq_true rfl, Nat.le_of_ble_eq_true rfl⟩ rfl hl.1 rfl (Nat.le_of_ble_eq_true rfl) dX5_mixOf_16 ⟨show 0 ≤ 0 by omega, show 0 ≤ 0 by omega⟩ (fun r4 S3 H locs h m5 V => ?_)
      have k2 := m5.k k2 (by decide)
      refine lv_iadd X.1.1 X.1.2.1 dX5_mixOf_19 ?_
      refine lv_istore_n (lv' := [(1, .int (((31 : Int32) * x1) + r4)), (0, .ref b0), (2, .int x2)]) X.1.1 X.1.2.1 dX5_mixOf_20 rfl hl (by decide) rfl (fun ls hl => ?_)
      refine lv_iinc (v := (x2 + (1 : Int32))) (lv' := [(2, .int (x2 + (1 : Int32))), (1, .int (((31 : Int32) * x1) + r4)), (0, .ref b0)]) X.1.1 X.1.2.1 dX5_mixOf_21 hl (k := 2) rfl (congrArg (HAdd.hAdd _) (by decide)) (by decide) rfl (fun ls hl => ?_)
      refine lv_goto (tgt := 4) X.1.1 X.1.2.1 dX5_mixOf_24 (by decide) ?_
      exact ih S3 b0 (((31 : Int32) * x1) + r4) (x2 + (1 : Int32)) h _ _ _ V (lv_sub hl [2, 1, 0] rfl)
def wp_X5_mixOf (post : Int32 → HS → Prop) (S : HS) (a0 : Nat) : Prop := ∃ n9, wp_X5_mixOf_4 n9 post S a0 (0 : Int32) (0 : Int32)
set_option maxHeartbeats 400000 in
set_option maxRecDepth 100000 in
theorem sd_X5_mixOf (l : Launch) (D : va_G) (ka : Nat → ClassId) (sz : Nat) (Z : HS) (post : Int32 → HS → Prop) (a0 : Nat) (h : wp_X5_mixOf post Z a0) : Met l yX5_mixOf [Cond.code yX5_mixOf cX5_mixOf 3 (some .int)] rm_X5_mixOf (Px D ka Z sz [.ref a0]) (Qx eI post D ka Z sz) 0 0 (fA Z sz) := by
  refine Met.ofW (cc := cX5_mixOf) (maxL := 3) (ret := (some .int)) (by decide) rfl ?_
  intro p e s m args below meth c s₁ B hml hv
  obtain ⟨rfl, X, V, hsz⟩ := Cx.entry B hml hv
  have hr : meth.sig.returnType = (some .int) := B.returns
  have hl := lv_entry ([.ref a0]) (n := 3) (Nat.le_of_ble_eq_true rfl)
  rw [lg_entry_eq]
  generalize (lg_sl ([.ref a0]) ++ List.replicate (3 - (lg_sl ([.ref a0])).length) Slot.unset).toArray = ls at hl ⊢
  have hl : lv_has ls 3 [(0, .ref a0)] := hl
  have h : wp_X5_mixOf post Z a0 := h
  refine lv_iconst (v := (0 : Int32)) X.1.1 X.1.2.1 dX5_mixOf_0 (by decide) ?_
  refine lv_istore_n (lv' := [(1, .int (0 : Int32)), (0, .ref a0)]) X.1.1 X.1.2.1 dX5_mixOf_1 rfl hl (by decide) rfl (fun ls hl => ?_)
  refine lv_iconst (v := (0 : Int32)) X.1.1 X.1.2.1 dX5_mixOf_2 (by decide) ?_
  refine lv_istore_n (lv' := [(2, .int (0 : Int32)), (1, .int (0 : Int32)), (0, .ref a0)]) X.1.1 X.1.2.1 dX5_mixOf_3 rfl hl (by decide) rfl (fun ls hl => ?_)
  obtain ⟨n9, h⟩ := h
  exact sl_X5_mixOf_4 l D ka sz Z post X hr n9 Z a0 (0 : Int32) (0 : Int32) h _ _ _ V (lv_sub hl [2, 1, 0] rfl)
abbrev rm_X5_appendUdp : Room := { frames := 2, cells := 0, slots := 0, locals := 45 }
def wp_X5_appendUdp (post : Unit → HS → Prop) (S : HS) (a0 : Nat) (v1 : Int32) (v2 : Int32) (v3 : Int32) : Prop := kd S a0 = 5 ∧ (wp_X3_appendNumber (fun _ S2 => wp_X3_appendNumber (fun _ S5 => wp_X3_appendNumber (fun _ S8 => wp_X3_appendNumber (fun _ S11 => wp_X3_append (fun _ S14 => wp_X3_appendNumber (fun _ S17 => wp_X3_appendNumber (fun _ S20 => wp_X3_append (fun _ S23 => post () S23) S20 a0 (0 : Int32)) S17 a0 (v2.toInt64) (3 : Int32)) S14 a0 (0 : Int64) (3 : Int32)) S11 a0 (8 : Int32)) S8 a0 (0 : Int64) (2 : Int32)) S5 a0 (v1.toInt64) (2 : Int32)) S2 a0 (4789 : Int64) (2 : Int32)) S a0 (((49152 : Int32) + (v3 &&& (16383 : Int32))).toInt64) (2 : Int32))
set_option maxHeartbeats 400000 in
set_option maxRecDepth 100000 in
theorem sd_X5_appendUdp (l : Launch) (D : va_G) (ka : Nat → ClassId) (sz : Nat) (Z : HS) (post : Unit → HS → Prop) (a0 : Nat) (v1 : Int32) (v2 : Int32) (v3 : Int32) (h : wp_X5_appendUdp post Z a0 v1 v2 v3) : Met l yX5_appendUdp [Cond.code yX5_appendUdp cX5_appendUdp 4 none] rm_X5_appendUdp (Px D ka Z sz [.ref a0, .int v1, .int v2, .int v3]) (Qx eV post D ka Z sz) 0 0 (fA Z sz) := by
  refine Met.ofW (cc := cX5_appendUdp) (maxL := 4) (ret := none) (by decide) rfl ?_
  intro p e s m args below meth c s₁ B hml hv
  obtain ⟨rfl, X, V, hsz⟩ := Cx.entry B hml hv
  have hr : meth.sig.returnType = none := B.returns
  have hl := lv_entry ([.ref a0, .int v1, .int v2, .int v3]) (n := 4) (Nat.le_of_ble_eq_true rfl)
  rw [lg_entry_eq]
  generalize (lg_sl ([.ref a0, .int v1, .int v2, .int v3]) ++ List.replicate (4 - (lg_sl ([.ref a0, .int v1, .int v2, .int v3])).length) Slot.unset).toArray = ls at hl ⊢
  have hl : lv_has ls 4 [(0, .ref a0), (1, .int v1), (2, .int v2), (3, .int v3)] := hl
  have h : wp_X5_appendUdp post Z a0 v1 v2 v3 := h
  refine lv_aload_n X.1.1 X.1.2.1 dX5_appendUdp_0 rfl (lv_at hl 0 rfl) ?_
  refine lv_ldc (v := (49152 : Int32)) X.1.1 X.1.2.1 X.1.2.2.2.1 (X.w wd_187 rfl _) dX5_appendUdp_1 ?_
  refine lv_iload_n X.1.1 X.1.2.1 dX5_appendUdp_3 rfl (lv_at hl 3 rfl) ?_
  refine lv_sipush (v := (16383 : Int32)) X.1.1 X.1.2.1 dX5_appendUdp_4 (by decide) ?_
  refine lv_iand X.1.1 X.1.2.1 dX5_appendUdp_7 ?_
  refine lv_iadd X.1.1 X.1.2.1 dX5_appendUdp_8 ?_
  refine lv_i2l X.1.1 X.1.2.1 dX5_appendUdp_9 rfl ?_
  refine lv_iconst (v := (2 : Int32)) X.1.1 X.1.2.1 dX5_appendUdp_10 (by decide) ?_
  obtain ⟨k1, h⟩ := h
  refine r_callV (k := 5) (n := 2) (As := [.long (((49152 : Int32) + (v3 &&& (16383 : Int32))).toInt64), .int (2 : Int32)]) X V (sd_X3_appendNumber l D ka _ Z _ a0 (((49152 : Int32) + (v3 &&& (16383 : Int32))).toInt64) (2 : Int32) h) k1 (by decide) (by decide) rfl wd_167 wd_168 wd_8 wd_169 wd_170 rfl rfl (by decide +kernel) ⟨Nat.le_of_ble_eq_true rfl, Nat.le_of_ble_eq_true rfl⟩ rfl hl.1 rfl (Nat.le_of_ble_eq_true rfl) dX5_appendUdp_11 ⟨show 0 ≤ 0 by omega, show 0 ≤ 0 by omega⟩ (fun r3 S2 H locs h m4 V => ?_)
  have k1 := m4.k k1 (by decide)
  refine lv_aload_n X.1.1 X.1.2.1 dX5_appendUdp_14 rfl (lv_at hl 0 rfl) ?_
  refine lv_ldc2 (v := (4789 : Int64)) X.1.1 X.1.2.1 X.1.2.2.2.1 (X.w wd_188 rfl _) dX5_appendUdp_15 ?_
  refine lv_iconst (v := (2 : Int32)) X.1.1 X.1.2.1 dX5_appendUdp_18 (by decide) ?_
  refine r_callV (k := 5) (n := 2) (As := [.long (4789 : Int64), .int (2 : Int32)]) X V (sd_X3_appendNumber l D ka _ S2 _ a0 (4789 : Int64) (2 : Int32) h) k1 (by decide) (by decide) rfl wd_167 wd_168 wd_8 wd_169 wd_170 rfl rfl (by decide +kernel) ⟨Nat.le_of_ble_eq_true rfl, Nat.le_of_ble_eq_true rfl⟩ rfl hl.1 rfl (Nat.le_of_ble_eq_true rfl) dX5_appendUdp_19 ⟨show 0 ≤ 0 by omega, show 0 ≤ 0 by omega⟩ (fun r6 S5 H locs h m7 V => ?_)
  have k1 := m7.k k1 (by decide)
  refine lv_aload_n X.1.1 X.1.2.1 dX5_appendUdp_22 rfl (lv_at hl 0 rfl) ?_
  refine lv_iload_n X.1.1 X.1.2.1 dX5_appendUdp_23 rfl (lv_at hl 1 rfl) ?_
  refine lv_i2l X.1.1 X.1.2.1 dX5_appendUdp_24 rfl ?_
  refine lv_iconst (v := (2 : Int32)) X.1.1 X.1.2.1 dX5_appendUdp_25 (by decide) ?_
  refine r_callV (k := 5) (n := 2) (As := [.long (v1.toInt64), .int (2 : Int32)]) X V (sd_X3_appendNumber l D ka _ S5 _ a0 (v1.toInt64) (2 : Int32) h) k1 (by decide) (by decide) rfl wd_167 wd_168 wd_8 wd_169 wd_170 rfl rfl (by decide +kernel) ⟨Nat.le_of_ble_eq_true rfl, Nat.le_of_ble_eq_true rfl⟩ rfl hl.1 rfl (Nat.le_of_ble_eq_true rfl) dX5_appendUdp_26 ⟨show 0 ≤ 0 by omega, show 0 ≤ 0 by omega⟩ (fun r9 S8 H locs h m10 V => ?_)
  have k1 := m10.k k1 (by decide)
  refine lv_aload_n X.1.1 X.1.2.1 dX5_appendUdp_29 rfl (lv_at hl 0 rfl) ?_
  refine lv_lconst (v := (0 : Int64)) X.1.1 X.1.2.1 dX5_appendUdp_30 (by decide) ?_
  refine lv_iconst (v := (2 : Int32)) X.1.1 X.1.2.1 dX5_appendUdp_31 (by decide) ?_
  refine r_callV (k := 5) (n := 2) (As := [.long (0 : Int64), .int (2 : Int32)]) X V (sd_X3_appendNumber l D ka _ S8 _ a0 (0 : Int64) (2 : Int32) h) k1 (by decide) (by decide) rfl wd_167 wd_168 wd_8 wd_169 wd_170 rfl rfl (by decide +kernel) ⟨Nat.le_of_ble_eq_true rfl, Nat.le_of_ble_eq_true rfl⟩ rfl hl.1 rfl (Nat.le_of_ble_eq_true rfl) dX5_appendUdp_32 ⟨show 0 ≤ 0 by omega, show 0 ≤ 0 by omega⟩ (fun r12 S11 H locs h m13 V => ?_)
  have k1 := m13.k k1 (by decide)
  refine lv_aload_n X.1.1 X.1.2.1 dX5_appendUdp_35 rfl (lv_at hl 0 rfl) ?_
  refine lv_bipush (v := (8 : Int32)) X.1.1 X.1.2.1 dX5_appendUdp_36 (by decide) ?_
  refine r_callV (k := 5) (n := 1) (As := [.int (8 : Int32)]) X V (sd_X3_append l D ka _ S11 _ a0 (8 : Int32) h) k1 (by decide) (by decide) rfl wd_6 wd_175 wd_8 wd_9 wd_10 rfl rfl (by decide +kernel) ⟨Nat.le_of_ble_eq_true rfl, Nat.le_of_ble_eq_true rfl⟩ rfl hl.1 rfl (Nat.le_of_ble_eq_true rfl) dX5_appendUdp_38 ⟨show 0 ≤ 0 by omega, show 0 ≤ 0 by omega⟩ (fun r15 S14 H locs h m16 V => ?_)
  have k1 := m16.k k1 (by decide)
  refine lv_aload_n X.1.1 X.1.2.1 dX5_appendUdp_41 rfl (lv_at hl 0 rfl) ?_
  refine lv_lconst (v := (0 : Int64)) X.1.1 X.1.2.1 dX5_appendUdp_42 (by decide) ?_
  refine lv_iconst (v := (3 : Int32)) X.1.1 X.1.2.1 dX5_appendUdp_43 (by decide) ?_
  refine r_callV (k := 5) (n := 2) (As := [.long (0 : Int64), .int (3 : Int32)]) X V (sd_X3_appendNumber l D ka _ S14 _ a0 (0 : Int64) (3 : Int32) h) k1 (by decide) (by decide) rfl wd_167 wd_168 wd_8 wd_169 wd_170 rfl rfl (by decide +kernel) ⟨Nat.le_of_ble_eq_true rfl, Nat.le_of_ble_eq_true rfl⟩ rfl hl.1 rfl (Nat.le_of_ble_eq_true rfl) dX5_appendUdp_44 ⟨show 0 ≤ 0 by omega, show 0 ≤ 0 by omega⟩ (fun r18 S17 H locs h m19 V => ?_)
  have k1 := m19.k k1 (by decide)
  refine lv_aload_n X.1.1 X.1.2.1 dX5_appendUdp_47 rfl (lv_at hl 0 rfl) ?_
  refine lv_iload_n X.1.1 X.1.2.1 dX5_appendUdp_48 rfl (lv_at hl 2 rfl) ?_
  refine lv_i2l X.1.1 X.1.2.1 dX5_appendUdp_49 rfl ?_
  refine lv_iconst (v := (3 : Int32)) X.1.1 X.1.2.1 dX5_appendUdp_50 (by decide) ?_
  refine r_callV (k := 5) (n := 2) (As := [.long (v2.toInt64), .int (3 : Int32)]) X V (sd_X3_appendNumber l D ka _ S17 _ a0 (v2.toInt64) (3 : Int32) h) k1 (by decide) (by decide) rfl wd_167 wd_168 wd_8 wd_169 wd_170 rfl rfl (by decide +kernel) ⟨Nat.le_of_ble_eq_true rfl, Nat.le_of_ble_eq_true rfl⟩ rfl hl.1 rfl (Nat.le_of_ble_eq_true rfl) dX5_appendUdp_51 ⟨show 0 ≤ 0 by omega, show 0 ≤ 0 by omega⟩ (fun r21 S20 H locs h m22 V => ?_)
  have k1 := m22.k k1 (by decide)
  refine lv_aload_n X.1.1 X.1.2.1 dX5_appendUdp_54 rfl (lv_at hl 0 rfl) ?_
  refine lv_iconst (v := (0 : Int32)) X.1.1 X.1.2.1 dX5_appendUdp_55 (by decide) ?_
  refine r_callV (k := 5) (n := 1) (As := [.int (0 : Int32)]) X V (sd_X3_append l D ka _ S20 _ a0 (0 : Int32) h) k1 (by decide) (by decide) rfl wd_6 wd_175 wd_8 wd_9 wd_10 rfl rfl (by decide +kernel) ⟨Nat.le_of_ble_eq_true rfl, Nat.le_of_ble_eq_true rfl⟩ rfl hl.1 rfl (Nat.le_of_ble_eq_true rfl) dX5_appendUdp_56 ⟨show 0 ≤ 0 by omega, show 0 ≤ 0 by omega⟩ (fun r24 S23 H locs h m25 V => ?_)
  have k1 := m25.k k1 (by decide)
  exact W.vret X.1.1 X.1.2.1 hr (fun t ht _ => V.q (r := ()) h ht) V.2.1.2.2 dX5_appendUdp_59 X.1.2.2.2.2
abbrev rm_X5_appendGre : Room := { frames := 2, cells := 0, slots := 0, locals := 45 }
def wp_X5_appendGre_14a (post : Unit → HS → Prop) (S : HS) (b0 : Nat) (x1 : Int32) (x2 : Int32) (x3 : Int32) (q0 : Int64) (d1 : Nat) : Prop := kd S d1 = 5 ∧ (wp_X3_appendNumber (fun _ S3 => kd S3 b0 = 5 ∧ (wp_X3_appendNumber (fun _ S7 => ((x1 = 0 → wp_X3_appendNumber (fun _ S11 => wp_X3_append (fun _ S14 => post () S14) S11 b0 x3) S7 b0 (x2.toInt64) (3 : Int32)) ∧ (¬ x1 = 0 → wp_X3_appendNumber (fun _ S17 => wp_X3_appendNumber (fun _ S20 => wp_X3_append (fun _ S23 => post () S23) S20 b0 x3) S17 b0 (x2.toInt64) (3 : Int32)) S7 b0 (0 : Int64) (4 : Int32)))) S3 b0 (25944 : Int64) (2 : Int32))) S d1 q0 (2 : Int32))
set_option maxHeartbeats 400000 in
set_option maxRecDepth 100000 in
theorem sl_X5_appendGre_14a (l : Launch) (D : va_G) (ka : Nat → ClassId) (sz : Nat) (Z : HS) (post : Unit → HS → Prop) {p : Program} {e : Env} {s : State} {m : MethodId} {args : Array Value} {below : List Frame} {meth : Method} {c : Code} (X : Cx p s m meth c cX5_appendGre 4 RX5 D ka Z (fA Z sz)) (hr : meth.sig.returnType = none)  : ∀ (S : HS) (b0 : Nat) (x1 : Int32) (x2 : Int32) (x3 : Int32) (q0 : Int64) (d1 : Nat), wp_X5_appendGre_14a post S b0 x1 x2 x3 q0 d1 → ∀ (H : Heap) (locs : List Loc) (ls : Array Slot), Hv D ka Z s (fA Z sz) S H locs → lv_has ls 4 [(0, .ref b0), (1, .int x1), (2, .int x2), (3, .int x3)] → W p l e rm_X5_appendGre s m args below meth c H locs 0 0 (MQ below (Qx eV post D ka Z sz) args s 0 0 (fA Z sz)) (F0 m 14 ls [.long q0, .ref d1]) := by
  intro S b0 x1 x2 x3 q0 d1 h H locs ls V hl
  refine lv_iconst (v := (2 : Int32)) X.1.1 X.1.2.1 dX5_appendGre_14 (by decide) ?_
  obtain ⟨k2, h⟩ := h
  refine r_callV (k := 5) (n := 2) (As := [.long q0, .int (2 : Int32)]) X V (sd_X3_appendNumber l D ka _ S _ d1 q0 (2 : Int32) h) k2 (by decide) (by decide) rfl wd_167 wd_168 wd_8 wd_169 wd_170 rfl rfl (by decide +kernel) ⟨Nat.le_of_ble_eq_true rfl, Nat.le_of_ble_eq_true rfl⟩ rfl hl.1 rfl (Nat.le_of_ble_eq_true rfl) dX5_appendGre_15 ⟨show 0 ≤ 0 by omega, show 0 ≤ 0 by omega⟩ (fun r4 S3 H locs h m5 V => ?_)
  have k2 := m5.k k2 (by decide)
  refine lv_aload_n X.1.1 X.1.2.1 dX5_appendGre_18 rfl (lv_at hl 0 rfl) ?_
  refine lv_ldc2 (v := (25944 : Int64)) X.1.1 X.1.2.1 X.1.2.2.2.1 (X.w wd_190 rfl _) dX5_appendGre_19 ?_
  refine lv_iconst (v := (2 : Int32)) X.1.1 X.1.2.1 dX5_appendGre_22 (by decide) ?_
  obtain ⟨k6, h⟩ := h
  refine r_callV (k := 5) (n := 2) (As := [.long (25944 : Int64), .int (2 : Int32)]) X V (sd_X3_appendNumber l D ka _ S3 _ b0 (25944 : Int64) (2 : Int32) h) k6 (by decide) (by decide) rfl wd_167 wd_168 wd_8 wd_169 wd_170 rfl rfl (by decide +kernel) ⟨Nat.le_of_ble_eq_true rfl, Nat.le_of_ble_eq_true rfl⟩ rfl hl.1 rfl (Nat.le_of_ble_eq_true rfl) dX5_appendGre_23 ⟨show 0 ≤ 0 by omega, show 0 ≤ 0 by omega⟩ (fun r8 S7 H locs h m9 V => ?_)
  have k2 := m9.k k2 (by decide)
  have k6 := m9.k k6 (by decide)
  refine lv_iload_n X.1.1 X.1.2.1 dX5_appendGre_26 rfl (lv_at hl 1 rfl) ?_
  refine lv_if_eq (tgt := 36) X.1.1 X.1.2.1 dX5_appendGre_27 (by decide) (fun c10 => ?_) (fun c10 => ?_)
  · have h := h.1 c10
    refine lv_aload_n X.1.1 X.1.2.1 dX5_appendGre_36 rfl (lv_at hl 0 rfl) ?_
    refine lv_iload_n X.1.1 X.1.2.1 dX5_appendGre_37 rfl (lv_at hl 2 rfl) ?_
    refine lv_i2l X.1.1 X.1.2.1 dX5_appendGre_38 rfl ?_
    refine lv_iconst (v := (3 : Int32)) X.1.1 X.1.2.1 dX5_appendGre_39 (by decide) ?_
    refine r_callV (k := 5) (n := 2) (As := [.long (x2.toInt64), .int (3 : Int32)]) X V (sd_X3_appendNumber l D ka _ S7 _ b0 (x2.toInt64) (3 : Int32) h) k6 (by decide) (by decide) rfl wd_167 wd_168 wd_8 wd_169 wd_170 rfl rfl (by decide +kernel) ⟨Nat.le_of_ble_eq_true rfl, Nat.le_of_ble_eq_true rfl⟩ rfl hl.1 rfl (Nat.le_of_ble_eq_true rfl) dX5_appendGre_40 ⟨show 0 ≤ 0 by omega, show 0 ≤ 0 by omega⟩ (fun r12 S11 H locs h m13 V => ?_)
    have k2 := m13.k k2 (by decide)
    have k6 := m13.k k6 (by decide)
    refine lv_aload_n X.1.1 X.1.2.1 dX5_appendGre_43 rfl (lv_at hl 0 rfl) ?_
    refine lv_iload_n X.1.1 X.1.2.1 dX5_appendGre_44 rfl (lv_at hl 3 rfl) ?_
    refine r_callV (k := 5) (n := 1) (As := [.int x3]) X V (sd_X3_append l D ka _ S11 _ b0 x3 h) k6 (by decide) (by decide) rfl wd_6 wd_175 wd_8 wd_9 wd_10 rfl rfl (by decide +kernel) ⟨Nat.le_of_ble_eq_true rfl, Nat.le_of_ble_eq_true rfl⟩ rfl hl.1 rfl (Nat.le_of_ble_eq_true rfl) dX5_appendGre_45 ⟨show 0 ≤ 0 by omega, show 0 ≤ 0 by omega⟩ (fun r15 S14 H locs h m16 V => ?_)
    have k2 := m16.k k2 (by decide)
    have k6 := m16.k k6 (by decide)
    exact W.vret X.1.1 X.1.2.1 hr (fun t ht _ => V.q (r := ()) h ht) V.2.1.2.2 dX5_appendGre_48 X.1.2.2.2.2
  · have h := h.2 c10
    refine lv_aload_n X.1.1 X.1.2.1 dX5_appendGre_30 rfl (lv_at hl 0 rfl) ?_
    refine lv_lconst (v := (0 : Int64)) X.1.1 X.1.2.1 dX5_appendGre_31 (by decide) ?_
    refine lv_iconst (v := (4 : Int32)) X.1.1 X.1.2.1 dX5_appendGre_32 (by decide) ?_
    refine r_callV (k := 5) (n := 2) (As := [.long (0 : Int64), .int (4 : Int32)]) X V (sd_X3_appendNumber l D ka _ S7 _ b0 (0 : Int64) (4 : Int32) h) k6 (by decide) (by decide) rfl wd_167 wd_168 wd_8 wd_169 wd_170 rfl rfl (by decide +kernel) ⟨Nat.le_of_ble_eq_true rfl, Nat.le_of_ble_eq_true rfl⟩ rfl hl.1 rfl (Nat.le_of_ble_eq_true rfl) dX5_appendGre_33 ⟨show 0 ≤ 0 by omega, show 0 ≤ 0 by omega⟩ (fun r18 S17 H locs h m19 V => ?_)
    have k2 := m19.k k2 (by decide)
    have k6 := m19.k k6 (by decide)
    refine lv_aload_n X.1.1 X.1.2.1 dX5_appendGre_36 rfl (lv_at hl 0 rfl) ?_
    refine lv_iload_n X.1.1 X.1.2.1 dX5_appendGre_37 rfl (lv_at hl 2 rfl) ?_
    refine lv_i2l X.1.1 X.1.2.1 dX5_appendGre_38 rfl ?_
    refine lv_iconst (v := (3 : Int32)) X.1.1 X.1.2.1 dX5_appendGre_39 (by decide) ?_
    refine r_callV (k := 5) (n := 2) (As := [.long (x2.toInt64), .int (3 : Int32)]) X V (sd_X3_appendNumber l D ka _ S17 _ b0 (x2.toInt64) (3 : Int32) h) k6 (by decide) (by decide) rfl wd_167 wd_168 wd_8 wd_169 wd_170 rfl rfl (by decide +kernel) ⟨Nat.le_of_ble_eq_true rfl, Nat.le_of_ble_eq_true rfl⟩ rfl hl.1 rfl (Nat.le_of_ble_eq_true rfl) dX5_appendGre_40 ⟨show 0 ≤ 0 by omega, show 0 ≤ 0 by omega⟩ (fun r21 S20 H locs h m22 V => ?_)
    have k2 := m22.k k2 (by decide)
    have k6 := m22.k k6 (by decide)
    refine lv_aload_n X.1.1 X.1.2.1 dX5_appendGre_43 rfl (lv_at hl 0 rfl) ?_
    refine lv_iload_n X.1.1 X.1.2.1 dX5_appendGre_44 rfl (lv_at hl 3 rfl) ?_
    refine r_callV (k := 5) (n := 1) (As := [.int x3]) X V (sd_X3_append l D ka _ S20 _ b0 x3 h) k6 (by decide) (by decide) rfl wd_6 wd_175 wd_8 wd_9 wd_10 rfl rfl (by decide +kernel) ⟨Nat.le_of_ble_eq_true rfl, Nat.le_of_ble_eq_true rfl⟩ rfl hl.1 rfl (Nat.le_of_ble_eq_true rfl) dX5_appendGre_45 ⟨show 0 ≤ 0 by omega, show 0 ≤ 0 by omega⟩ (fun r24 S23 H locs h m25 V => ?_)
    have k2 := m25.k k2 (by decide)
    have k6 := m25.k k6 (by decide)
    exact W.vret X.1.1 X.1.2.1 hr (fun t ht _ => V.q (r := ()) h ht) V.2.1.2.2 dX5_appendGre_48 X.1.2.2.2.2
def wp_X5_appendGre (post : Unit → HS → Prop) (S : HS) (a0 : Nat) (v1 : Int32) (v2 : Int32) (v3 : Int32) : Prop := ((v1 = 0 → wp_X5_appendGre_14a post S a0 v1 v2 v3 (8192 : Int64) a0) ∧ (¬ v1 = 0 → wp_X5_appendGre_14a post S a0 v1 v2 v3 (40960 : Int64) a0))
set_option maxHeartbeats 400000 in
set_option maxRecDepth 100000 in
theorem sd_X5_appendGre (l : Launch) (D : va_G) (ka : Nat → ClassId) (sz : Nat) (Z : HS) (post : Unit → HS → Prop) (a0 : Nat) (v1 : Int32) (v2 : Int32) (v3 : Int32) (h : wp_X5_appendGre post Z a0 v1 v2 v3) : Met l yX5_appendGre [Cond.code yX5_appendGre cX5_appendGre 4 none] rm_X5_appendGre (Px D ka Z sz [.ref a0, .int v1, .int v2, .int v3]) (Qx eV post D ka Z sz) 0 0 (fA Z sz) := by
  refine Met.ofW (cc := cX5_appendGre) (maxL := 4) (ret := none) (by decide) rfl ?_
  intro p e s m args below meth c s₁ B hml hv
  obtain ⟨rfl, X, V, hsz⟩ := Cx.entry B hml hv
  have hr : meth.sig.returnType = none := B.returns
  have hl := lv_entry ([.ref a0, .int v1, .int v2, .int v3]) (n := 4) (Nat.le_of_ble_eq_true rfl)
  rw [lg_entry_eq]
  generalize (lg_sl ([.ref a0, .int v1, .int v2, .int v3]) ++ List.replicate (4 - (lg_sl ([.ref a0, .int v1, .int v2, .int v3])).length) Slot.unset).toArray = ls at hl ⊢
  have hl : lv_has ls 4 [(0, .ref a0), (1, .int v1), (2, .int v2), (3, .int v3)] := hl
  have h : wp_X5_appendGre post Z a0 v1 v2 v3 := h
  refine lv_aload_n X.1.1 X.1.2.1 dX5_appendGre_0 rfl (lv_at hl 0 rfl) ?_
  refine lv_iload_n X.1.1 X.1.2.1 dX5_appendGre_1 rfl (lv_at hl 1 rfl) ?_
  refine lv_if_eq (tgt := 11) X.1.1 X.1.2.1 dX5_appendGre_2 (by decide) (fun c1 => ?_) (fun c1 => ?_)
  · have h := h.1 c1
    refine lv_ldc2 (v := (8192 : Int64)) X.1.1 X.1.2.1 X.1.2.2.2.1 (X.w wd_189 rfl _) dX5_appendGre_11 ?_
    exact sl_X5_appendGre_14a l D ka sz Z post X hr Z a0 v1 v2 v3 (8192 : Int64) a0 h _ _ _ V (lv_sub hl [0, 1, 2, 3] rfl)
  · have h := h.2 c1
    refine lv_ldc2 (v := (40960 : Int64)) X.1.1 X.1.2.1 X.1.2.2.2.1 (X.w wd_191 rfl _) dX5_appendGre_5 ?_
    refine lv_goto (tgt := 14) X.1.1 X.1.2.1 dX5_appendGre_8 (by decide) ?_
    exact sl_X5_appendGre_14a l D ka sz Z post X hr Z a0 v1 v2 v3 (40960 : Int64) a0 h _ _ _ V (lv_sub hl [0, 1, 2, 3] rfl)
abbrev rm_X5_wrap : Room := { frames := 3, cells := 2, slots := 122, locals := 70 }
def wp_X5_wrap_111a (post : (Option Nat) → HS → Prop) (S : HS) (b0 : Nat) (x2 : Int32) (b8 : Nat) : Prop := kd S b8 = 5 ∧ (wp_X3_appendRest (fun _ S23 => ((¬ x2 = (2 : Int32) → post (some b8) S23) ∧ (x2 = (2 : Int32) → wp_X3_sum (fun r28 S27 => wp_X3_putPair (fun _ S30 => post (some b8) S30) S27 b8 (24 : Int32) r28) S23 b8 (20 : Int32) (fi S23 15 b8)))) S b8 b0 (0 : Int32))
set_option maxHeartbeats 400000 in
set_option maxRecDepth 100000 in
theorem sl_X5_wrap_111a (l : Launch) (D : va_G) (ka : Nat → ClassId) (sz : Nat) (Z : HS) (post : (Option Nat) → HS → Prop) {p : Program} {e : Env} {s : State} {m : MethodId} {args : Array Value} {below : List Frame} {meth : Method} {c : Code} (X : Cx p s m meth c cX5_wrap 9 RX5 D ka Z (fA Z sz)) (hr : meth.sig.returnType = (some (.object "OverlayFabric$Row")))  : ∀ (S : HS) (b0 : Nat) (x2 : Int32) (b8 : Nat), wp_X5_wrap_111a post S b0 x2 b8 → ∀ (H : Heap) (locs : List Loc) (ls : Array Slot), Hv D ka Z s (fA Z sz) S H locs → lv_has ls 9 [(0, .ref b0), (2, .int x2), (8, .ref b8)] → W p l e rm_X5_wrap s m args below meth c H locs 2 122 (MQ below (Qx eR post D ka Z sz) args s 2 122 (fA Z sz)) (F0 m 111 ls []) := by
  intro S b0 x2 b8 h H locs ls V hl
  refine lv_aload X.1.1 X.1.2.1 dX5_wrap_111 (lv_at hl 2 rfl) ?_
  refine lv_aload_n X.1.1 X.1.2.1 dX5_wrap_113 rfl (lv_at hl 0 rfl) ?_
  refine lv_iconst (v := (0 : Int32)) X.1.1 X.1.2.1 dX5_wrap_114 (by decide) ?_
  obtain ⟨k22, h⟩ := h
  refine r_callV (k := 5) (n := 2) (As := [.ref b0, .int (0 : Int32)]) X V (sd_X3_appendRest l D ka _ S _ b8 b0 (0 : Int32) h) k22 (by decide) (by decide) rfl wd_171 wd_172 wd_8 wd_173 wd_174 rfl rfl (by decide +kernel) ⟨Nat.le_of_ble_eq_true rfl, Nat.le_of_ble_eq_true rfl⟩ rfl hl.1 rfl (Nat.le_of_ble_eq_true rfl) dX5_wrap_115 ⟨show 2 ≤ 2 by omega, show 122 ≤ 122 by omega⟩ (fun r24 S23 H locs h m25 V => ?_)
  have k22 := m25.k k22 (by decide)
  refine lv_iload_n X.1.1 X.1.2.1 dX5_wrap_118 rfl (lv_at hl 1 rfl) ?_
  refine lv_iconst (v := (2 : Int32)) X.1.1 X.1.2.1 dX5_wrap_119 (by decide) ?_
  refine lv_icmp_ne (tgt := 142) X.1.1 X.1.2.1 dX5_wrap_120 (by decide) (fun c26 => ?_) (fun c26 => ?_)
  · have h := h.1 c26
    refine lv_aload X.1.1 X.1.2.1 dX5_wrap_142 (lv_at hl 2 rfl) ?_
    refine W.widen (k := 2) (n := 122) (by omega) (by omega) ?_
    exact W.aret X.1.1 X.1.2.1 hr (Or.inl ⟨_, rfl⟩) (Or.inr ⟨_, rfl⟩) (fun t ht _ => V.q (r := (some b8)) h ht) V.2.1.2.2 dX5_wrap_144 X.1.2.2.2.2
  · have h := h.2 c26
    refine lv_aload X.1.1 X.1.2.1 dX5_wrap_123 (lv_at hl 2 rfl) ?_
    refine lv_bipush (v := (24 : Int32)) X.1.1 X.1.2.1 dX5_wrap_125 (by decide) ?_
    refine lv_aload X.1.1 X.1.2.1 dX5_wrap_127 (lv_at hl 2 rfl) ?_
    refine lv_bipush (v := (20 : Int32)) X.1.1 X.1.2.1 dX5_wrap_129 (by decide) ?_
    refine lv_aload X.1.1 X.1.2.1 dX5_wrap_131 (lv_at hl 2 rfl) ?_
    refine gf_X5_13 X V k22 dX5_wrap_133 ?_
    refine r_callV (k := 5) (n := 2) (As := [.int (20 : Int32), .int (fi S23 15 b8)]) X V (sd_X3_sum l D ka _ S23 _ b8 (20 : Int32) (fi S23 15 b8) h) k22 (by decide) (by decide) rfl wd_178 wd_179 wd_8 wd_180 wd_181 rfl rfl (by decide +kernel) ⟨Nat.le_of_ble_eq_true rfl, Nat.le_of_ble_eq_true rfl⟩ rfl hl.1 rfl (Nat.le_of_ble_eq_true rfl) dX5_wrap_136 ⟨show 2 ≤ 2 by omega, show 122 ≤ 122 by omega⟩ (fun r28 S27 H locs h m29 V => ?_)
    have k22 := m29.k k22 (by decide)
    refine r_callV (k := 5) (n := 2) (As := [.int (24 : Int32), .int r28]) X V (sd_X3_putPair l D ka _ S27 _ b8 (24 : Int32) r28 h) k22 (by decide) (by decide) rfl wd_182 wd_183 wd_8 wd_184 wd_185 rfl rfl (by decide +kernel) ⟨Nat.le_of_ble_eq_true rfl, Nat.le_of_ble_eq_true rfl⟩ rfl hl.1 rfl (Nat.le_of_ble_eq_true rfl) dX5_wrap_139 ⟨show 2 ≤ 2 by omega, show 122 ≤ 122 by omega⟩ (fun r31 S30 H locs h m32 V => ?_)
    have k22 := m32.k k22 (by decide)
    refine lv_aload X.1.1 X.1.2.1 dX5_wrap_142 (lv_at hl 2 rfl) ?_
    refine W.widen (k := 2) (n := 122) (by omega) (by omega) ?_
    exact W.aret X.1.1 X.1.2.1 hr (Or.inl ⟨_, rfl⟩) (Or.inr ⟨_, rfl⟩) (fun t ht _ => V.q (r := (some b8)) h ht) V.2.1.2.2 dX5_wrap_144 X.1.2.2.2.2
def wp_X5_wrap_103a (post : (Option Nat) → HS → Prop) (S : HS) (b0 : Nat) (x1 : Int32) (x2 : Int32) (b8 : Nat) (p0 : Int32) (d1 : Nat) : Prop := wp_X5_mixOf (fun r17 S16 => wp_X5_appendGre (fun _ S19 => wp_X5_wrap_111a post S19 b0 x2 b8) S16 d1 p0 x1 r17) S b0
set_option maxHeartbeats 400000 in
set_option maxRecDepth 100000 in
theorem sl_X5_wrap_103a (l : Launch) (D : va_G) (ka : Nat → ClassId) (sz : Nat) (Z : HS) (post : (Option Nat) → HS → Prop) {p : Program} {e : Env} {s : State} {m : MethodId} {args : Array Value} {below : List Frame} {meth : Method} {c : Code} (X : Cx p s m meth c cX5_wrap 9 RX5 D ka Z (fA Z sz)) (hr : meth.sig.returnType = (some (.object "OverlayFabric$Row")))  : ∀ (S : HS) (b0 : Nat) (x1 : Int32) (x2 : Int32) (b8 : Nat) (p0 : Int32) (d1 : Nat), wp_X5_wrap_103a post S b0 x1 x2 b8 p0 d1 → ∀ (H : Heap) (locs : List Loc) (ls : Array Slot), Hv D ka Z s (fA Z sz) S H locs → lv_has ls 9 [(0, .ref b0), (1, .int x1), (2, .int x2), (8, .ref b8)] → W p l e rm_X5_wrap s m args below meth c H locs 2 122 (MQ below (Qx eR post D ka Z sz) args s 2 122 (fA Z sz)) (F0 m 103 ls [.int p0, .ref d1]) := by
  intro S b0 x1 x2 b8 p0 d1 h H locs ls V hl
  refine lv_iload_n X.1.1 X.1.2.1 dX5_wrap_103 rfl (lv_at hl 1 rfl) ?_
  refine lv_aload_n X.1.1 X.1.2.1 dX5_wrap_104 rfl (lv_at hl 0 rfl) ?_
  refine r_callS (n := 1) (As := [.ref b0]) X V (sd_X5_mixOf l D ka _ S _ b0 h) wd_195 wd_196 wd_126 wd_197 rfl rfl (by decide +kernel) ⟨Nat.le_of_ble_eq_true rfl, Nat.le_of_ble_eq_true rfl⟩ rfl hl.1 rfl (Nat.le_of_ble_eq_true rfl) dX5_wrap_105 ⟨show 2 ≤ 2 by omega, show 122 ≤ 122 by omega⟩ (fun r17 S16 H locs h m18 V => ?_)
  refine r_callS (n := 4) (As := [.ref d1, .int p0, .int x1, .int r17]) X V (sd_X5_appendGre l D ka _ S16 _ d1 p0 x1 r17 h) wd_198 wd_199 wd_126 wd_200 rfl rfl (by decide +kernel) ⟨Nat.le_of_ble_eq_true rfl, Nat.le_of_ble_eq_true rfl⟩ rfl hl.1 rfl (Nat.le_of_ble_eq_true rfl) dX5_wrap_108 ⟨show 2 ≤ 2 by omega, show 122 ≤ 122 by omega⟩ (fun r20 S19 H locs h m21 V => ?_)
  exact sl_X5_wrap_111a l D ka sz Z post X hr S19 b0 x2 b8 h _ _ _ V (lv_sub hl [0, 2, 3] rfl)
def wp_X5_wrap_62a (post : (Option Nat) → HS → Prop) (S : HS) (b0 : Nat) (x1 : Int32) (x2 : Int32) (x4 : Int32) (x5 : Int32) (x7 : Int32) (b8 : Nat) (p0 : Int32) (p1 : Int32) (p2 : Int32) (d3 : Nat) : Prop := wp_X5_appendIp (fun _ S11 => ((¬ x2 = 0 → ((¬ x2 = (2 : Int32) → wp_X5_wrap_103a post S11 b0 x1 x2 b8 (0 : Int32) b8) ∧ (x2 = (2 : Int32) → wp_X5_wrap_103a post S11 b0 x1 x2 b8 (1 : Int32) b8))) ∧ (x2 = 0 → wp_X5_mixOf (fun r34 S33 => wp_X5_appendUdp (fun _ S36 => wp_X5_wrap_111a post S36 b0 x2 b8) S33 b8 (x7 - (20 : Int32)) x1 r34) S11 b0))) S d3 p2 p1 p0 x4 x5
set_option maxHeartbeats 400000 in
set_option maxRecDepth 100000 in
theorem sl_X5_wrap_62a (l : Launch) (D : va_G) (ka : Nat → ClassId) (sz : Nat) (Z : HS) (post : (Option Nat) → HS → Prop) {p : Program} {e : Env} {s : State} {m : MethodId} {args : Array Value} {below : List Frame} {meth : Method} {c : Code} (X : Cx p s m meth c cX5_wrap 9 RX5 D ka Z (fA Z sz)) (hr : meth.sig.returnType = (some (.object "OverlayFabric$Row")))  : ∀ (S : HS) (b0 : Nat) (x1 : Int32) (x2 : Int32) (x4 : Int32) (x5 : Int32) (x7 : Int32) (b8 : Nat) (p0 : Int32) (p1 : Int32) (p2 : Int32) (d3 : Nat), wp_X5_wrap_62a post S b0 x1 x2 x4 x5 x7 b8 p0 p1 p2 d3 → ∀ (H : Heap) (locs : List Loc) (ls : Array Slot), Hv D ka Z s (fA Z sz) S H locs → lv_has ls 9 [(0, .ref b0), (1, .int x1), (2, .int x2), (4, .int x4), (5, .int x5), (7, .int x7), (8, .ref b8)] → W p l e rm_X5_wrap s m args below meth c H locs 2 122 (MQ below (Qx eR post D ka Z sz) args s 2 122 (fA Z sz)) (F0 m 62 ls [.int p0, .int p1, .int p2, .ref d3]) := by
  intro S b0 x1 x2 x4 x5 x7 b8 p0 p1 p2 d3 h H locs ls V hl
  refine lv_iload X.1.1 X.1.2.1 dX5_wrap_62 (lv_at hl 3 rfl) ?_
  refine lv_iload X.1.1 X.1.2.1 dX5_wrap_64 (lv_at hl 4 rfl) ?_
  refine r_callS (n := 6) (As := [.ref d3, .int p2, .int p1, .int p0, .int x4, .int x5]) X V (sd_X5_appendIp l D ka _ S _ d3 p2 p1 p0 x4 x5 h) wd_192 wd_193 wd_126 wd_194 rfl rfl (by decide +kernel) ⟨Nat.le_of_ble_eq_true rfl, Nat.le_of_ble_eq_true rfl⟩ rfl hl.1 rfl (Nat.le_of_ble_eq_true rfl) dX5_wrap_66 ⟨show 2 ≤ 2 by omega, show 122 ≤ 122 by omega⟩ (fun r12 S11 H locs h m13 V => ?_)
  refine lv_iload_n X.1.1 X.1.2.1 dX5_wrap_69 rfl (lv_at hl 2 rfl) ?_
  refine lv_if_ne (tgt := 91) X.1.1 X.1.2.1 dX5_wrap_70 (by decide) (fun c14 => ?_) (fun c14 => ?_)
  · have h := h.1 c14
    refine lv_aload X.1.1 X.1.2.1 dX5_wrap_91 (lv_at hl 6 rfl) ?_
    refine lv_iload_n X.1.1 X.1.2.1 dX5_wrap_93 rfl (lv_at hl 2 rfl) ?_
    refine lv_iconst (v := (2 : Int32)) X.1.1 X.1.2.1 dX5_wrap_94 (by decide) ?_
    refine lv_icmp_ne (tgt := 102) X.1.1 X.1.2.1 dX5_wrap_95 (by decide) (fun c15 => ?_) (fun c15 => ?_)
    · have h := h.1 c15
      refine lv_iconst (v := (0 : Int32)) X.1.1 X.1.2.1 dX5_wrap_102 (by decide) ?_
      exact sl_X5_wrap_103a l D ka sz Z post X hr S11 b0 x1 x2 b8 (0 : Int32) b8 h _ _ _ V (lv_sub hl [0, 1, 2, 6] rfl)
    · have h := h.2 c15
      refine lv_iconst (v := (1 : Int32)) X.1.1 X.1.2.1 dX5_wrap_98 (by decide) ?_
      refine lv_goto (tgt := 103) X.1.1 X.1.2.1 dX5_wrap_99 (by decide) ?_
      exact sl_X5_wrap_103a l D ka sz Z post X hr S11 b0 x1 x2 b8 (1 : Int32) b8 h _ _ _ V (lv_sub hl [0, 1, 2, 6] rfl)
  · have h := h.2 c14
    refine lv_aload X.1.1 X.1.2.1 dX5_wrap_73 (lv_at hl 6 rfl) ?_
    refine lv_iload X.1.1 X.1.2.1 dX5_wrap_75 (lv_at hl 5 rfl) ?_
    refine lv_bipush (v := (20 : Int32)) X.1.1 X.1.2.1 dX5_wrap_77 (by decide) ?_
    refine lv_isub X.1.1 X.1.2.1 dX5_wrap_79 ?_
    refine lv_iload_n X.1.1 X.1.2.1 dX5_wrap_80 rfl (lv_at hl 1 rfl) ?_
    refine lv_aload_n X.1.1 X.1.2.1 dX5_wrap_81 rfl (lv_at hl 0 rfl) ?_
    refine r_callS (n := 1) (As := [.ref b0]) X V (sd_X5_mixOf l D ka _ S11 _ b0 h) wd_195 wd_196 wd_126 wd_197 rfl rfl (by decide +kernel) ⟨Nat.le_of_ble_eq_true rfl, Nat.le_of_ble_eq_true rfl⟩ rfl hl.1 rfl (Nat.le_of_ble_eq_true rfl) dX5_wrap_82 ⟨show 2 ≤ 2 by omega, show 122 ≤ 122 by omega⟩ (fun r34 S33 H locs h m35 V => ?_)
    refine r_callS (n := 4) (As := [.ref b8, .int (x7 - (20 : Int32)), .int x1, .int r34]) X V (sd_X5_appendUdp l D ka _ S33 _ b8 (x7 - (20 : Int32)) x1 r34 h) wd_201 wd_202 wd_126 wd_203 rfl rfl (by decide +kernel) ⟨Nat.le_of_ble_eq_true rfl, Nat.le_of_ble_eq_true rfl⟩ rfl hl.1 rfl (Nat.le_of_ble_eq_true rfl) dX5_wrap_85 ⟨show 2 ≤ 2 by omega, show 122 ≤ 122 by omega⟩ (fun r37 S36 H locs h m38 V => ?_)
    refine lv_goto (tgt := 111) X.1.1 X.1.2.1 dX5_wrap_88 (by decide) ?_
    exact sl_X5_wrap_111a l D ka sz Z post X hr S36 b0 x2 b8 h _ _ _ V (lv_sub hl [0, 2, 6] rfl)
def wp_X5_wrap_21a (post : (Option Nat) → HS → Prop) (S : HS) (b0 : Nat) (x1 : Int32) (x2 : Int32) (x3 : Int32) (x4 : Int32) (x5 : Int32) (p0 : Int32) : Prop := kd S b0 = 5 ∧ (∀ o4 : Nat, kd S o4 = 0 → (wp_X3_init (fun _ S7 => ((¬ x2 = 0 → wp_X5_wrap_62a post S7 b0 x1 x2 x4 x5 (((20 : Int32) + p0) + (fi S 15 b0)) o4 (47 : Int32) x3 (((20 : Int32) + p0) + (fi S 15 b0)) o4) ∧ (x2 = 0 → wp_X5_wrap_62a post S7 b0 x1 x2 x4 x5 (((20 : Int32) + p0) + (fi S 15 b0)) o4 (17 : Int32) x3 (((20 : Int32) + p0) + (fi S 15 b0)) o4))) (snw S o4 5 0) o4 (((20 : Int32) + p0) + (fi S 15 b0))))
set_option maxHeartbeats 400000 in
set_option maxRecDepth 100000 in
theorem sl_X5_wrap_21a (l : Launch) (D : va_G) (ka : Nat → ClassId) (sz : Nat) (Z : HS) (post : (Option Nat) → HS → Prop) {p : Program} {e : Env} {s : State} {m : MethodId} {args : Array Value} {below : List Frame} {meth : Method} {c : Code} (X : Cx p s m meth c cX5_wrap 9 RX5 D ka Z (fA Z sz)) (hr : meth.sig.returnType = (some (.object "OverlayFabric$Row")))  : ∀ (S : HS) (b0 : Nat) (x1 : Int32) (x2 : Int32) (x3 : Int32) (x4 : Int32) (x5 : Int32) (p0 : Int32), wp_X5_wrap_21a post S b0 x1 x2 x3 x4 x5 p0 → ∀ (H : Heap) (locs : List Loc) (ls : Array Slot), Hv D ka Z s (fA Z sz) S H locs → lv_has ls 9 [(0, .ref b0), (1, .int x1), (2, .int x2), (3, .int x3), (4, .int x4), (5, .int x5)] → W p l e rm_X5_wrap s m args below meth c H locs 0 0 (MQ below (Qx eR post D ka Z sz) args s 2 122 (fA Z sz)) (F0 m 21 ls [.int p0]) := by
  intro S b0 x1 x2 x3 x4 x5 p0 h H locs ls V hl
  refine lv_istore (lv' := [(6, .int p0), (0, .ref b0), (1, .int x1), (2, .int x2), (3, .int x3), (4, .int x4), (5, .int x5)]) X.1.1 X.1.2.1 dX5_wrap_21 hl (by decide) rfl (fun ls hl => ?_)
  refine lv_bipush (v := (20 : Int32)) X.1.1 X.1.2.1 dX5_wrap_23 (by decide) ?_
  refine lv_iload X.1.1 X.1.2.1 dX5_wrap_25 (lv_at hl 0 rfl) ?_
  refine lv_iadd X.1.1 X.1.2.1 dX5_wrap_27 ?_
  refine lv_aload_n X.1.1 X.1.2.1 dX5_wrap_28 rfl (lv_at hl 1 rfl) ?_
  obtain ⟨k3, h⟩ := h
  refine gf_X5_13 X V k3 dX5_wrap_29 ?_
  refine lv_iadd X.1.1 X.1.2.1 dX5_wrap_32 ?_
  refine lv_istore (lv' := [(7, .int (((20 : Int32) + p0) + (fi S 15 b0))), (6, .int p0), (0, .ref b0), (1, .int x1), (2, .int x2), (3, .int x3), (4, .int x4), (5, .int x5)]) X.1.1 X.1.2.1 dX5_wrap_33 hl (by decide) rfl (fun ls hl => ?_)
  refine nw_X5_11 X V (show 1 ≤ 2 by omega) (show 2 ≤ 122 by omega) dX5_wrap_35 (fun o4 H z5 V => ?_)
  have h := h o4 z5
  have k3 := (mono.snw (k := 5) (n := 0) z5).k k3 (by decide)
  refine W.widen (k := 1) (n := 2) (by omega) (by omega) ?_
  have k6 : kd (snw S o4 5 0) o4 = 5 := va_up_self _ _ _
  refine lv_dup X.1.1 X.1.2.1 dX5_wrap_38 rfl ?_
  refine lv_iload X.1.1 X.1.2.1 dX5_wrap_39 (lv_at hl 0 rfl) ?_
  refine r_callI (n := 1) (As := [.int (((20 : Int32) + p0) + (fi S 15 b0))]) X V (sd_X3_init l D ka _ (snw S o4 5 0) _ o4 (((20 : Int32) + p0) + (fi S 15 b0)) h) wd_164 wd_165 wd_8 wd_166 rfl rfl rfl (by decide +kernel) ⟨Nat.le_of_ble_eq_true rfl, Nat.le_of_ble_eq_true rfl⟩ rfl hl.1 rfl (Nat.le_of_ble_eq_true rfl) dX5_wrap_41 ⟨show 2 ≤ 2 by omega, show 122 ≤ 122 by omega⟩ (fun r8 S7 H locs h m9 V => ?_)
  have k3 := m9.k k3 (by decide)
  have k6 := m9.k k6 (by decide)
  refine W.widen (k := 2) (n := 122) (by omega) (by omega) ?_
  refine lv_astore (lv' := [(8, .ref o4), (7, .int (((20 : Int32) + p0) + (fi S 15 b0))), (6, .int p0), (0, .ref b0), (1, .int x1), (2, .int x2), (3, .int x3), (4, .int x4), (5, .int x5)]) X.1.1 X.1.2.1 dX5_wrap_44 hl (by decide) rfl (fun ls hl => ?_)
  refine lv_aload X.1.1 X.1.2.1 dX5_wrap_46 (lv_at hl 0 rfl) ?_
  refine lv_iload X.1.1 X.1.2.1 dX5_wrap_48 (lv_at hl 1 rfl) ?_
  refine lv_iload_n X.1.1 X.1.2.1 dX5_wrap_50 rfl (lv_at hl 6 rfl) ?_
  refine lv_iload_n X.1.1 X.1.2.1 dX5_wrap_51 rfl (lv_at hl 5 rfl) ?_
  refine lv_if_ne (tgt := 60) X.1.1 X.1.2.1 dX5_wrap_52 (by decide) (fun c10 => ?_) (fun c10 => ?_)
  · have h := h.1 c10
    refine lv_bipush (v := (47 : Int32)) X.1.1 X.1.2.1 dX5_wrap_60 (by decide) ?_
    exact sl_X5_wrap_62a l D ka sz Z post X hr S7 b0 x1 x2 x4 x5 (((20 : Int32) + p0) + (fi S 15 b0)) o4 (47 : Int32) x3 (((20 : Int32) + p0) + (fi S 15 b0)) o4 h _ _ _ V (lv_sub hl [3, 4, 5, 7, 8, 1, 0] rfl)
  · have h := h.2 c10
    refine lv_bipush (v := (17 : Int32)) X.1.1 X.1.2.1 dX5_wrap_55 (by decide) ?_
    refine lv_goto (tgt := 62) X.1.1 X.1.2.1 dX5_wrap_57 (by decide) ?_
    exact sl_X5_wrap_62a l D ka sz Z post X hr S7 b0 x1 x2 x4 x5 (((20 : Int32) + p0) + (fi S 15 b0)) o4 (17 : Int32) x3 (((20 : Int32) + p0) + (fi S 15 b0)) o4 h _ _ _ V (lv_sub hl [3, 4, 5, 7, 8, 1, 0] rfl)
def wp_X5_wrap (post : (Option Nat) → HS → Prop) (S : HS) (a0 : Nat) (v1 : Int32) (v2 : Int32) (v3 : Int32) (v4 : Int32) (v5 : Int32) : Prop := ((¬ v2 = 0 → ((¬ v2 = (2 : Int32) → wp_X5_wrap_21a post S a0 v1 v2 v3 v4 v5 (8 : Int32)) ∧ (v2 = (2 : Int32) → wp_X5_wrap_21a post S a0 v1 v2 v3 v4 v5 (12 : Int32)))) ∧ (v2 = 0 → wp_X5_wrap_21a post S a0 v1 v2 v3 v4 v5 (16 : Int32)))
set_option maxHeartbeats 400000 in
set_option maxRecDepth 100000 in
theorem sd_X5_wrap (l : Launch) (D : va_G) (ka : Nat → ClassId) (sz : Nat) (Z : HS) (post : (Option Nat) → HS → Prop) (a0 : Nat) (v1 : Int32) (v2 : Int32) (v3 : Int32) (v4 : Int32) (v5 : Int32) (h : wp_X5_wrap post Z a0 v1 v2 v3 v4 v5) : Met l yX5_wrap [Cond.code yX5_wrap cX5_wrap 9 (some (.object "OverlayFabric$Row"))] rm_X5_wrap (Px D ka Z sz [.ref a0, .int v1, .int v2, .int v3, .int v4, .int v5]) (Qx eR post D ka Z sz) 2 122 (fA Z sz) := by
  refine Met.ofW (cc := cX5_wrap) (maxL := 9) (ret := (some (.object "OverlayFabric$Row"))) (by decide) rfl ?_
  intro p e s m args below meth c s₁ B hml hv
  obtain ⟨rfl, X, V, hsz⟩ := Cx.entry B hml hv
  have hr : meth.sig.returnType = (some (.object "OverlayFabric$Row")) := B.returns
  have hl := lv_entry ([.ref a0, .int v1, .int v2, .int v3, .int v4, .int v5]) (n := 9) (Nat.le_of_ble_eq_true rfl)
  rw [lg_entry_eq]
  generalize (lg_sl ([.ref a0, .int v1, .int v2, .int v3, .int v4, .int v5]) ++ List.replicate (9 - (lg_sl ([.ref a0, .int v1, .int v2, .int v3, .int v4, .int v5])).length) Slot.unset).toArray = ls at hl ⊢
  have hl : lv_has ls 9 [(0, .ref a0), (1, .int v1), (2, .int v2), (3, .int v3), (4, .int v4), (5, .int v5)] := hl
  have h : wp_X5_wrap post Z a0 v1 v2 v3 v4 v5 := h
  refine lv_iload_n X.1.1 X.1.2.1 dX5_wrap_0 rfl (lv_at hl 2 rfl) ?_
  refine lv_if_ne (tgt := 9) X.1.1 X.1.2.1 dX5_wrap_1 (by decide) (fun c1 => ?_) (fun c1 => ?_)
  · have h := h.1 c1
    refine lv_iload_n X.1.1 X.1.2.1 dX5_wrap_9 rfl (lv_at hl 2 rfl) ?_
    refine lv_iconst (v := (2 : Int32)) X.1.1 X.1.2.1 dX5_wrap_10 (by decide) ?_
    refine lv_icmp_ne (tgt := 19) X.1.1 X.1.2.1 dX5_wrap_11 (by decide) (fun c2 => ?_) (fun c2 => ?_)
    · have h := h.1 c2
      refine lv_bipush (v := (8 : Int32)) X.1.1 X.1.2.1 dX5_wrap_19 (by decide) ?_
      exact sl_X5_wrap_21a l D ka sz Z post X hr Z a0 v1 v2 v3 v4 v5 (8 : Int32) h _ _ _ V (lv_sub hl [0, 1, 2, 3, 4, 5] rfl)
    · have h := h.2 c2
      refine lv_bipush (v := (12 : Int32)) X.1.1 X.1.2.1 dX5_wrap_14 (by decide) ?_
      refine lv_goto (tgt := 21) X.1.1 X.1.2.1 dX5_wrap_16 (by decide) ?_
      exact sl_X5_wrap_21a l D ka sz Z post X hr Z a0 v1 v2 v3 v4 v5 (12 : Int32) h _ _ _ V (lv_sub hl [0, 1, 2, 3, 4, 5] rfl)
  · have h := h.2 c1
    refine lv_bipush (v := (16 : Int32)) X.1.1 X.1.2.1 dX5_wrap_4 (by decide) ?_
    refine lv_goto (tgt := 21) X.1.1 X.1.2.1 dX5_wrap_6 (by decide) ?_
    exact sl_X5_wrap_21a l D ka sz Z post X hr Z a0 v1 v2 v3 v4 v5 (16 : Int32) h _ _ _ V (lv_sub hl [0, 1, 2, 3, 4, 5] rfl)
abbrev rm_X5_frameStart : Room := { frames := 2, cells := 0, slots := 0, locals := 42 }
def wp_X5_frameStart (post : Int32 → HS → Prop) (S : HS) (a0 : Nat) : Prop := kd S a0 = 5 ∧ (wp_X3_at (fun r3 S2 => ((¬ r3 = (17 : Int32) → wp_X3_pair (fun r7 S6 => ((¬ r7 = (40960 : Int32) → post ((20 : Int32) + (8 : Int32)) S6) ∧ (r7 = (40960 : Int32) → post ((20 : Int32) + (12 : Int32)) S6))) S2 a0 (20 : Int32)) ∧ (r3 = (17 : Int32) → post (36 : Int32) S2))) S a0 (9 : Int32))
set_option maxHeartbeats 400000 in
set_option maxRecDepth 100000 in
theorem sd_X5_frameStart (l : Launch) (D : va_G) (ka : Nat → ClassId) (sz : Nat) (Z : HS) (post : Int32 → HS → Prop) (a0 : Nat) (h : wp_X5_frameStart post Z a0) : Met l yX5_frameStart [Cond.code yX5_frameStart cX5_frameStart 1 (some .int)] rm_X5_frameStart (Px D ka Z sz [.ref a0]) (Qx eI post D ka Z sz) 0 0 (fA Z sz) := by
  refine Met.ofW (cc := cX5_frameStart) (maxL := 1) (ret := (some .int)) (by decide) rfl ?_
  intro p e s m args below meth c s₁ B hml hv
  obtain ⟨rfl, X, V, hsz⟩ := Cx.entry B hml hv
  have hr : meth.sig.returnType = (some .int) := B.returns
  have hl := lv_entry ([.ref a0]) (n := 1) (Nat.le_of_ble_eq_true rfl)
  rw [lg_entry_eq]
  generalize (lg_sl ([.ref a0]) ++ List.replicate (1 - (lg_sl ([.ref a0])).length) Slot.unset).toArray = ls at hl ⊢
  have hl : lv_has ls 1 [(0, .ref a0)] := hl
  have h : wp_X5_frameStart post Z a0 := h
  refine lv_aload_n X.1.1 X.1.2.1 dX5_frameStart_0 rfl (lv_at hl 0 rfl) ?_
  refine lv_bipush (v := (9 : Int32)) X.1.1 X.1.2.1 dX5_frameStart_1 (by decide) ?_
  obtain ⟨k1, h⟩ := h
  refine r_callV (k := 5) (n := 1) (As := [.int (9 : Int32)]) X V (sd_X3_at l D ka _ Z _ a0 (9 : Int32) h) k1 (by decide) (by decide) rfl wd_11 wd_186 wd_8 wd_13 wd_14 rfl rfl (by decide +kernel) ⟨Nat.le_of_ble_eq_true rfl, Nat.le_of_ble_eq_true rfl⟩ rfl hl.1 rfl (Nat.le_of_ble_eq_true rfl) dX5_frameStart_3 ⟨show 0 ≤ 0 by omega, show 0 ≤ 0 by omega⟩ (fun r3 S2 H locs h m4 V => ?_)
  have k1 := m4.k k1 (by decide)
  refine lv_bipush (v := (17 : Int32)) X.1.1 X.1.2.1 dX5_frameStart_6 (by decide) ?_
  refine lv_icmp_ne (tgt := 14) X.1.1 X.1.2.1 dX5_frameStart_8 (by decide) (fun c5 => ?_) (fun c5 => ?_)
  · have h := h.1 c5
    refine lv_bipush (v := (20 : Int32)) X.1.1 X.1.2.1 dX5_frameStart_14 (by decide) ?_
    refine lv_aload_n X.1.1 X.1.2.1 dX5_frameStart_16 rfl (lv_at hl 0 rfl) ?_
    refine lv_bipush (v := (20 : Int32)) X.1.1 X.1.2.1 dX5_frameStart_17 (by decide) ?_
    refine r_callV (k := 5) (n := 1) (As := [.int (20 : Int32)]) X V (sd_X3_pair l D ka _ S2 _ a0 (20 : Int32) h) k1 (by decide) (by decide) rfl wd_204 wd_205 wd_8 wd_206 wd_207 rfl rfl (by decide +kernel) ⟨Nat.le_of_ble_eq_true rfl, Nat.le_of_ble_eq_true rfl⟩ rfl hl.1 rfl (Nat.le_of_ble_eq_true rfl) dX5_frameStart_19 ⟨show 0 ≤ 0 by omega, show 0 ≤ 0 by omega⟩ (fun r7 S6 H locs h m8 V => ?_)
    have k1 := m8.k k1 (by decide)
    refine lv_ldc (v := (40960 : Int32)) X.1.1 X.1.2.1 X.1.2.2.2.1 (X.w wd_208 rfl _) dX5_frameStart_22 ?_
    refine lv_icmp_ne (tgt := 32) X.1.1 X.1.2.1 dX5_frameStart_24 (by decide) (fun c9 => ?_) (fun c9 => ?_)
    · have h := h.1 c9
      refine lv_bipush (v := (8 : Int32)) X.1.1 X.1.2.1 dX5_frameStart_32 (by decide) ?_
      refine lv_iadd X.1.1 X.1.2.1 dX5_frameStart_34 ?_
      exact W.iret X.1.1 X.1.2.1 hr (fun t ht _ => V.q (r := ((20 : Int32) + (8 : Int32))) h ht) V.2.1.2.2 dX5_frameStart_35 X.1.2.2.2.2
    · have h := h.2 c9
      refine lv_bipush (v := (12 : Int32)) X.1.1 X.1.2.1 dX5_frameStart_27 (by decide) ?_
      refine lv_goto (tgt := 34) X.1.1 X.1.2.1 dX5_frameStart_29 (by decide) ?_
      refine lv_iadd X.1.1 X.1.2.1 dX5_frameStart_34 ?_
      exact W.iret X.1.1 X.1.2.1 hr (fun t ht _ => V.q (r := ((20 : Int32) + (12 : Int32))) h ht) V.2.1.2.2 dX5_frameStart_35 X.1.2.2.2.2
  · have h := h.2 c5
    refine lv_bipush (v := (36 : Int32)) X.1.1 X.1.2.1 dX5_frameStart_11 (by decide) ?_
    exact W.iret X.1.1 X.1.2.1 hr (fun t ht _ => V.q (r := (36 : Int32)) h ht) V.2.1.2.2 dX5_frameStart_13 X.1.2.2.2.2
abbrev rm_X5_isGoodUdp : Room := { frames := 2, cells := 0, slots := 0, locals := 42 }
def wp_X5_isGoodUdp (post : Int32 → HS → Prop) (S : HS) (a0 : Nat) : Prop := kd S a0 = 5 ∧ (wp_X3_pair (fun r3 S2 => ((¬ r3 = ((fi S2 15 a0) - (20 : Int32)) → post (0 : Int32) S2) ∧ (r3 = ((fi S2 15 a0) - (20 : Int32)) → wp_X3_pair (fun r7 S6 => ((¬ r7 = (4789 : Int32) → post (0 : Int32) S6) ∧ (r7 = (4789 : Int32) → wp_X3_pair (fun r11 S10 => ((¬ r11 = 0 → post (0 : Int32) S10) ∧ (r11 = 0 → wp_X3_at (fun r15 S14 => (((r15 &&& (8 : Int32)) = 0 → post (0 : Int32) S14) ∧ (¬ (r15 &&& (8 : Int32)) = 0 → post (1 : Int32) S14))) S10 a0 (28 : Int32)))) S6 a0 (26 : Int32)))) S2 a0 (22 : Int32)))) S a0 (24 : Int32))
set_option maxHeartbeats 400000 in
set_option maxRecDepth 100000 in
theorem sd_X5_isGoodUdp (l : Launch) (D : va_G) (ka : Nat → ClassId) (sz : Nat) (Z : HS) (post : Int32 → HS → Prop) (a0 : Nat) (h : wp_X5_isGoodUdp post Z a0) : Met l yX5_isGoodUdp [Cond.code yX5_isGoodUdp cX5_isGoodUdp 1 (some .boolean)] rm_X5_isGoodUdp (Px D ka Z sz [.ref a0]) (Qx eI post D ka Z sz) 0 0 (fA Z sz) := by
  refine Met.ofW (cc := cX5_isGoodUdp) (maxL := 1) (ret := (some .boolean)) (by decide) rfl ?_
  intro p e s m args below meth c s₁ B hml hv
  obtain ⟨rfl, X, V, hsz⟩ := Cx.entry B hml hv
  have hr : meth.sig.returnType = (some .boolean) := B.returns
  have hl := lv_entry ([.ref a0]) (n := 1) (Nat.le_of_ble_eq_true rfl)
  rw [lg_entry_eq]
  generalize (lg_sl ([.ref a0]) ++ List.replicate (1 - (lg_sl ([.ref a0])).length) Slot.unset).toArray = ls at hl ⊢
  have hl : lv_has ls 1 [(0, .ref a0)] := hl
  have h : wp_X5_isGoodUdp post Z a0 := h
  refine lv_aload_n X.1.1 X.1.2.1 dX5_isGoodUdp_0 rfl (lv_at hl 0 rfl) ?_
  refine lv_bipush (v := (24 : Int32)) X.1.1 X.1.2.1 dX5_isGoodUdp_1 (by decide) ?_
  obtain ⟨k1, h⟩ := h
  refine r_callV (k := 5) (n := 1) (As := [.int (24 : Int32)]) X V (sd_X3_pair l D ka _ Z _ a0 (24 : Int32) h) k1 (by decide) (by decide) rfl wd_204 wd_205 wd_8 wd_206 wd_207 rfl rfl (by decide +kernel) ⟨Nat.le_of_ble_eq_true rfl, Nat.le_of_ble_eq_true rfl⟩ rfl hl.1 rfl (Nat.le_of_ble_eq_true rfl) dX5_isGoodUdp_3 ⟨show 0 ≤ 0 by omega, show 0 ≤ 0 by omega⟩ (fun r3 S2 H locs h m4 V => ?_)
  have k1 := m4.k k1 (by decide)
  refine lv_aload_n X.1.1 X.1.2.1 dX5_isGoodUdp_6 rfl (lv_at hl 0 rfl) ?_
  refine gf_X5_13 X V k1 dX5_isGoodUdp_7 ?_
  refine lv_bipush (v := (20 : Int32)) X.1.1 X.1.2.1 dX5_isGoodUdp_10 (by decide) ?_
  refine lv_isub X.1.1 X.1.2.1 dX5_isGoodUdp_12 ?_
  refine lv_icmp_ne (tgt := 53) X.1.1 X.1.2.1 dX5_isGoodUdp_13 (by decide) (fun c5 => ?_) (fun c5 => ?_)
  · have h := h.1 c5
    refine lv_iconst (v := (0 : Int32)) X.1.1 X.1.2.1 dX5_isGoodUdp_53 (by decide) ?_
    exact W.zret X.1.1 X.1.2.1 hr (by decide) (fun t ht _ => V.q (r := (0 : Int32)) h ht) V.2.1.2.2 dX5_isGoodUdp_54 X.1.2.2.2.2
  · have h := h.2 c5
    refine lv_aload_n X.1.1 X.1.2.1 dX5_isGoodUdp_16 rfl (lv_at hl 0 rfl) ?_
    refine lv_bipush (v := (22 : Int32)) X.1.1 X.1.2.1 dX5_isGoodUdp_17 (by decide) ?_
    refine r_callV (k := 5) (n := 1) (As := [.int (22 : Int32)]) X V (sd_X3_pair l D ka _ S2 _ a0 (22 : Int32) h) k1 (by decide) (by decide) rfl wd_204 wd_205 wd_8 wd_206 wd_207 rfl rfl (by decide +kernel) ⟨Nat.le_of_ble_eq_true rfl, Nat.le_of_ble_eq_true rfl⟩ rfl hl.1 rfl (Nat.le_of_ble_eq_true rfl) dX5_isGoodUdp_19 ⟨show 0 ≤ 0 by omega, show 0 ≤ 0 by omega⟩ (fun r7 S6 H locs h m8 V => ?_)
    have k1 := m8.k k1 (by decide)
    refine lv_sipush (v := (4789 : Int32)) X.1.1 X.1.2.1 dX5_isGoodUdp_22 (by decide) ?_
    refine lv_icmp_ne (tgt := 53) X.1.1 X.1.2.1 dX5_isGoodUdp_25 (by decide) (fun c9 => ?_) (fun c9 => ?_)
    · have h := h.1 c9
      refine lv_iconst (v := (0 : Int32)) X.1.1 X.1.2.1 dX5_isGoodUdp_53 (by decide) ?_
      exact W.zret X.1.1 X.1.2.1 hr (by decide) (fun t ht _ => V.q (r := (0 : Int32)) h ht) V.2.1.2.2 dX5_isGoodUdp_54 X.1.2.2.2.2
    · have h := h.2 c9
      refine lv_aload_n X.1.1 X.1.2.1 dX5_isGoodUdp_28 rfl (lv_at hl 0 rfl) ?_
      refine lv_bipush (v := (26 : Int32)) X.1.1 X.1.2.1 dX5_isGoodUdp_29 (by decide) ?_
      refine r_callV (k := 5) (n := 1) (As := [.int (26 : Int32)]) X V (sd_X3_pair l D ka _ S6 _ a0 (26 : Int32) h) k1 (by decide) (by decide) rfl wd_204 wd_205 wd_8 wd_206 wd_207 rfl rfl (by decide +kernel) ⟨Nat.le_of_ble_eq_true rfl, Nat.le_of_ble_eq_true rfl⟩ rfl hl.1 rfl (Nat.le_of_ble_eq_true rfl) dX5_isGoodUdp_31 ⟨show 0 ≤ 0 by omega, show 0 ≤ 0 by omega⟩ (fun r11 S10 H locs h m12 V => ?_)
      have k1 := m12.k k1 (by decide)
      refine lv_if_ne (tgt := 53) X.1.1 X.1.2.1 dX5_isGoodUdp_34 (by decide) (fun c13 => ?_) (fun c13 => ?_)
      · have h := h.1 c13
        refine lv_iconst (v := (0 : Int32)) X.1.1 X.1.2.1 dX5_isGoodUdp_53 (by decide) ?_
        exact W.zret X.1.1 X.1.2.1 hr (by decide) (fun t ht _ => V.q (r := (0 : Int32)) h ht) V.2.1.2.2 dX5_isGoodUdp_54 X.1.2.2.2.2
      · have h := h.2 c13
        refine lv_aload_n X.1.1 X.1.2.1 dX5_isGoodUdp_37 rfl (lv_at hl 0 rfl) ?_
        refine lv_bipush (v := (28 : Int32)) X.1.1 X.1.2.1 dX5_isGoodUdp_38 (by decide) ?_
        refine r_callV (k := 5) (n := 1) (As := [.int (28 : Int32)]) X V (sd_X3_at l D ka _ S10 _ a0 (28 : Int32) h) k1 (by decide) (by decide) rfl wd_11 wd_186 wd_8 wd_13 wd_14 rfl rfl (by decide +kernel) ⟨Nat.le_of_ble_eq_true rfl, Nat.le_of_ble_eq_true rfl⟩ rfl hl.1 rfl (Nat.le_of_ble_eq_true rfl) dX5_isGoodUdp_40 ⟨show 0 ≤ 0 by omega, show 0 ≤ 0 by omega⟩ (fun r15 S14 H locs h m16 V => ?_)
        have k1 := m16.k k1 (by decide)
        refine lv_bipush (v := (8 : Int32)) X.1.1 X.1.2.1 dX5_isGoodUdp_43 (by decide) ?_
        refine lv_iand X.1.1 X.1.2.1 dX5_isGoodUdp_45 ?_
        refine lv_if_eq (tgt := 53) X.1.1 X.1.2.1 dX5_isGoodUdp_46 (by decide) (fun c17 => ?_) (fun c17 => ?_)
        · have h := h.1 c17
          refine lv_iconst (v := (0 : Int32)) X.1.1 X.1.2.1 dX5_isGoodUdp_53 (by decide) ?_
          exact W.zret X.1.1 X.1.2.1 hr (by decide) (fun t ht _ => V.q (r := (0 : Int32)) h ht) V.2.1.2.2 dX5_isGoodUdp_54 X.1.2.2.2.2
        · have h := h.2 c17
          refine lv_iconst (v := (1 : Int32)) X.1.1 X.1.2.1 dX5_isGoodUdp_49 (by decide) ?_
          refine lv_goto (tgt := 54) X.1.1 X.1.2.1 dX5_isGoodUdp_50 (by decide) ?_
          exact W.zret X.1.1 X.1.2.1 hr (by decide) (fun t ht _ => V.q (r := (1 : Int32)) h ht) V.2.1.2.2 dX5_isGoodUdp_54 X.1.2.2.2.2
abbrev rm_X5_isGoodGre : Room := { frames := 2, cells := 0, slots := 0, locals := 45 }
def wp_X5_isGoodGre (post : Int32 → HS → Prop) (S : HS) (a0 : Nat) : Prop := kd S a0 = 5 ∧ (wp_X3_pair (fun r3 S2 => ((r3 = (25944 : Int32) → wp_X3_pair (fun r7 S6 => ((r7 = (8192 : Int32) → post (1 : Int32) S6) ∧ (¬ r7 = (8192 : Int32) → ((¬ r7 = (40960 : Int32) → post (0 : Int32) S6) ∧ (r7 = (40960 : Int32) → wp_X3_sum (fun r12 S11 => ((¬ r12 = 0 → post (0 : Int32) S11) ∧ (r12 = 0 → post (1 : Int32) S11))) S6 a0 (20 : Int32) (fi S6 15 a0)))))) S2 a0 (20 : Int32)) ∧ (¬ r3 = (25944 : Int32) → post (0 : Int32) S2))) S a0 (22 : Int32))
set_option maxHeartbeats 400000 in
set_option maxRecDepth 100000 in
theorem sd_X5_isGoodGre (l : Launch) (D : va_G) (ka : Nat → ClassId) (sz : Nat) (Z : HS) (post : Int32 → HS → Prop) (a0 : Nat) (h : wp_X5_isGoodGre post Z a0) : Met l yX5_isGoodGre [Cond.code yX5_isGoodGre cX5_isGoodGre 2 (some .boolean)] rm_X5_isGoodGre (Px D ka Z sz [.ref a0]) (Qx eI post D ka Z sz) 0 0 (fA Z sz) := by
  refine Met.ofW (cc := cX5_isGoodGre) (maxL := 2) (ret := (some .boolean)) (by decide) rfl ?_
  intro p e s m args below meth c s₁ B hml hv
  obtain ⟨rfl, X, V, hsz⟩ := Cx.entry B hml hv
  have hr : meth.sig.returnType = (some .boolean) := B.returns
  have hl := lv_entry ([.ref a0]) (n := 2) (Nat.le_of_ble_eq_true rfl)
  rw [lg_entry_eq]
  generalize (lg_sl ([.ref a0]) ++ List.replicate (2 - (lg_sl ([.ref a0])).length) Slot.unset).toArray = ls at hl ⊢
  have hl : lv_has ls 2 [(0, .ref a0)] := hl
  have h : wp_X5_isGoodGre post Z a0 := h
  refine lv_aload_n X.1.1 X.1.2.1 dX5_isGoodGre_0 rfl (lv_at hl 0 rfl) ?_
  refine lv_bipush (v := (22 : Int32)) X.1.1 X.1.2.1 dX5_isGoodGre_1 (by decide) ?_
  obtain ⟨k1, h⟩ := h
  refine r_callV (k := 5) (n := 1) (As := [.int (22 : Int32)]) X V (sd_X3_pair l D ka _ Z _ a0 (22 : Int32) h) k1 (by decide) (by decide) rfl wd_204 wd_205 wd_8 wd_206 wd_207 rfl rfl (by decide +kernel) ⟨Nat.le_of_ble_eq_true rfl, Nat.le_of_ble_eq_true rfl⟩ rfl hl.1 rfl (Nat.le_of_ble_eq_true rfl) dX5_isGoodGre_3 ⟨show 0 ≤ 0 by omega, show 0 ≤ 0 by omega⟩ (fun r3 S2 H locs h m4 V => ?_)
  have k1 := m4.k k1 (by decide)
  refine lv_sipush (v := (25944 : Int32)) X.1.1 X.1.2.1 dX5_isGoodGre_6 (by decide) ?_
  refine lv_icmp_eq (tgt := 14) X.1.1 X.1.2.1 dX5_isGoodGre_9 (by decide) (fun c5 => ?_) (fun c5 => ?_)
  · have h := h.1 c5
    refine lv_aload_n X.1.1 X.1.2.1 dX5_isGoodGre_14 rfl (lv_at hl 0 rfl) ?_
    refine lv_bipush (v := (20 : Int32)) X.1.1 X.1.2.1 dX5_isGoodGre_15 (by decide) ?_
    refine r_callV (k := 5) (n := 1) (As := [.int (20 : Int32)]) X V (sd_X3_pair l D ka _ S2 _ a0 (20 : Int32) h) k1 (by decide) (by decide) rfl wd_204 wd_205 wd_8 wd_206 wd_207 rfl rfl (by decide +kernel) ⟨Nat.le_of_ble_eq_true rfl, Nat.le_of_ble_eq_true rfl⟩ rfl hl.1 rfl (Nat.le_of_ble_eq_true rfl) dX5_isGoodGre_17 ⟨show 0 ≤ 0 by omega, show 0 ≤ 0 by omega⟩ (fun r7 S6 H locs h m8 V => ?_)
    have k1 := m8.k k1 (by decide)
    refine lv_istore_n (lv' := [(1, .int r7), (0, .ref a0)]) X.1.1 X.1.2.1 dX5_isGoodGre_20 rfl hl (by decide) rfl (fun ls hl => ?_)
    refine lv_iload_n X.1.1 X.1.2.1 dX5_isGoodGre_21 rfl (lv_at hl 0 rfl) ?_
    refine lv_sipush (v := (8192 : Int32)) X.1.1 X.1.2.1 dX5_isGoodGre_22 (by decide) ?_
    refine lv_icmp_eq (tgt := 47) X.1.1 X.1.2.1 dX5_isGoodGre_25 (by decide) (fun c9 => ?_) (fun c9 => ?_)
    · have h := h.1 c9
      refine lv_iconst (v := (1 : Int32)) X.1.1 X.1.2.1 dX5_isGoodGre_47 (by decide) ?_
      refine lv_goto (tgt := 52) X.1.1 X.1.2.1 dX5_isGoodGre_48 (by decide) ?_
      exact W.zret X.1.1 X.1.2.1 hr (by decide) (fun t ht _ => V.q (r := (1 : Int32)) h ht) V.2.1.2.2 dX5_isGoodGre_52 X.1.2.2.2.2
    · have h := h.2 c9
      refine lv_iload_n X.1.1 X.1.2.1 dX5_isGoodGre_28 rfl (lv_at hl 0 rfl) ?_
      refine lv_ldc (v := (40960 : Int32)) X.1.1 X.1.2.1 X.1.2.2.2.1 (X.w wd_208 rfl _) dX5_isGoodGre_29 ?_
      refine lv_icmp_ne (tgt := 51) X.1.1 X.1.2.1 dX5_isGoodGre_31 (by decide) (fun c10 => ?_) (fun c10 => ?_)
      · have h := h.1 c10
        refine lv_iconst (v := (0 : Int32)) X.1.1 X.1.2.1 dX5_isGoodGre_51 (by decide) ?_
        exact W.zret X.1.1 X.1.2.1 hr (by decide) (fun t ht _ => V.q (r := (0 : Int32)) h ht) V.2.1.2.2 dX5_isGoodGre_52 X.1.2.2.2.2
      · have h := h.2 c10
        refine lv_aload_n X.1.1 X.1.2.1 dX5_isGoodGre_34 rfl (lv_at hl 1 rfl) ?_
        refine lv_bipush (v := (20 : Int32)) X.1.1 X.1.2.1 dX5_isGoodGre_35 (by decide) ?_
        refine lv_aload_n X.1.1 X.1.2.1 dX5_isGoodGre_37 rfl (lv_at hl 1 rfl) ?_
        refine gf_X5_13 X V k1 dX5_isGoodGre_38 ?_
        refine r_callV (k := 5) (n := 2) (As := [.int (20 : Int32), .int (fi S6 15 a0)]) X V (sd_X3_sum l D ka _ S6 _ a0 (20 : Int32) (fi S6 15 a0) h) k1 (by decide) (by decide) rfl wd_178 wd_179 wd_8 wd_180 wd_181 rfl rfl (by decide +kernel) ⟨Nat.le_of_ble_eq_true rfl, Nat.le_of_ble_eq_true rfl⟩ rfl hl.1 rfl (Nat.le_of_ble_eq_true rfl) dX5_isGoodGre_41 ⟨show 0 ≤ 0 by omega, show 0 ≤ 0 by omega⟩ (fun r12 S11 H locs h m13 V => ?_)
        have k1 := m13.k k1 (by decide)
        refine lv_if_ne (tgt := 51) X.1.1 X.1.2.1 dX5_isGoodGre_44 (by decide) (fun c14 => ?_) (fun c14 => ?_)
        · have h := h.1 c14
          refine lv_iconst (v := (0 : Int32)) X.1.1 X.1.2.1 dX5_isGoodGre_51 (by decide) ?_
          exact W.zret X.1.1 X.1.2.1 hr (by decide) (fun t ht _ => V.q (r := (0 : Int32)) h ht) V.2.1.2.2 dX5_isGoodGre_52 X.1.2.2.2.2
        · have h := h.2 c14
          refine lv_iconst (v := (1 : Int32)) X.1.1 X.1.2.1 dX5_isGoodGre_47 (by decide) ?_
          refine lv_goto (tgt := 52) X.1.1 X.1.2.1 dX5_isGoodGre_48 (by decide) ?_
          exact W.zret X.1.1 X.1.2.1 hr (by decide) (fun t ht _ => V.q (r := (1 : Int32)) h ht) V.2.1.2.2 dX5_isGoodGre_52 X.1.2.2.2.2
  · have h := h.2 c5
    refine lv_iconst (v := (0 : Int32)) X.1.1 X.1.2.1 dX5_isGoodGre_12 (by decide) ?_
    exact W.zret X.1.1 X.1.2.1 hr (by decide) (fun t ht _ => V.q (r := (0 : Int32)) h ht) V.2.1.2.2 dX5_isGoodGre_13 X.1.2.2.2.2
abbrev rm_X5_carriesFrame : Room := { frames := 3, cells := 0, slots := 0, locals := 66 }
def wp_X5_carriesFrame (post : Int32 → HS → Prop) (S : HS) (a0 : Nat) : Prop := kd S a0 = 5 ∧ (wp_X5_frameStart (fun r3 S2 => (((r3 + (14 : Int32)) ≤ (fi S 15 a0) → wp_X3_at (fun r7 S6 => ((¬ r7 = (17 : Int32) → ((¬ r7 = (47 : Int32) → post (0 : Int32) S6) ∧ (r7 = (47 : Int32) → wp_X5_isGoodGre (fun r12 S11 => ((r12 = 0 → post (0 : Int32) S11) ∧ (¬ r12 = 0 → post (1 : Int32) S11))) S6 a0))) ∧ (r7 = (17 : Int32) → wp_X5_isGoodUdp (fun r16 S15 => narrow .boolean (.int r16) = .int r16 ∧ post r16 S15) S6 a0))) S2 a0 (9 : Int32)) ∧ (¬ (r3 + (14 : Int32)) ≤ (fi S 15 a0) → post (0 : Int32) S2))) S a0)
set_option maxHeartbeats 400000 in
set_option maxRecDepth 100000 in
theorem sd_X5_carriesFrame (l : Launch) (D : va_G) (ka : Nat → ClassId) (sz : Nat) (Z : HS) (post : Int32 → HS → Prop) (a0 : Nat) (h : wp_X5_carriesFrame post Z a0) : Met l yX5_carriesFrame [Cond.code yX5_carriesFrame cX5_carriesFrame 2 (some .boolean)] rm_X5_carriesFrame (Px D ka Z sz [.ref a0]) (Qx eI post D ka Z sz) 0 0 (fA Z sz) := by
  refine Met.ofW (cc := cX5_carriesFrame) (maxL := 2) (ret := (some .boolean)) (by decide) rfl ?_
  intro p e s m args below meth c s₁ B hml hv
  obtain ⟨rfl, X, V, hsz⟩ := Cx.entry B hml hv
  have hr : meth.sig.returnType = (some .boolean) := B.returns
  have hl := lv_entry ([.ref a0]) (n := 2) (Nat.le_of_ble_eq_true rfl)
  rw [lg_entry_eq]
  generalize (lg_sl ([.ref a0]) ++ List.replicate (2 - (lg_sl ([.ref a0])).length) Slot.unset).toArray = ls at hl ⊢
  have hl : lv_has ls 2 [(0, .ref a0)] := hl
  have h : wp_X5_carriesFrame post Z a0 := h
  refine lv_aload_n X.1.1 X.1.2.1 dX5_carriesFrame_0 rfl (lv_at hl 0 rfl) ?_
  obtain ⟨k1, h⟩ := h
  refine gf_X5_13 X V k1 dX5_carriesFrame_1 ?_
  refine lv_aload_n X.1.1 X.1.2.1 dX5_carriesFrame_4 rfl (lv_at hl 0 rfl) ?_
  refine r_callS (n := 1) (As := [.ref a0]) X V (sd_X5_frameStart l D ka _ Z _ a0 h) wd_209 wd_210 wd_126 wd_211 rfl rfl (by decide +kernel) ⟨Nat.le_of_ble_eq_true rfl, Nat.le_of_ble_eq_true rfl⟩ rfl hl.1 rfl (Nat.le_of_ble_eq_true rfl) dX5_carriesFrame_5 ⟨show 0 ≤ 0 by omega, show 0 ≤ 0 by omega⟩ (fun r3 S2 H locs h m4 V => ?_)
  have k1 := m4.k k1 (by decide)
  refine lv_bipush (v := (14 : Int32)) X.1.1 X.1.2.1 dX5_carriesFrame_8 (by decide) ?_
  refine lv_iadd X.1.1 X.1.2.1 dX5_carriesFrame_10 ?_
  refine lv_icmp_ge (tgt := 16) X.1.1 X.1.2.1 dX5_carriesFrame_11 (by decide) (fun c5 => ?_) (fun c5 => ?_)
  · have h := h.1 c5
    refine lv_aload_n X.1.1 X.1.2.1 dX5_carriesFrame_16 rfl (lv_at hl 0 rfl) ?_
    refine lv_bipush (v := (9 : Int32)) X.1.1 X.1.2.1 dX5_carriesFrame_17 (by decide) ?_
    refine r_callV (k := 5) (n := 1) (As := [.int (9 : Int32)]) X V (sd_X3_at l D ka _ S2 _ a0 (9 : Int32) h) k1 (by decide) (by decide) rfl wd_11 wd_186 wd_8 wd_13 wd_14 rfl rfl (by decide +kernel) ⟨Nat.le_of_ble_eq_true rfl, Nat.le_of_ble_eq_true rfl⟩ rfl hl.1 rfl (Nat.le_of_ble_eq_true rfl) dX5_carriesFrame_19 ⟨show 0 ≤ 0 by omega, show 0 ≤ 0 by omega⟩ (fun r7 S6 H locs h m8 V => ?_)
    have k1 := m8.k k1 (by decide)
    refine lv_istore_n (lv' := [(1, .int r7), (0, .ref a0)]) X.1.1 X.1.2.1 dX5_carriesFrame_22 rfl hl (by decide) rfl (fun ls hl => ?_)
    refine lv_iload_n X.1.1 X.1.2.1 dX5_carriesFrame_23 rfl (lv_at hl 0 rfl) ?_
    refine lv_bipush (v := (17 : Int32)) X.1.1 X.1.2.1 dX5_carriesFrame_24 (by decide) ?_
    refine lv_icmp_ne (tgt := 34) X.1.1 X.1.2.1 dX5_carriesFrame_26 (by decide) (fun c9 => ?_) (fun c9 => ?_)
    · have h := h.1 c9
      refine lv_iload_n X.1.1 X.1.2.1 dX5_carriesFrame_34 rfl (lv_at hl 0 rfl) ?_
      refine lv_bipush (v := (47 : Int32)) X.1.1 X.1.2.1 dX5_carriesFrame_35 (by decide) ?_
      refine lv_icmp_ne (tgt := 51) X.1.1 X.1.2.1 dX5_carriesFrame_37 (by decide) (fun c10 => ?_) (fun c10 => ?_)
      · have h := h.1 c10
        refine lv_iconst (v := (0 : Int32)) X.1.1 X.1.2.1 dX5_carriesFrame_51 (by decide) ?_
        exact W.zret X.1.1 X.1.2.1 hr (by decide) (fun t ht _ => V.q (r := (0 : Int32)) h ht) V.2.1.2.2 dX5_carriesFrame_52 X.1.2.2.2.2
      · have h := h.2 c10
        refine lv_aload_n X.1.1 X.1.2.1 dX5_carriesFrame_40 rfl (lv_at hl 1 rfl) ?_
        refine r_callS (n := 1) (As := [.ref a0]) X V (sd_X5_isGoodGre l D ka _ S6 _ a0 h) wd_212 wd_213 wd_126 wd_214 rfl rfl (by decide +kernel) ⟨Nat.le_of_ble_eq_true rfl, Nat.le_of_ble_eq_true rfl⟩ rfl hl.1 rfl (Nat.le_of_ble_eq_true rfl) dX5_carriesFrame_41 ⟨show 0 ≤ 0 by omega, show 0 ≤ 0 by omega⟩ (fun r12 S11 H locs h m13 V => ?_)
        have k1 := m13.k k1 (by decide)
        refine lv_if_eq (tgt := 51) X.1.1 X.1.2.1 dX5_carriesFrame_44 (by decide) (fun c14 => ?_) (fun c14 => ?_)
        · have h := h.1 c14
          refine lv_iconst (v := (0 : Int32)) X.1.1 X.1.2.1 dX5_carriesFrame_51 (by decide) ?_
          exact W.zret X.1.1 X.1.2.1 hr (by decide) (fun t ht _ => V.q (r := (0 : Int32)) h ht) V.2.1.2.2 dX5_carriesFrame_52 X.1.2.2.2.2
        · have h := h.2 c14
          refine lv_iconst (v := (1 : Int32)) X.1.1 X.1.2.1 dX5_carriesFrame_47 (by decide) ?_
          refine lv_goto (tgt := 52) X.1.1 X.1.2.1 dX5_carriesFrame_48 (by decide) ?_
          exact W.zret X.1.1 X.1.2.1 hr (by decide) (fun t ht _ => V.q (r := (1 : Int32)) h ht) V.2.1.2.2 dX5_carriesFrame_52 X.1.2.2.2.2
    · have h := h.2 c9
      refine lv_aload_n X.1.1 X.1.2.1 dX5_carriesFrame_29 rfl (lv_at hl 1 rfl) ?_
      refine r_callS (n := 1) (As := [.ref a0]) X V (sd_X5_isGoodUdp l D ka _ S6 _ a0 h) wd_215 wd_216 wd_126 wd_217 rfl rfl (by decide +kernel) ⟨Nat.le_of_ble_eq_true rfl, Nat.le_of_ble_eq_true rfl⟩ rfl hl.1 rfl (Nat.le_of_ble_eq_true rfl) dX5_carriesFrame_30 ⟨show 0 ≤ 0 by omega, show 0 ≤ 0 by omega⟩ (fun r16 S15 H locs h m17 V => ?_)
      have k1 := m17.k k1 (by decide)
      obtain ⟨z18, h⟩ := h
      exact W.zret X.1.1 X.1.2.1 hr z18 (fun t ht _ => V.q (r := r16) h ht) V.2.1.2.2 dX5_carriesFrame_33 X.1.2.2.2.2
  · have h := h.2 c5
    refine lv_iconst (v := (0 : Int32)) X.1.1 X.1.2.1 dX5_carriesFrame_14 (by decide) ?_
    exact W.zret X.1.1 X.1.2.1 hr (by decide) (fun t ht _ => V.q (r := (0 : Int32)) h ht) V.2.1.2.2 dX5_carriesFrame_15 X.1.2.2.2.2
abbrev rm_X5_faultOf : Room := { frames := 4, cells := 0, slots := 0, locals := 87 }
def wp_X5_faultOf (post : Int32 → HS → Prop) (S : HS) (a0 : Nat) (v1 : Int32) : Prop := kd S a0 = 5 ∧ ((((fi S 15 a0) < (20 : Int32) → post (1 : Int32) S) ∧ (¬ (fi S 15 a0) < (20 : Int32) → wp_X3_at (fun r4 S3 => ((¬ r4 = (69 : Int32) → post (1 : Int32) S3) ∧ (r4 = (69 : Int32) → wp_X3_pair (fun r8 S7 => ((r8 = (fi S7 15 a0) → wp_X3_sum (fun r12 S11 => ((r12 = 0 → wp_X3_number (fun r16 S15 => (((lg_cmp r16 (((167772161 : Int32) + v1).toInt64)) = 0 → wp_X3_pair (fun r20 S19 => ((r20 = (16384 : Int32) → wp_X5_carriesFrame (fun r24 S23 => ((r24 = 0 → post (5 : Int32) S23) ∧ (¬ r24 = 0 → post (0 : Int32) S23))) S19 a0) ∧ (¬ r20 = (16384 : Int32) → ((r20 = 0 → wp_X5_carriesFrame (fun r29 S28 => ((r29 = 0 → post (5 : Int32) S28) ∧ (¬ r29 = 0 → post (0 : Int32) S28))) S19 a0) ∧ (¬ r20 = 0 → post (4 : Int32) S19))))) S15 a0 (6 : Int32)) ∧ (¬ (lg_cmp r16 (((167772161 : Int32) + v1).toInt64)) = 0 → post (3 : Int32) S15))) S11 a0 (16 : Int32) (4 : Int32)) ∧ (¬ r12 = 0 → post (2 : Int32) S11))) S7 a0 (0 : Int32) (20 : Int32)) ∧ (¬ r8 = (fi S7 15 a0) → post (1 : Int32) S7))) S3 a0 (2 : Int32)))) S a0 (0 : Int32))))
set_option maxHeartbeats 400000 in
set_option maxRecDepth 100000 in
theorem sd_X5_faultOf (l : Launch) (D : va_G) (ka : Nat → ClassId) (sz : Nat) (Z : HS) (post : Int32 → HS → Prop) (a0 : Nat) (v1 : Int32) (h : wp_X5_faultOf post Z a0 v1) : Met l yX5_faultOf [Cond.code yX5_faultOf cX5_faultOf 3 (some .int)] rm_X5_faultOf (Px D ka Z sz [.ref a0, .int v1]) (Qx eI post D ka Z sz) 0 0 (fA Z sz) := by
  refine Met.ofW (cc := cX5_faultOf) (maxL := 3) (ret := (some .int)) (by decide) rfl ?_
  intro p e s m args below meth c s₁ B hml hv
  obtain ⟨rfl, X, V, hsz⟩ := Cx.entry B hml hv
  have hr : meth.sig.returnType = (some .int) := B.returns
  have hl := lv_entry ([.ref a0, .int v1]) (n := 3) (Nat.le_of_ble_eq_true rfl)
  rw [lg_entry_eq]
  generalize (lg_sl ([.ref a0, .int v1]) ++ List.replicate (3 - (lg_sl ([.ref a0, .int v1])).length) Slot.unset).toArray = ls at hl ⊢
  have hl : lv_has ls 3 [(0, .ref a0), (1, .int v1)] := hl
  have h : wp_X5_faultOf post Z a0 v1 := h
  refine lv_aload_n X.1.1 X.1.2.1 dX5_faultOf_0 rfl (lv_at hl 0 rfl) ?_
  obtain ⟨k1, h⟩ := h
  refine gf_X5_13 X V k1 dX5_faultOf_1 ?_
  refine lv_bipush (v := (20 : Int32)) X.1.1 X.1.2.1 dX5_faultOf_4 (by decide) ?_
  refine lv_icmp_lt (tgt := 31) X.1.1 X.1.2.1 dX5_faultOf_6 (by decide) (fun c2 => ?_) (fun c2 => ?_)
  · have h := h.1 c2
    refine lv_iconst (v := (1 : Int32)) X.1.1 X.1.2.1 dX5_faultOf_31 (by decide) ?_
    exact W.iret X.1.1 X.1.2.1 hr (fun t ht _ => V.q (r := (1 : Int32)) h ht) V.2.1.2.2 dX5_faultOf_32 X.1.2.2.2.2
  · have h := h.2 c2
    refine lv_aload_n X.1.1 X.1.2.1 dX5_faultOf_9 rfl (lv_at hl 0 rfl) ?_
    refine lv_iconst (v := (0 : Int32)) X.1.1 X.1.2.1 dX5_faultOf_10 (by decide) ?_
    refine r_callV (k := 5) (n := 1) (As := [.int (0 : Int32)]) X V (sd_X3_at l D ka _ Z _ a0 (0 : Int32) h) k1 (by decide) (by decide) rfl wd_11 wd_186 wd_8 wd_13 wd_14 rfl rfl (by decide +kernel) ⟨Nat.le_of_ble_eq_true rfl, Nat.le_of_ble_eq_true rfl⟩ rfl hl.1 rfl (Nat.le_of_ble_eq_true rfl) dX5_faultOf_11 ⟨show 0 ≤ 0 by omega, show 0 ≤ 0 by omega⟩ (fun r4 S3 H locs h m5 V => ?_)
    have k1 := m5.k k1 (by decide)
    refine lv_bipush (v := (69 : Int32)) X.1.1 X.1.2.1 dX5_faultOf_14 (by decide) ?_
    refine lv_icmp_ne (tgt := 31) X.1.1 X.1.2.1 dX5_faultOf_16 (by decide) (fun c6 => ?_) (fun c6 => ?_)
    · have h := h.1 c6
      refine lv_iconst (v := (1 : Int32)) X.1.1 X.1.2.1 dX5_faultOf_31 (by decide) ?_
      exact W.iret X.1.1 X.1.2.1 hr (fun t ht _ => V.q (r := (1 : Int32)) h ht) V.2.1.2.2 dX5_faultOf_32 X.1.2.2.2.2
    · have h := h.2 c6
      refine lv_aload_n X.1.1 X.1.2.1 dX5_faultOf_19 rfl (lv_at hl 0 rfl) ?_
      refine lv_iconst (v := (2 : Int32)) X.1.1 X.1.2.1 dX5_faultOf_20 (by decide) ?_
      refine r_callV (k := 5) (n := 1) (As := [.int (2 : Int32)]) X V (sd_X3_pair l D ka _ S3 _ a0 (2 : Int32) h) k1 (by decide) (by decide) rfl wd_204 wd_205 wd_8 wd_206 wd_207 rfl rfl (by decide +kernel) ⟨Nat.le_of_ble_eq_true rfl, Nat.le_of_ble_eq_true rfl⟩ rfl hl.1 rfl (Nat.le_of_ble_eq_true rfl) dX5_faultOf_21 ⟨show 0 ≤ 0 by omega, show 0 ≤ 0 by omega⟩ (fun r8 S7 H locs h m9 V => ?_)
      have k1 := m9.k k1 (by decide)
      refine lv_aload_n X.1.1 X.1.2.1 dX5_faultOf_24 rfl (lv_at hl 0 rfl) ?_
      refine gf_X5_13 X V k1 dX5_faultOf_25 ?_
      refine lv_icmp_eq (tgt := 33) X.1.1 X.1.2.1 dX5_faultOf_28 (by decide) (fun c10 => ?_) (fun c10 => ?_)
      · have h := h.1 c10
        refine lv_aload_n X.1.1 X.1.2.1 dX5_faultOf_33 rfl (lv_at hl 0 rfl) ?_
        refine lv_iconst (v := (0 : Int32)) X.1.1 X.1.2.1 dX5_faultOf_34 (by decide) ?_
        refine lv_bipush (v := (20 : Int32)) X.1.1 X.1.2.1 dX5_faultOf_35 (by decide) ?_
        refine r_callV (k := 5) (n := 2) (As := [.int (0 : Int32), .int (20 : Int32)]) X V (sd_X3_sum l D ka _ S7 _ a0 (0 : Int32) (20 : Int32) h) k1 (by decide) (by decide) rfl wd_178 wd_179 wd_8 wd_180 wd_181 rfl rfl (by decide +kernel) ⟨Nat.le_of_ble_eq_true rfl, Nat.le_of_ble_eq_true rfl⟩ rfl hl.1 rfl (Nat.le_of_ble_eq_true rfl) dX5_faultOf_37 ⟨show 0 ≤ 0 by omega, show 0 ≤ 0 by omega⟩ (fun r12 S11 H locs h m13 V => ?_)
        have k1 := m13.k k1 (by decide)
        refine lv_if_eq (tgt := 45) X.1.1 X.1.2.1 dX5_faultOf_40 (by decide) (fun c14 => ?_) (fun c14 => ?_)
        · have h := h.1 c14
          refine lv_aload_n X.1.1 X.1.2.1 dX5_faultOf_45 rfl (lv_at hl 0 rfl) ?_
          refine lv_bipush (v := (16 : Int32)) X.1.1 X.1.2.1 dX5_faultOf_46 (by decide) ?_
          refine lv_iconst (v := (4 : Int32)) X.1.1 X.1.2.1 dX5_faultOf_48 (by decide) ?_
          refine r_callV (k := 5) (n := 2) (As := [.int (16 : Int32), .int (4 : Int32)]) X V (sd_X3_number l D ka _ S11 _ a0 (16 : Int32) (4 : Int32) h) k1 (by decide) (by decide) rfl wd_218 wd_219 wd_8 wd_220 wd_221 rfl rfl (by decide +kernel) ⟨Nat.le_of_ble_eq_true rfl, Nat.le_of_ble_eq_true rfl⟩ rfl hl.1 rfl (Nat.le_of_ble_eq_true rfl) dX5_faultOf_49 ⟨show 0 ≤ 0 by omega, show 0 ≤ 0 by omega⟩ (fun r16 S15 H locs h m17 V => ?_)
          have k1 := m17.k k1 (by decide)
          refine lv_ldc (v := (167772161 : Int32)) X.1.1 X.1.2.1 X.1.2.2.2.1 (X.w wd_177 rfl _) dX5_faultOf_52 ?_
          refine lv_iload_n X.1.1 X.1.2.1 dX5_faultOf_54 rfl (lv_at hl 1 rfl) ?_
          refine lv_iadd X.1.1 X.1.2.1 dX5_faultOf_55 ?_
          refine lv_i2l X.1.1 X.1.2.1 dX5_faultOf_56 rfl ?_
          refine W.lcmp X.1.1 X.1.2.1 dX5_faultOf_57 ?_
          refine lv_if_eq (tgt := 63) X.1.1 X.1.2.1 dX5_faultOf_58 (by decide) (fun c18 => ?_) (fun c18 => ?_)
          · have h := h.1 c18
            refine lv_aload_n X.1.1 X.1.2.1 dX5_faultOf_63 rfl (lv_at hl 0 rfl) ?_
            refine lv_bipush (v := (6 : Int32)) X.1.1 X.1.2.1 dX5_faultOf_64 (by decide) ?_
            refine r_callV (k := 5) (n := 1) (As := [.int (6 : Int32)]) X V (sd_X3_pair l D ka _ S15 _ a0 (6 : Int32) h) k1 (by decide) (by decide) rfl wd_204 wd_205 wd_8 wd_206 wd_207 rfl rfl (by decide +kernel) ⟨Nat.le_of_ble_eq_true rfl, Nat.le_of_ble_eq_true rfl⟩ rfl hl.1 rfl (Nat.le_of_ble_eq_true rfl) dX5_faultOf_66 ⟨show 0 ≤ 0 by omega, show 0 ≤ 0 by omega⟩ (fun r20 S19 H locs h m21 V => ?_)
            have k1 := m21.k k1 (by decide)
            refine lv_istore_n (lv' := [(2, .int r20), (0, .ref a0), (1, .int v1)]) X.1.1 X.1.2.1 dX5_faultOf_69 rfl hl (by decide) rfl (fun ls hl => ?_)
            refine lv_iload_n X.1.1 X.1.2.1 dX5_faultOf_70 rfl (lv_at hl 0 rfl) ?_
            refine lv_sipush (v := (16384 : Int32)) X.1.1 X.1.2.1 dX5_faultOf_71 (by decide) ?_
            refine lv_icmp_eq (tgt := 83) X.1.1 X.1.2.1 dX5_faultOf_74 (by decide) (fun c22 => ?_) (fun c22 => ?_)
            · have h := h.1 c22
              refine lv_aload_n X.1.1 X.1.2.1 dX5_faultOf_83 rfl (lv_at hl 1 rfl) ?_
              refine r_callS (n := 1) (As := [.ref a0]) X V (sd_X5_carriesFrame l D ka _ S19 _ a0 h) wd_222 wd_223 wd_126 wd_224 rfl rfl (by decide +kernel) ⟨Nat.le_of_ble_eq_true rfl, Nat.le_of_ble_eq_true rfl⟩ rfl hl.1 rfl (Nat.le_of_ble_eq_true rfl) dX5_faultOf_84 ⟨show 0 ≤ 0 by omega, show 0 ≤ 0 by omega⟩ (fun r24 S23 H locs h m25 V => ?_)
              have k1 := m25.k k1 (by decide)
              refine lv_if_eq (tgt := 94) X.1.1 X.1.2.1 dX5_faultOf_87 (by decide) (fun c26 => ?_) (fun c26 => ?_)
              · have h := h.1 c26
                refine lv_iconst (v := (5 : Int32)) X.1.1 X.1.2.1 dX5_faultOf_94 (by decide) ?_
                exact W.iret X.1.1 X.1.2.1 hr (fun t ht _ => V.q (r := (5 : Int32)) h ht) V.2.1.2.2 dX5_faultOf_95 X.1.2.2.2.2
              · have h := h.2 c26
                refine lv_iconst (v := (0 : Int32)) X.1.1 X.1.2.1 dX5_faultOf_90 (by decide) ?_
                refine lv_goto (tgt := 95) X.1.1 X.1.2.1 dX5_faultOf_91 (by decide) ?_
                exact W.iret X.1.1 X.1.2.1 hr (fun t ht _ => V.q (r := (0 : Int32)) h ht) V.2.1.2.2 dX5_faultOf_95 X.1.2.2.2.2
            · have h := h.2 c22
              refine lv_iload_n X.1.1 X.1.2.1 dX5_faultOf_77 rfl (lv_at hl 0 rfl) ?_
              refine lv_if_eq (tgt := 83) X.1.1 X.1.2.1 dX5_faultOf_78 (by decide) (fun c27 => ?_) (fun c27 => ?_)
              · have h := h.1 c27
                refine lv_aload_n X.1.1 X.1.2.1 dX5_faultOf_83 rfl (lv_at hl 1 rfl) ?_
                refine r_callS (n := 1) (As := [.ref a0]) X V (sd_X5_carriesFrame l D ka _ S19 _ a0 h) wd_222 wd_223 wd_126 wd_224 rfl rfl (by decide +kernel) ⟨Nat.le_of_ble_eq_true rfl, Nat.le_of_ble_eq_true rfl⟩ rfl hl.1 rfl (Nat.le_of_ble_eq_true rfl) dX5_faultOf_84 ⟨show 0 ≤ 0 by omega, show 0 ≤ 0 by omega⟩ (fun r29 S28 H locs h m30 V => ?_)
                have k1 := m30.k k1 (by decide)
                refine lv_if_eq (tgt := 94) X.1.1 X.1.2.1 dX5_faultOf_87 (by decide) (fun c31 => ?_) (fun c31 => ?_)
                · have h := h.1 c31
                  refine lv_iconst (v := (5 : Int32)) X.1.1 X.1.2.1 dX5_faultOf_94 (by decide) ?_
                  exact W.iret X.1.1 X.1.2.1 hr (fun t ht _ => V.q (r := (5 : Int32)) h ht) V.2.1.2.2 dX5_faultOf_95 X.1.2.2.2.2
                · have h := h.2 c31
                  refine lv_iconst (v := (0 : Int32)) X.1.1 X.1.2.1 dX5_faultOf_90 (by decide) ?_
                  refine lv_goto (tgt := 95) X.1.1 X.1.2.1 dX5_faultOf_91 (by decide) ?_
                  exact W.iret X.1.1 X.1.2.1 hr (fun t ht _ => V.q (r := (0 : Int32)) h ht) V.2.1.2.2 dX5_faultOf_95 X.1.2.2.2.2
              · have h := h.2 c27
                refine lv_iconst (v := (4 : Int32)) X.1.1 X.1.2.1 dX5_faultOf_81 (by decide) ?_
                exact W.iret X.1.1 X.1.2.1 hr (fun t ht _ => V.q (r := (4 : Int32)) h ht) V.2.1.2.2 dX5_faultOf_82 X.1.2.2.2.2
          · have h := h.2 c18
            refine lv_iconst (v := (3 : Int32)) X.1.1 X.1.2.1 dX5_faultOf_61 (by decide) ?_
            exact W.iret X.1.1 X.1.2.1 hr (fun t ht _ => V.q (r := (3 : Int32)) h ht) V.2.1.2.2 dX5_faultOf_62 X.1.2.2.2.2
        · have h := h.2 c14
          refine lv_iconst (v := (2 : Int32)) X.1.1 X.1.2.1 dX5_faultOf_43 (by decide) ?_
          exact W.iret X.1.1 X.1.2.1 hr (fun t ht _ => V.q (r := (2 : Int32)) h ht) V.2.1.2.2 dX5_faultOf_44 X.1.2.2.2.2
      · have h := h.2 c10
        refine lv_iconst (v := (1 : Int32)) X.1.1 X.1.2.1 dX5_faultOf_31 (by decide) ?_
        exact W.iret X.1.1 X.1.2.1 hr (fun t ht _ => V.q (r := (1 : Int32)) h ht) V.2.1.2.2 dX5_faultOf_32 X.1.2.2.2.2
abbrev rm_X5_netOf : Room := { frames := 3, cells := 0, slots := 0, locals := 62 }
def wp_X5_netOf (post : Int32 → HS → Prop) (S : HS) (a0 : Nat) : Prop := wp_X5_frameStart (fun r2 S1 => kd S1 a0 = 5 ∧ (wp_X3_number (fun r6 S5 => post (r6.toInt32) S5) S1 a0 (r2 - (4 : Int32)) (3 : Int32))) S a0
set_option maxHeartbeats 400000 in
set_option maxRecDepth 100000 in
theorem sd_X5_netOf (l : Launch) (D : va_G) (ka : Nat → ClassId) (sz : Nat) (Z : HS) (post : Int32 → HS → Prop) (a0 : Nat) (h : wp_X5_netOf post Z a0) : Met l yX5_netOf [Cond.code yX5_netOf cX5_netOf 1 (some .int)] rm_X5_netOf (Px D ka Z sz [.ref a0]) (Qx eI post D ka Z sz) 0 0 (fA Z sz) := by
  refine Met.ofW (cc := cX5_netOf) (maxL := 1) (ret := (some .int)) (by decide) rfl ?_
  intro p e s m args below meth c s₁ B hml hv
  obtain ⟨rfl, X, V, hsz⟩ := Cx.entry B hml hv
  have hr : meth.sig.returnType = (some .int) := B.returns
  have hl := lv_entry ([.ref a0]) (n := 1) (Nat.le_of_ble_eq_true rfl)
  rw [lg_entry_eq]
  generalize (lg_sl ([.ref a0]) ++ List.replicate (1 - (lg_sl ([.ref a0])).length) Slot.unset).toArray = ls at hl ⊢
  have hl : lv_has ls 1 [(0, .ref a0)] := hl
  have h : wp_X5_netOf post Z a0 := h
  refine lv_aload_n X.1.1 X.1.2.1 dX5_netOf_0 rfl (lv_at hl 0 rfl) ?_
  refine lv_aload_n X.1.1 X.1.2.1 dX5_netOf_1 rfl (lv_at hl 0 rfl) ?_
  refine r_callS (n := 1) (As := [.ref a0]) X V (sd_X5_frameStart l D ka _ Z _ a0 h) wd_209 wd_210 wd_126 wd_211 rfl rfl (by decide +kernel) ⟨Nat.le_of_ble_eq_true rfl, Nat.le_of_ble_eq_true rfl⟩ rfl hl.1 rfl (Nat.le_of_ble_eq_true rfl) dX5_netOf_2 ⟨show 0 ≤ 0 by omega, show 0 ≤ 0 by omega⟩ (fun r2 S1 H locs h m3 V => ?_)
  refine lv_iconst (v := (4 : Int32)) X.1.1 X.1.2.1 dX5_netOf_5 (by decide) ?_
  refine lv_isub X.1.1 X.1.2.1 dX5_netOf_6 ?_
  refine lv_iconst (v := (3 : Int32)) X.1.1 X.1.2.1 dX5_netOf_7 (by decide) ?_
  obtain ⟨k4, h⟩ := h
  refine r_callV (k := 5) (n := 2) (As := [.int (r2 - (4 : Int32)), .int (3 : Int32)]) X V (sd_X3_number l D ka _ S1 _ a0 (r2 - (4 : Int32)) (3 : Int32) h) k4 (by decide) (by decide) rfl wd_218 wd_219 wd_8 wd_220 wd_221 rfl rfl (by decide +kernel) ⟨Nat.le_of_ble_eq_true rfl, Nat.le_of_ble_eq_true rfl⟩ rfl hl.1 rfl (Nat.le_of_ble_eq_true rfl) dX5_netOf_8 ⟨show 0 ≤ 0 by omega, show 0 ≤ 0 by omega⟩ (fun r6 S5 H locs h m7 V => ?_)
  have k4 := m7.k k4 (by decide)
  refine lv_l2i X.1.1 X.1.2.1 dX5_netOf_11 rfl ?_
  exact W.iret X.1.1 X.1.2.1 hr (fun t ht _ => V.q (r := r6.toInt32) h ht) V.2.1.2.2 dX5_netOf_12 X.1.2.2.2.2
abbrev rm_X5_senderOf : Room := { frames := 2, cells := 0, slots := 0, locals := 46 }
def wp_X5_senderOf (post : Int32 → HS → Prop) (S : HS) (a0 : Nat) : Prop := kd S a0 = 5 ∧ (wp_X3_number (fun r3 S2 => post (r3.toInt32 - (167772161 : Int32)) S2) S a0 (12 : Int32) (4 : Int32))
set_option maxHeartbeats 400000 in
set_option maxRecDepth 100000 in
theorem sd_X5_senderOf (l : Launch) (D : va_G) (ka : Nat → ClassId) (sz : Nat) (Z : HS) (post : Int32 → HS → Prop) (a0 : Nat) (h : wp_X5_senderOf post Z a0) : Met l yX5_senderOf [Cond.code yX5_senderOf cX5_senderOf 1 (some .int)] rm_X5_senderOf (Px D ka Z sz [.ref a0]) (Qx eI post D ka Z sz) 0 0 (fA Z sz) := by
  refine Met.ofW (cc := cX5_senderOf) (maxL := 1) (ret := (some .int)) (by decide) rfl ?_
  intro p e s m args below meth c s₁ B hml hv
  obtain ⟨rfl, X, V, hsz⟩ := Cx.entry B hml hv
  have hr : meth.sig.returnType = (some .int) := B.returns
  have hl := lv_entry ([.ref a0]) (n := 1) (Nat.le_of_ble_eq_true rfl)
  rw [lg_entry_eq]
  generalize (lg_sl ([.ref a0]) ++ List.replicate (1 - (lg_sl ([.ref a0])).length) Slot.unset).toArray = ls at hl ⊢
  have hl : lv_has ls 1 [(0, .ref a0)] := hl
  have h : wp_X5_senderOf post Z a0 := h
  refine lv_aload_n X.1.1 X.1.2.1 dX5_senderOf_0 rfl (lv_at hl 0 rfl) ?_
  refine lv_bipush (v := (12 : Int32)) X.1.1 X.1.2.1 dX5_senderOf_1 (by decide) ?_
  refine lv_iconst (v := (4 : Int32)) X.1.1 X.1.2.1 dX5_senderOf_3 (by decide) ?_
  obtain ⟨k1, h⟩ := h
  refine r_callV (k := 5) (n := 2) (As := [.int (12 : Int32), .int (4 : Int32)]) X V (sd_X3_number l D ka _ Z _ a0 (12 : Int32) (4 : Int32) h) k1 (by decide) (by decide) rfl wd_218 wd_219 wd_8 wd_220 wd_221 rfl rfl (by decide +kernel) ⟨Nat.le_of_ble_eq_true rfl, Nat.le_of_ble_eq_true rfl⟩ rfl hl.1 rfl (Nat.le_of_ble_eq_true rfl) dX5_senderOf_4 ⟨show 0 ≤ 0 by omega, show 0 ≤ 0 by omega⟩ (fun r3 S2 H locs h m4 V => ?_)
  have k1 := m4.k k1 (by decide)
  refine lv_l2i X.1.1 X.1.2.1 dX5_senderOf_7 rfl ?_
  refine lv_ldc (v := (167772161 : Int32)) X.1.1 X.1.2.1 X.1.2.2.2.1 (X.w wd_177 rfl _) dX5_senderOf_8 ?_
  refine lv_isub X.1.1 X.1.2.1 dX5_senderOf_10 ?_
  exact W.iret X.1.1 X.1.2.1 hr (fun t ht _ => V.q (r := (r3.toInt32 - (167772161 : Int32))) h ht) V.2.1.2.2 dX5_senderOf_11 X.1.2.2.2.2
abbrev rm_X5_macTo : Room := { frames := 3, cells := 0, slots := 0, locals := 62 }
def wp_X5_macTo (post : Int64 → HS → Prop) (S : HS) (a0 : Nat) : Prop := wp_X5_frameStart (fun r2 S1 => kd S1 a0 = 5 ∧ (wp_X3_number (fun r6 S5 => post r6 S5) S1 a0 r2 (6 : Int32))) S a0
set_option maxHeartbeats 400000 in
set_option maxRecDepth 100000 in
theorem sd_X5_macTo (l : Launch) (D : va_G) (ka : Nat → ClassId) (sz : Nat) (Z : HS) (post : Int64 → HS → Prop) (a0 : Nat) (h : wp_X5_macTo post Z a0) : Met l yX5_macTo [Cond.code yX5_macTo cX5_macTo 1 (some .long)] rm_X5_macTo (Px D ka Z sz [.ref a0]) (Qx eL post D ka Z sz) 0 0 (fA Z sz) := by
  refine Met.ofW (cc := cX5_macTo) (maxL := 1) (ret := (some .long)) (by decide) rfl ?_
  intro p e s m args below meth c s₁ B hml hv
  obtain ⟨rfl, X, V, hsz⟩ := Cx.entry B hml hv
  have hr : meth.sig.returnType = (some .long) := B.returns
  have hl := lv_entry ([.ref a0]) (n := 1) (Nat.le_of_ble_eq_true rfl)
  rw [lg_entry_eq]
  generalize (lg_sl ([.ref a0]) ++ List.replicate (1 - (lg_sl ([.ref a0])).length) Slot.unset).toArray = ls at hl ⊢
  have hl : lv_has ls 1 [(0, .ref a0)] := hl
  have h : wp_X5_macTo post Z a0 := h
  refine lv_aload_n X.1.1 X.1.2.1 dX5_macTo_0 rfl (lv_at hl 0 rfl) ?_
  refine lv_aload_n X.1.1 X.1.2.1 dX5_macTo_1 rfl (lv_at hl 0 rfl) ?_
  refine r_callS (n := 1) (As := [.ref a0]) X V (sd_X5_frameStart l D ka _ Z _ a0 h) wd_209 wd_210 wd_126 wd_211 rfl rfl (by decide +kernel) ⟨Nat.le_of_ble_eq_true rfl, Nat.le_of_ble_eq_true rfl⟩ rfl hl.1 rfl (Nat.le_of_ble_eq_true rfl) dX5_macTo_2 ⟨show 0 ≤ 0 by omega, show 0 ≤ 0 by omega⟩ (fun r2 S1 H locs h m3 V => ?_)
  refine lv_bipush (v := (6 : Int32)) X.1.1 X.1.2.1 dX5_macTo_5 (by decide) ?_
  obtain ⟨k4, h⟩ := h
  refine r_callV (k := 5) (n := 2) (As := [.int r2, .int (6 : Int32)]) X V (sd_X3_number l D ka _ S1 _ a0 r2 (6 : Int32) h) k4 (by decide) (by decide) rfl wd_218 wd_219 wd_8 wd_220 wd_221 rfl rfl (by decide +kernel) ⟨Nat.le_of_ble_eq_true rfl, Nat.le_of_ble_eq_true rfl⟩ rfl hl.1 rfl (Nat.le_of_ble_eq_true rfl) dX5_macTo_7 ⟨show 0 ≤ 0 by omega, show 0 ≤ 0 by omega⟩ (fun r6 S5 H locs h m7 V => ?_)
  have k4 := m7.k k4 (by decide)
  exact W.lret X.1.1 X.1.2.1 hr (fun t ht _ => V.q (r := r6) h ht) V.2.1.2.2 dX5_macTo_10 X.1.2.2.2.2
abbrev rm_X5_macFrom : Room := { frames := 3, cells := 0, slots := 0, locals := 62 }
def wp_X5_macFrom (post : Int64 → HS → Prop) (S : HS) (a0 : Nat) : Prop := wp_X5_frameStart (fun r2 S1 => kd S1 a0 = 5 ∧ (wp_X3_number (fun r6 S5 => post r6 S5) S1 a0 (r2 + (6 : Int32)) (6 : Int32))) S a0
set_option maxHeartbeats 400000 in
set_option maxRecDepth 100000 in
theorem sd_X5_macFrom (l : Launch) (D : va_G) (ka : Nat → ClassId) (sz : Nat) (Z : HS) (post : Int64 → HS → Prop) (a0 : Nat) (h : wp_X5_macFrom post Z a0) : Met l yX5_macFrom [Cond.code yX5_macFrom cX5_macFrom 1 (some .long)] rm_X5_macFrom (Px D ka Z sz [.ref a0]) (Qx eL post D ka Z sz) 0 0 (fA Z sz) := by
  refine Met.ofW (cc := cX5_macFrom) (maxL := 1) (ret := (some .long)) (by decide) rfl ?_
  intro p e s m args below meth c s₁ B hml hv
  obtain ⟨rfl, X, V, hsz⟩ := Cx.entry B hml hv
  have hr : meth.sig.returnType = (some .long) := B.returns
  have hl := lv_entry ([.ref a0]) (n := 1) (Nat.le_of_ble_eq_true rfl)
  rw [lg_entry_eq]
  generalize (lg_sl ([.ref a0]) ++ List.replicate (1 - (lg_sl ([.ref a0])).length) Slot.unset).toArray = ls at hl ⊢
  have hl : lv_has ls 1 [(0, .ref a0)] := hl
  have h : wp_X5_macFrom post Z a0 := h
  refine lv_aload_n X.1.1 X.1.2.1 dX5_macFrom_0 rfl (lv_at hl 0 rfl) ?_
  refine lv_aload_n X.1.1 X.1.2.1 dX5_macFrom_1 rfl (lv_at hl 0 rfl) ?_
  refine r_callS (n := 1) (As := [.ref a0]) X V (sd_X5_frameStart l D ka _ Z _ a0 h) wd_209 wd_210 wd_126 wd_211 rfl rfl (by decide +kernel) ⟨Nat.le_of_ble_eq_true rfl, Nat.le_of_ble_eq_true rfl⟩ rfl hl.1 rfl (Nat.le_of_ble_eq_true rfl) dX5_macFrom_2 ⟨show 0 ≤ 0 by omega, show 0 ≤ 0 by omega⟩ (fun r2 S1 H locs h m3 V => ?_)
  refine lv_bipush (v := (6 : Int32)) X.1.1 X.1.2.1 dX5_macFrom_5 (by decide) ?_
  refine lv_iadd X.1.1 X.1.2.1 dX5_macFrom_7 ?_
  refine lv_bipush (v := (6 : Int32)) X.1.1 X.1.2.1 dX5_macFrom_8 (by decide) ?_
  obtain ⟨k4, h⟩ := h
  refine r_callV (k := 5) (n := 2) (As := [.int (r2 + (6 : Int32)), .int (6 : Int32)]) X V (sd_X3_number l D ka _ S1 _ a0 (r2 + (6 : Int32)) (6 : Int32) h) k4 (by decide) (by decide) rfl wd_218 wd_219 wd_8 wd_220 wd_221 rfl rfl (by decide +kernel) ⟨Nat.le_of_ble_eq_true rfl, Nat.le_of_ble_eq_true rfl⟩ rfl hl.1 rfl (Nat.le_of_ble_eq_true rfl) dX5_macFrom_10 ⟨show 0 ≤ 0 by omega, show 0 ≤ 0 by omega⟩ (fun r6 S5 H locs h m7 V => ?_)
  have k4 := m7.k k4 (by decide)
  exact W.lret X.1.1 X.1.2.1 hr (fun t ht _ => V.q (r := r6) h ht) V.2.1.2.2 dX5_macFrom_13 X.1.2.2.2.2
abbrev rm_X5_unwrap : Room := { frames := 3, cells := 2, slots := 122, locals := 62 }
def wp_X5_unwrap (post : (Option Nat) → HS → Prop) (S : HS) (a0 : Nat) : Prop := wp_X5_frameStart (fun r2 S1 => ∀ o4 : Nat, kd S1 o4 = 0 → (kd (snw S1 o4 5 0) a0 = 5 ∧ (wp_X3_init (fun _ S8 => wp_X3_appendRest (fun _ S11 => post (some o4) S11) S8 o4 a0 r2) (snw S1 o4 5 0) o4 ((fi (snw S1 o4 5 0) 15 a0) - r2)))) S a0
set_option maxHeartbeats 400000 in
set_option maxRecDepth 100000 in
theorem sd_X5_unwrap (l : Launch) (D : va_G) (ka : Nat → ClassId) (sz : Nat) (Z : HS) (post : (Option Nat) → HS → Prop) (a0 : Nat) (h : wp_X5_unwrap post Z a0) : Met l yX5_unwrap [Cond.code yX5_unwrap cX5_unwrap 3 (some (.object "OverlayFabric$Row"))] rm_X5_unwrap (Px D ka Z sz [.ref a0]) (Qx eR post D ka Z sz) 2 122 (fA Z sz) := by
  refine Met.ofW (cc := cX5_unwrap) (maxL := 3) (ret := (some (.object "OverlayFabric$Row"))) (by decide) rfl ?_
  intro p e s m args below meth c s₁ B hml hv
  obtain ⟨rfl, X, V, hsz⟩ := Cx.entry B hml hv
  have hr : meth.sig.returnType = (some (.object "OverlayFabric$Row")) := B.returns
  have hl := lv_entry ([.ref a0]) (n := 3) (Nat.le_of_ble_eq_true rfl)
  rw [lg_entry_eq]
  generalize (lg_sl ([.ref a0]) ++ List.replicate (3 - (lg_sl ([.ref a0])).length) Slot.unset).toArray = ls at hl ⊢
  have hl : lv_has ls 3 [(0, .ref a0)] := hl
  have h : wp_X5_unwrap post Z a0 := h
  refine lv_aload_n X.1.1 X.1.2.1 dX5_unwrap_0 rfl (lv_at hl 0 rfl) ?_
  refine r_callS (n := 1) (As := [.ref a0]) X V (sd_X5_frameStart l D ka _ Z _ a0 h) wd_209 wd_210 wd_126 wd_211 rfl rfl (by decide +kernel) ⟨Nat.le_of_ble_eq_true rfl, Nat.le_of_ble_eq_true rfl⟩ rfl hl.1 rfl (Nat.le_of_ble_eq_true rfl) dX5_unwrap_1 ⟨show 0 ≤ 2 by omega, show 0 ≤ 122 by omega⟩ (fun r2 S1 H locs h m3 V => ?_)
  refine lv_istore_n (lv' := [(1, .int r2), (0, .ref a0)]) X.1.1 X.1.2.1 dX5_unwrap_4 rfl hl (by decide) rfl (fun ls hl => ?_)
  refine nw_X5_11 X V (show 1 ≤ 2 by omega) (show 2 ≤ 122 by omega) dX5_unwrap_5 (fun o4 H z5 V => ?_)
  have h := h o4 z5
  refine W.widen (k := 1) (n := 2) (by omega) (by omega) ?_
  have k6 : kd (snw S1 o4 5 0) o4 = 5 := va_up_self _ _ _
  refine lv_dup X.1.1 X.1.2.1 dX5_unwrap_8 rfl ?_
  refine lv_aload_n X.1.1 X.1.2.1 dX5_unwrap_9 rfl (lv_at hl 1 rfl) ?_
  obtain ⟨k7, h⟩ := h
  refine gf_X5_13 X V k7 dX5_unwrap_10 ?_
  refine lv_iload_n X.1.1 X.1.2.1 dX5_unwrap_13 rfl (lv_at hl 0 rfl) ?_
  refine lv_isub X.1.1 X.1.2.1 dX5_unwrap_14 ?_
  refine r_callI (n := 1) (As := [.int ((fi (snw S1 o4 5 0) 15 a0) - r2)]) X V (sd_X3_init l D ka _ (snw S1 o4 5 0) _ o4 ((fi (snw S1 o4 5 0) 15 a0) - r2) h) wd_164 wd_165 wd_8 wd_166 rfl rfl rfl (by decide +kernel) ⟨Nat.le_of_ble_eq_true rfl, Nat.le_of_ble_eq_true rfl⟩ rfl hl.1 rfl (Nat.le_of_ble_eq_true rfl) dX5_unwrap_15 ⟨show 2 ≤ 2 by omega, show 122 ≤ 122 by omega⟩ (fun r9 S8 H locs h m10 V => ?_)
  have k6 := m10.k k6 (by decide)
  have k7 := m10.k k7 (by decide)
  refine W.widen (k := 2) (n := 122) (by omega) (by omega) ?_
  refine lv_astore_n (lv' := [(2, .ref o4), (1, .int r2), (0, .ref a0)]) X.1.1 X.1.2.1 dX5_unwrap_18 rfl hl (by decide) rfl (fun ls hl => ?_)
  refine lv_aload_n X.1.1 X.1.2.1 dX5_unwrap_19 rfl (lv_at hl 0 rfl) ?_
  refine lv_aload_n X.1.1 X.1.2.1 dX5_unwrap_20 rfl (lv_at hl 2 rfl) ?_
  refine lv_iload_n X.1.1 X.1.2.1 dX5_unwrap_21 rfl (lv_at hl 1 rfl) ?_
  refine r_callV (k := 5) (n := 2) (As := [.ref a0, .int r2]) X V (sd_X3_appendRest l D ka _ S8 _ o4 a0 r2 h) k6 (by decide) (by decide) rfl wd_171 wd_172 wd_8 wd_173 wd_174 rfl rfl (by decide +kernel) ⟨Nat.le_of_ble_eq_true rfl, Nat.le_of_ble_eq_true rfl⟩ rfl hl.1 rfl (Nat.le_of_ble_eq_true rfl) dX5_unwrap_22 ⟨show 2 ≤ 2 by omega, show 122 ≤ 122 by omega⟩ (fun r12 S11 H locs h m13 V => ?_)
  have k6 := m13.k k6 (by decide)
  have k7 := m13.k k7 (by decide)
  refine lv_aload_n X.1.1 X.1.2.1 dX5_unwrap_25 rfl (lv_at hl 0 rfl) ?_
  refine W.widen (k := 2) (n := 122) (by omega) (by omega) ?_
  exact W.aret X.1.1 X.1.2.1 hr (Or.inl ⟨_, rfl⟩) (Or.inr ⟨_, rfl⟩) (fun t ht _ => V.q (r := (some o4)) h ht) V.2.1.2.2 dX5_unwrap_26 X.1.2.2.2.2
