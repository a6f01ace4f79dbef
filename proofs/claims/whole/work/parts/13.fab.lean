abbrev rm_X6_init : Room := { frames := 5, cells := 36, slots := 299, locals := 93 }
def wp_X6_init_63 : Nat → (Unit → HS → Prop) → HS → Nat → Int32 → Prop
  | 0, _, _, _, _ => False
  | n + 1, post, S, b0, x1 => (((8 : Int32) ≤ x1 → post () S) ∧ (¬ (8 : Int32) ≤ x1 → kd S b0 = 7 ∧ (∃ o28 : Nat, fr S 21 b0 = some o28 ∧ (∀ o30 : Nat, kd S o30 = 0 → (wp_X0_init (fun _ S33 => kd S33 o28 / 32 = 4 ∧ (vp_in x1 (ln S33 o28) ∧ (wp_X6_init_63 n post (sar S33 o28 x1.toNatClampNeg (some o30)) b0 (x1 + (1 : Int32))))) (snw S o30 2 0) o30 x1)))))
set_option maxHeartbeats 400000 in
set_option maxRecDepth 100000 in
theorem sl_X6_init_63 (l : Launch) (D : va_G) (ka : Nat → ClassId) (sz : Nat) (Z : HS) (post : Unit → HS → Prop) {p : Program} {e : Env} {s : State} {m : MethodId} {args : Array Value} {below : List Frame} {meth : Method} {c : Code} (X : Cx p s m meth c cX6_init 2 RX6 D ka Z (fA Z sz)) (hr : meth.sig.returnType = none) (hin2 : meth.name = "<init>")  : ∀ (n : Nat) (S : HS) (b0 : Nat) (x1 : Int32), wp_X6_init_63 n post S b0 x1 → ∀ (cq sq : Nat), cq + n * 3 + 3 ≤ 36 → sq + n * 15 + 15 ≤ 299 → ∀ (H : Heap) (locs : List Loc) (ls : Array Slot), Hv D ka Z s (fA Z sz) S H locs → lv_has ls 2 [(0, .ref b0), (1, .int x1)] → W p l e rm_X6_init s m args below meth c H locs cq sq (MQ below (Qx eV post D ka Z sz) args s 36 299 (fA Z sz)) (F0 m 63 ls []) := by
  intro n
  induction n with
  | zero => intro S b0 x1 h; exact h.elim
  | succ n ih =>
    intro S b0 x1 h cq sq hcq hsq H locs ls V hl
    refine lv_iload_n X.1.1 X.1.2.1 dX6_init_63 rfl (lv_at hl 1 rfl) ?_
    refine lv_bipush (v := (8 : Int32)) X.1.1 X.1.2.1 dX6_init_64 (by decide) ?_
    refine lv_icmp_ge (tgt := 89) X.1.1 X.1.2.1 dX6_init_66 (by decide) (fun c26 => ?_) (fun c26 => ?_)
    · have h := h.1 c26
      refine W.widen (k := 36) (n := 299) (by omega) (by omega) ?_
      exact W.vret X.1.1 X.1.2.1 hr (fun t ht _ => V.q (r := ()) h ht) V.2.1.2.2 dX6_init_89 X.1.2.2.2.2
    · have h := h.2 c26
      refine lv_aload_n X.1.1 X.1.2.1 dX6_init_69 rfl (lv_at hl 0 rfl) ?_
      obtain ⟨k27, h⟩ := h
      obtain ⟨o28, e29, h⟩ := h
      refine gf_X6_11 X V k27 e29 dX6_init_70 ?_
      refine lv_iload_n X.1.1 X.1.2.1 dX6_init_73 rfl (lv_at hl 1 rfl) ?_
      refine nw_X6_9 X V (show cq + 1 ≤ 36 by omega) (show sq + 4 ≤ 299 by omega) dX6_init_74 (fun o30 H z31 V => ?_)
      have h := h o30 z31
      have k27 := (mono.snw (k := 2) (n := 0) z31).k k27 (by decide)
      refine W.widen (k := cq + 1) (n := sq + 4) (by omega) (by omega) ?_
      have k32 : kd (snw S o30 2 0) o30 = 2 := va_up_self _ _ _
      refine lv_dup X.1.1 X.1.2.1 dX6_init_77 rfl ?_
      refine lv_iload_n X.1.1 X.1.2.1 dX6_init_78 rfl (lv_at hl 1 rfl) ?_
      refine r_callI (n := 1) (As := [.int x1]) X V (sd_X0_init l D ka _ (snw S o30 2 0) _ o30 x1 h) wd_239 wd_240 wd_119 wd_241 rfl rfl rfl (by decide +kernel) ⟨Nat.le_of_ble_eq_true rfl, Nat.le_of_ble_eq_true rfl⟩ rfl hl.1 rfl (Nat.le_of_ble_eq_true rfl) dX6_init_79 ⟨show cq + 3 ≤ 36 by omega, show sq + 15 ≤ 299 by omega⟩ (fun r34 S33 H locs h m35 V => ?_)
      have k27 := m35.k k27 (by decide)
      have k32 := m35.k k32 (by decide)
      refine W.widen (k := cq + 3) (n := sq + 15) (by omega) (by omega) ?_
      obtain ⟨k36, h⟩ := h
      obtain ⟨i37, h⟩ := h
      refine r_aast X V (Or.inr (Or.inl ⟨k36, k32⟩)) i37 dX6_init_82 (fun H locs V => ?_)
      refine lv_iinc (v := (x1 + (1 : Int32))) (lv' := [(1, .int (x1 + (1 : Int32))), (0, .ref b0)]) X.1.1 X.1.2.1 dX6_init_83 hl (k := 1) rfl (congrArg (HAdd.hAdd _) (by decide)) (by decide) rfl (fun ls hl => ?_)
      refine lv_goto (tgt := 63) X.1.1 X.1.2.1 dX6_init_86 (by decide) ?_
      refine W.widen (k := cq + 3) (n := sq + 15) (by omega) (by omega) ?_
      exact ih (sar S33 o28 x1.toNatClampNeg (some o30)) b0 (x1 + (1 : Int32)) h _ _ (by omega) (by omega) _ _ _ V (lv_sub hl [1, 0] rfl)
def wp_X6_init (post : Unit → HS → Prop) (S : HS) (a0 : Nat) : Prop := ∀ o1 : Nat, kd S o1 = 0 → (kd (snw S o1 128 8) a0 = 7 ∧ (∀ o5 : Nat, kd (sfr (snw S o1 128 8) 21 a0 (some o1)) o5 = 0 → (wp_Jx4a65c_init_da8c8 (fun _ S8 => ∀ o11 : Nat, kd (sfr S8 22 a0 (some o5)) o11 = 0 → (wp_Jx4a65c_init_da8c8 (fun _ S14 => ∀ o17 : Nat, kd (sfr S14 23 a0 (some o11)) o17 = 0 → (wp_X3_init (fun _ S20 => ∀ o23 : Nat, kd (sfr S20 24 a0 (some o17)) o23 = 0 → (∃ n9, n9 ≤ 9 ∧ wp_X6_init_63 n9 post (sfi (sfr (snw (sfr S20 24 a0 (some o17)) o23 34 13) 25 a0 (some o23)) 26 a0 (4 : Int32)) a0 (0 : Int32))) (snw (sfr S14 23 a0 (some o11)) o17 5 0) o17 (120 : Int32))) (snw (sfr S8 22 a0 (some o5)) o11 1 0) o11)) (snw (sfr (snw S o1 128 8) 21 a0 (some o1)) o5 1 0) o5)))
set_option maxHeartbeats 400000 in
set_option maxRecDepth 100000 in
theorem sd_X6_init (l : Launch) (D : va_G) (ka : Nat → ClassId) (sz : Nat) (Z : HS) (post : Unit → HS → Prop) (a0 : Nat) (h : wp_X6_init post Z a0) : Met l yX6_init [Cond.code yX6_init cX6_init 2 none] rm_X6_init (Px D ka Z sz [.ref a0]) (Qx eV post D ka Z sz) 36 299 (fA Z sz) := by
  refine Met.ofW (cc := cX6_init) (maxL := 2) (ret := none) (by decide) rfl ?_
  intro p e s m args below meth c s₁ B hml hv
  obtain ⟨rfl, X, V, hsz⟩ := Cx.entry B hml hv
  have hr : meth.sig.returnType = none := B.returns
  have hin2 : meth.name = "<init>" := (name_of_methodNamed B.named B.method).1
  have hl := lv_entry ([.ref a0]) (n := 2) (Nat.le_of_ble_eq_true rfl)
  rw [lg_entry_eq]
  generalize (lg_sl ([.ref a0]) ++ List.replicate (2 - (lg_sl ([.ref a0])).length) Slot.unset).toArray = ls at hl ⊢
  have hl : lv_has ls 2 [(0, .ref a0)] := hl
  have h : wp_X6_init post Z a0 := h
  refine lv_aload_n X.1.1 X.1.2.1 dX6_init_0 rfl (lv_at hl 0 rfl) ?_
  refine W.objInit X.1.1 X.1.2.1 X.1.2.2.2.1 (X.w wd_225 rfl _) (X.w wd_1 rfl _) (X.w wd_2 rfl _) rfl (by rw [X.1.2.2.1]; exact hl.1) rfl dX6_init_1 (Nat.le_of_ble_eq_true rfl) (Nat.le_of_ble_eq_true rfl) ?_
  refine W.eq (g2 := F0 m 4 ls []) rfl ?_
  refine lv_aload_n X.1.1 X.1.2.1 dX6_init_4 rfl (lv_at hl 0 rfl) ?_
  refine lv_bipush (v := (8 : Int32)) X.1.1 X.1.2.1 dX6_init_5 (by decide) ?_
  refine r_newq (t := 3) (k := 128) (C := RX0) (N' := 8) X V wd_226 wd_227 rfl (by decide) (by decide) (fun q => na_128) (by decide) (by decide) (by decide) (show 1 ≤ 36 by omega) (show 8 ≤ 299 by omega) dX6_init_7 (fun o1 H z2 V => ?_)
  have h := h o1 z2
  refine W.widen (k := 1) (n := 8) (by omega) (by omega) ?_
  have k3 : kd (snw Z o1 128 8) o1 / 32 = 4 := by show va_up (kd _) _ _ _ / 32 = _; rw [va_up_self]
  obtain ⟨k4, h⟩ := h
  refine pf_X6_11 X V k4 hin2 dX6_init_10 (fun H locs V => ?_)
  refine lv_aload_n X.1.1 X.1.2.1 dX6_init_13 rfl (lv_at hl 0 rfl) ?_
  refine nw_X6_15 X V (show 2 ≤ 36 by omega) (show 11 ≤ 299 by omega) dX6_init_14 (fun o5 H z6 V => ?_)
  have h := h o5 z6
  have k3 := (mono.snw (k := 1) (n := 0) z6).t k3 (by decide)
  have k4 := (mono.snw (k := 1) (n := 0) z6).k k4 (by decide)
  refine W.widen (k := 2) (n := 11) (by omega) (by omega) ?_
  have k7 : kd (snw (sfr (snw Z o1 128 8) 21 a0 (some o1)) o5 1 0) o5 = 1 := va_up_self _ _ _
  refine lv_dup X.1.1 X.1.2.1 dX6_init_17 rfl ?_
  refine r_callI (n := 0) (As := []) X V (sd_Jx4a65c_init_da8c8 l D ka _ (snw (sfr (snw Z o1 128 8) 21 a0 (some o1)) o5 1 0) _ o5 h) wd_97 wd_230 wd_39 wd_99 rfl rfl rfl (by decide +kernel) ⟨Nat.le_of_ble_eq_true rfl, Nat.le_of_ble_eq_true rfl⟩ rfl hl.1 rfl (Nat.le_of_ble_eq_true rfl) dX6_init_18 ⟨show 2 ≤ 36 by omega, show 11 ≤ 299 by omega⟩ (fun r9 S8 H locs h m10 V => ?_)
  have k3 := m10.t k3 (by decide)
  have k4 := m10.k k4 (by decide)
  have k7 := m10.k k7 (by decide)
  refine pf_X6_18 X V k4 hin2 dX6_init_21 (fun H locs V => ?_)
  refine lv_aload_n X.1.1 X.1.2.1 dX6_init_24 rfl (lv_at hl 0 rfl) ?_
  refine nw_X6_15 X V (show 3 ≤ 36 by omega) (show 14 ≤ 299 by omega) dX6_init_25 (fun o11 H z12 V => ?_)
  have h := h o11 z12
  have k3 := (mono.snw (k := 1) (n := 0) z12).t k3 (by decide)
  have k4 := (mono.snw (k := 1) (n := 0) z12).k k4 (by decide)
  have k7 := (mono.snw (k := 1) (n := 0) z12).k k7 (by decide)
  refine W.widen (k := 3) (n := 14) (by omega) (by omega) ?_
  have k13 : kd (snw (sfr S8 22 a0 (some o5)) o11 1 0) o11 = 1 := va_up_self _ _ _
  refine lv_dup X.1.1 X.1.2.1 dX6_init_28 rfl ?_
  refine r_callI (n := 0) (As := []) X V (sd_Jx4a65c_init_da8c8 l D ka _ (snw (sfr S8 22 a0 (some o5)) o11 1 0) _ o11 h) wd_97 wd_230 wd_39 wd_99 rfl rfl rfl (by decide +kernel) ⟨Nat.le_of_ble_eq_true rfl, Nat.le_of_ble_eq_true rfl⟩ rfl hl.1 rfl (Nat.le_of_ble_eq_true rfl) dX6_init_29 ⟨show 3 ≤ 36 by omega, show 14 ≤ 299 by omega⟩ (fun r15 S14 H locs h m16 V => ?_)
  have k3 := m16.t k3 (by decide)
  have k4 := m16.k k4 (by decide)
  have k7 := m16.k k7 (by decide)
  have k13 := m16.k k13 (by decide)
  refine pf_X6_22 X V k4 hin2 dX6_init_32 (fun H locs V => ?_)
  refine lv_aload_n X.1.1 X.1.2.1 dX6_init_35 rfl (lv_at hl 0 rfl) ?_
  refine nw_X6_25 X V (show 4 ≤ 36 by omega) (show 16 ≤ 299 by omega) dX6_init_36 (fun o17 H z18 V => ?_)
  have h := h o17 z18
  have k3 := (mono.snw (k := 5) (n := 0) z18).t k3 (by decide)
  have k4 := (mono.snw (k := 5) (n := 0) z18).k k4 (by decide)
  have k7 := (mono.snw (k := 5) (n := 0) z18).k k7 (by decide)
  have k13 := (mono.snw (k := 5) (n := 0) z18).k k13 (by decide)
  refine W.widen (k := 4) (n := 16) (by omega) (by omega) ?_
  have k19 : kd (snw (sfr S14 23 a0 (some o11)) o17 5 0) o17 = 5 := va_up_self _ _ _
  refine lv_dup X.1.1 X.1.2.1 dX6_init_39 rfl ?_
  refine lv_bipush (v := (120 : Int32)) X.1.1 X.1.2.1 dX6_init_40 (by decide) ?_
  refine r_callI (n := 1) (As := [.int (120 : Int32)]) X V (sd_X3_init l D ka _ (snw (sfr S14 23 a0 (some o11)) o17 5 0) _ o17 (120 : Int32) h) wd_164 wd_234 wd_8 wd_166 rfl rfl rfl (by decide +kernel) ⟨Nat.le_of_ble_eq_true rfl, Nat.le_of_ble_eq_true rfl⟩ rfl hl.1 rfl (Nat.le_of_ble_eq_true rfl) dX6_init_42 ⟨show 5 ≤ 36 by omega, show 136 ≤ 299 by omega⟩ (fun r21 S20 H locs h m22 V => ?_)
  have k3 := m22.t k3 (by decide)
  have k4 := m22.k k4 (by decide)
  have k7 := m22.k k7 (by decide)
  have k13 := m22.k k13 (by decide)
  have k19 := m22.k k19 (by decide)
  refine W.widen (k := 5) (n := 136) (by omega) (by omega) ?_
  refine pf_X6_30 X V k4 hin2 dX6_init_45 (fun H locs V => ?_)
  refine lv_aload_n X.1.1 X.1.2.1 dX6_init_48 rfl (lv_at hl 0 rfl) ?_
  refine lv_bipush (v := (13 : Int32)) X.1.1 X.1.2.1 dX6_init_49 (by decide) ?_
  refine r_newa (t := 0) (k := 34) (ty := .int) (N' := 13) (a0 := (13, .inl (fun _ => 0))) X V wd_3 rfl rfl (fun _ => rfl) (by decide) (by decide) (fun q => na_34) (by decide) (by decide) (by decide) (show 6 ≤ 36 by omega) (show 149 ≤ 299 by omega) dX6_init_51 (fun o23 H z24 V => ?_)
  have h := h o23 z24
  have k3 := (mono.snw (k := 34) (n := 13) z24).t k3 (by decide)
  have k4 := (mono.snw (k := 34) (n := 13) z24).k k4 (by decide)
  have k7 := (mono.snw (k := 34) (n := 13) z24).k k7 (by decide)
  have k13 := (mono.snw (k := 34) (n := 13) z24).k k13 (by decide)
  have k19 := (mono.snw (k := 34) (n := 13) z24).k k19 (by decide)
  refine W.widen (k := 6) (n := 149) (by omega) (by omega) ?_
  have k25 : kd (snw (sfr S20 24 a0 (some o17)) o23 34 13) o23 / 32 = 1 := by show va_up (kd _) _ _ _ / 32 = _; rw [va_up_self]
  refine pf_X6_34 X V k4 hin2 dX6_init_53 (fun H locs V => ?_)
  refine lv_aload_n X.1.1 X.1.2.1 dX6_init_56 rfl (lv_at hl 0 rfl) ?_
  refine lv_iconst (v := (4 : Int32)) X.1.1 X.1.2.1 dX6_init_57 (by decide) ?_
  refine pf_X6_38 X V k4 dX6_init_58 (fun H locs V => ?_)
  refine lv_iconst (v := (0 : Int32)) X.1.1 X.1.2.1 dX6_init_61 (by decide) ?_
  refine lv_istore_n (lv' := [(1, .int (0 : Int32)), (0, .ref a0)]) X.1.1 X.1.2.1 dX6_init_62 rfl hl (by decide) rfl (fun ls hl => ?_)
  obtain ⟨n9, hn9, h⟩ := h
  exact sl_X6_init_63 l D ka sz Z post X hr hin2 n9 (sfi (sfr (snw (sfr S20 24 a0 (some o17)) o23 34 13) 25 a0 (some o23)) 26 a0 (4 : Int32)) a0 (0 : Int32) h _ _ (by have := hn9; omega) (by have := hn9; omega) _ _ _ V (lv_sub hl [1, 0] rfl)
abbrev rm_X6_begin : Room := { frames := 2, cells := 0, slots := 0, locals := 44 }
def wp_X6_begin_63 : Nat → (Int32 → HS → Prop) → HS → Nat → Int32 → Prop
  | 0, _, _, _, _ => False
  | n + 1, post, S, b0, x2 => (((13 : Int32) ≤ x2 → post (1 : Int32) S) ∧ (¬ (13 : Int32) ≤ x2 → kd S b0 = 7 ∧ (∃ o20 : Nat, fr S 25 b0 = some o20 ∧ (kd S o20 / 32 = 1 ∧ (vp_in x2 (ln S o20) ∧ (wp_X6_begin_63 n post (sai S o20 x2.toNatClampNeg (0 : Int32)) b0 (x2 + (1 : Int32))))))))
set_option maxHeartbeats 400000 in
set_option maxRecDepth 100000 in
theorem sl_X6_begin_63 (l : Launch) (D : va_G) (ka : Nat → ClassId) (sz : Nat) (Z : HS) (post : Int32 → HS → Prop) {p : Program} {e : Env} {s : State} {m : MethodId} {args : Array Value} {below : List Frame} {meth : Method} {c : Code} (X : Cx p s m meth c cX6_begin 4 RX6 D ka Z (fA Z sz)) (hr : meth.sig.returnType = (some .boolean))  : ∀ (n : Nat), ∀ (S : HS) (b0 : Nat) (x2 : Int32), wp_X6_begin_63 n post S b0 x2 → ∀ (H : Heap) (locs : List Loc) (ls : Array Slot), Hv D ka Z s (fA Z sz) S H locs → lv_has ls 4 [(0, .ref b0), (2, .int x2)] → W p l e rm_X6_begin s m args below meth c H locs 0 0 (MQ below (Qx eI post D ka Z sz) args s 0 0 (fA Z sz)) (F0 m 63 ls []) := by
  intro n
  induction n with
  | zero => intro S b0 x2 h; exact h.elim
  | succ n ih =>
    intro S b0 x2 h H locs ls V hl
    refine lv_iload_n X.1.1 X.1.2.1 dX6_begin_63 rfl (lv_at hl 1 rfl) ?_
    refine lv_bipush (v := (13 : Int32)) X.1.1 X.1.2.1 dX6_begin_64 (by decide) ?_
    refine lv_icmp_ge (tgt := 82) X.1.1 X.1.2.1 dX6_begin_66 (by decide) (fun c18 => ?_) (fun c18 => ?_)
    · have h := h.1 c18
      refine lv_iconst (v := (1 : Int32)) X.1.1 X.1.2.1 dX6_begin_82 (by decide) ?_
      exact W.zret X.1.1 X.1.2.1 hr (by decide) (fun t ht _ => V.q (r := (1 : Int32)) h ht) V.2.1.2.2 dX6_begin_83 X.1.2.2.2.2
    · have h := h.2 c18
      refine lv_aload_n X.1.1 X.1.2.1 dX6_begin_69 rfl (lv_at hl 0 rfl) ?_
      obtain ⟨k19, h⟩ := h
      obtain ⟨o20, e21, h⟩ := h
      refine gf_X6_34 X V k19 e21 dX6_begin_70 ?_
      refine lv_iload_n X.1.1 X.1.2.1 dX6_begin_73 rfl (lv_at hl 1 rfl) ?_
      refine lv_iconst (v := (0 : Int32)) X.1.1 X.1.2.1 dX6_begin_74 (by decide) ?_
      obtain ⟨k22, h⟩ := h
      obtain ⟨i23, h⟩ := h
      refine r_iast X V k22 i23 dX6_begin_75 (fun H locs V => ?_)
      refine lv_iinc (v := (x2 + (1 : Int32))) (lv' := [(2, .int (x2 + (1 : Int32))), (0, .ref b0)]) X.1.1 X.1.2.1 dX6_begin_76 hl (k := 1) rfl (congrArg (HAdd.hAdd _) (by decide)) (by decide) rfl (fun ls hl => ?_)
      refine lv_goto (tgt := 63) X.1.1 X.1.2.1 dX6_begin_79 (by decide) ?_
      exact ih (sai S o20 x2.toNatClampNeg (0 : Int32)) b0 (x2 + (1 : Int32)) h _ _ _ V (lv_sub hl [1, 0] rfl)
def wp_X6_begin_20 : Nat → (Int32 → HS → Prop) → HS → Nat → Int32 → Prop
  | 0, _, _, _, _ => False
  | n + 1, post, S, b0, x2 => (((8 : Int32) ≤ x2 → kd S b0 = 7 ∧ (∃ o6 : Nat, fr S 22 b0 = some o6 ∧ (kd S o6 = 1 ∧ (wp_Jx4a65c_clear_da8c8 (fun _ S9 => ∃ o12 : Nat, fr S9 23 b0 = some o12 ∧ (kd S9 o12 = 1 ∧ (wp_Jx4a65c_clear_da8c8 (fun _ S15 => ∃ n9, wp_X6_begin_63 n9 post S15 b0 (0 : Int32)) S9 o12))) S o6)))) ∧ (¬ (8 : Int32) ≤ x2 → kd S b0 = 7 ∧ (∃ o25 : Nat, fr S 21 b0 = some o25 ∧ (kd S o25 / 32 = 4 ∧ (vp_in x2 (ln S o25) ∧ (∃ o30 : Nat, ar S o25 x2.toNatClampNeg = some o30 ∧ (kd S o30 = 2 ∧ (wp_X0_reset (fun _ S33 => wp_X6_begin_20 n post S33 b0 (x2 + (1 : Int32))) S o30))))))))
set_option maxHeartbeats 400000 in
set_option maxRecDepth 100000 in
theorem sl_X6_begin_20 (l : Launch) (D : va_G) (ka : Nat → ClassId) (sz : Nat) (Z : HS) (post : Int32 → HS → Prop) {p : Program} {e : Env} {s : State} {m : MethodId} {args : Array Value} {below : List Frame} {meth : Method} {c : Code} (X : Cx p s m meth c cX6_begin 4 RX6 D ka Z (fA Z sz)) (hr : meth.sig.returnType = (some .boolean))  : ∀ (n : Nat), ∀ (S : HS) (b0 : Nat) (x2 : Int32), wp_X6_begin_20 n post S b0 x2 → ∀ (H : Heap) (locs : List Loc) (ls : Array Slot), Hv D ka Z s (fA Z sz) S H locs → lv_has ls 4 [(0, .ref b0), (2, .int x2)] → W p l e rm_X6_begin s m args below meth c H locs 0 0 (MQ below (Qx eI post D ka Z sz) args s 0 0 (fA Z sz)) (F0 m 20 ls []) := by
  intro n
  induction n with
  | zero => intro S b0 x2 h; exact h.elim
  | succ n ih =>
    intro S b0 x2 h H locs ls V hl
    refine lv_iload_n X.1.1 X.1.2.1 dX6_begin_20 rfl (lv_at hl 1 rfl) ?_
    refine lv_bipush (v := (8 : Int32)) X.1.1 X.1.2.1 dX6_begin_21 (by decide) ?_
    refine lv_icmp_ge (tgt := 47) X.1.1 X.1.2.1 dX6_begin_23 (by decide) (fun c4 => ?_) (fun c4 => ?_)
    · have h := h.1 c4
      refine lv_aload_n X.1.1 X.1.2.1 dX6_begin_47 rfl (lv_at hl 0 rfl) ?_
      obtain ⟨k5, h⟩ := h
      obtain ⟨o6, e7, h⟩ := h
      refine gf_X6_18 X V k5 e7 dX6_begin_48 ?_
      obtain ⟨k8, h⟩ := h
      refine r_callV (k := 1) (n := 0) (As := []) X V (sd_Jx4a65c_clear_da8c8 l D ka _ S _ o6 h) k8 (by decide) (by decide) rfl wd_103 wd_242 wd_39 wd_105 wd_106 rfl rfl (by decide +kernel) ⟨Nat.le_of_ble_eq_true rfl, Nat.le_of_ble_eq_true rfl⟩ rfl hl.1 rfl (Nat.le_of_ble_eq_true rfl) dX6_begin_51 ⟨show 0 ≤ 0 by omega, show 0 ≤ 0 by omega⟩ (fun r10 S9 H locs h m11 V => ?_)
      have k5 := m11.k k5 (by decide)
      have k8 := m11.k k8 (by decide)
      refine lv_aload_n X.1.1 X.1.2.1 dX6_begin_54 rfl (lv_at hl 0 rfl) ?_
      obtain ⟨o12, e13, h⟩ := h
      refine gf_X6_22 X V k5 e13 dX6_begin_55 ?_
      obtain ⟨k14, h⟩ := h
      refine r_callV (k := 1) (n := 0) (As := []) X V (sd_Jx4a65c_clear_da8c8 l D ka _ S9 _ o12 h) k14 (by decide) (by decide) rfl wd_103 wd_242 wd_39 wd_105 wd_106 rfl rfl (by decide +kernel) ⟨Nat.le_of_ble_eq_true rfl, Nat.le_of_ble_eq_true rfl⟩ rfl hl.1 rfl (Nat.le_of_ble_eq_true rfl) dX6_begin_58 ⟨show 0 ≤ 0 by omega, show 0 ≤ 0 by omega⟩ (fun r16 S15 H locs h m17 V => ?_)
      have k5 := m17.k k5 (by decide)
      have k8 := m17.k k8 (by decide)
      have k14 := m17.k k14 (by decide)
      refine lv_iconst (v := (0 : Int32)) X.1.1 X.1.2.1 dX6_begin_61 (by decide) ?_
      refine lv_istore_n (lv' := [(2, .int (0 : Int32)), (0, .ref b0)]) X.1.1 X.1.2.1 dX6_begin_62 rfl hl (by decide) rfl (fun ls hl => ?_)
      obtain ⟨n9, h⟩ := h
      exact sl_X6_begin_63 l D ka sz Z post X hr n9 S15 b0 (0 : Int32) h _ _ _ V (lv_sub hl [1, 0] rfl)
    · have h := h.2 c4
      refine lv_aload_n X.1.1 X.1.2.1 dX6_begin_26 rfl (lv_at hl 0 rfl) ?_
      obtain ⟨k24, h⟩ := h
      obtain ⟨o25, e26, h⟩ := h
      refine gf_X6_11 X V k24 e26 dX6_begin_27 ?_
      refine lv_iload_n X.1.1 X.1.2.1 dX6_begin_30 rfl (lv_at hl 1 rfl) ?_
      obtain ⟨k29, h⟩ := h
      obtain ⟨i27, h⟩ := h
      refine r_aald X V (Or.inl k29) i27 dX6_begin_31 ?_
      obtain ⟨o30, e31, h⟩ := h
      rw [e31]
      refine lv_astore_n (lv' := [(3, .ref o30), (0, .ref b0), (2, .int x2)]) X.1.1 X.1.2.1 dX6_begin_32 rfl hl (by decide) rfl (fun ls hl => ?_)
      refine lv_aload_n X.1.1 X.1.2.1 dX6_begin_33 rfl (lv_at hl 0 rfl) ?_
      refine lv_ifnull X.1.1 X.1.2.1 dX6_begin_34 ?_
      refine lv_aload_n X.1.1 X.1.2.1 dX6_begin_37 rfl (lv_at hl 0 rfl) ?_
      obtain ⟨k32, h⟩ := h
      refine r_callV (k := 2) (n := 0) (As := []) X V (sd_X0_reset l D ka _ S _ o30 h) k32 (by decide) (by decide) rfl wd_243 wd_244 wd_119 wd_245 wd_246 rfl rfl (by decide +kernel) ⟨Nat.le_of_ble_eq_true rfl, Nat.le_of_ble_eq_true rfl⟩ rfl hl.1 rfl (Nat.le_of_ble_eq_true rfl) dX6_begin_38 ⟨show 0 ≤ 0 by omega, show 0 ≤ 0 by omega⟩ (fun r34 S33 H locs h m35 V => ?_)
      have k24 := m35.k k24 (by decide)
      have k29 := m35.t k29 (by decide)
      have k32 := m35.k k32 (by decide)
      refine lv_iinc (v := (x2 + (1 : Int32))) (lv' := [(2, .int (x2 + (1 : Int32))), (3, .ref o30), (0, .ref b0)]) X.1.1 X.1.2.1 dX6_begin_41 hl (k := 2) rfl (congrArg (HAdd.hAdd _) (by decide)) (by decide) rfl (fun ls hl => ?_)
      refine lv_goto (tgt := 20) X.1.1 X.1.2.1 dX6_begin_44 (by decide) ?_
      exact ih S33 b0 (x2 + (1 : Int32)) h _ _ _ V (lv_sub hl [2, 0] rfl)
def wp_X6_begin (post : Int32 → HS → Prop) (S : HS) (a0 : Nat) (v1 : Int32) : Prop := ((v1 < (2 : Int32) → post (0 : Int32) S) ∧ (¬ v1 < (2 : Int32) → ((v1 ≤ (8 : Int32) → kd S a0 = 7 ∧ (∃ n9, wp_X6_begin_20 n9 post (sfi S 26 a0 v1) a0 (0 : Int32))) ∧ (¬ v1 ≤ (8 : Int32) → post (0 : Int32) S))))
set_option maxHeartbeats 400000 in
set_option maxRecDepth 100000 in
theorem sd_X6_begin (l : Launch) (D : va_G) (ka : Nat → ClassId) (sz : Nat) (Z : HS) (post : Int32 → HS → Prop) (a0 : Nat) (v1 : Int32) (h : wp_X6_begin post Z a0 v1) : Met l yX6_begin [Cond.code yX6_begin cX6_begin 4 (some .boolean)] rm_X6_begin (Px D ka Z sz [.ref a0, .int v1]) (Qx eI post D ka Z sz) 0 0 (fA Z sz) := by
  refine Met.ofW (cc := cX6_begin) (maxL := 4) (ret := (some .boolean)) (by decide) rfl ?_
  intro p e s m args below meth c s₁ B hml hv
  obtain ⟨rfl, X, V, hsz⟩ := Cx.entry B hml hv
  have hr : meth.sig.returnType = (some .boolean) := B.returns
  have hl := lv_entry ([.ref a0, .int v1]) (n := 4) (Nat.le_of_ble_eq_true rfl)
  rw [lg_entry_eq]
  generalize (lg_sl ([.ref a0, .int v1]) ++ List.replicate (4 - (lg_sl ([.ref a0, .int v1])).length) Slot.unset).toArray = ls at hl ⊢
  have hl : lv_has ls 4 [(0, .ref a0), (1, .int v1)] := hl
  have h : wp_X6_begin post Z a0 v1 := h
  refine lv_iload_n X.1.1 X.1.2.1 dX6_begin_0 rfl (lv_at hl 1 rfl) ?_
  refine lv_iconst (v := (2 : Int32)) X.1.1 X.1.2.1 dX6_begin_1 (by decide) ?_
  refine lv_icmp_lt (tgt := 11) X.1.1 X.1.2.1 dX6_begin_2 (by decide) (fun c1 => ?_) (fun c1 => ?_)
  · have h := h.1 c1
    refine lv_iconst (v := (0 : Int32)) X.1.1 X.1.2.1 dX6_begin_11 (by decide) ?_
    exact W.zret X.1.1 X.1.2.1 hr (by decide) (fun t ht _ => V.q (r := (0 : Int32)) h ht) V.2.1.2.2 dX6_begin_12 X.1.2.2.2.2
  · have h := h.2 c1
    refine lv_iload_n X.1.1 X.1.2.1 dX6_begin_5 rfl (lv_at hl 1 rfl) ?_
    refine lv_bipush (v := (8 : Int32)) X.1.1 X.1.2.1 dX6_begin_6 (by decide) ?_
    refine lv_icmp_le (tgt := 13) X.1.1 X.1.2.1 dX6_begin_8 (by decide) (fun c2 => ?_) (fun c2 => ?_)
    · have h := h.1 c2
      refine lv_aload_n X.1.1 X.1.2.1 dX6_begin_13 rfl (lv_at hl 0 rfl) ?_
      refine lv_iload_n X.1.1 X.1.2.1 dX6_begin_14 rfl (lv_at hl 1 rfl) ?_
      obtain ⟨k3, h⟩ := h
      refine pf_X6_38 X V k3 dX6_begin_15 (fun H locs V => ?_)
      refine lv_iconst (v := (0 : Int32)) X.1.1 X.1.2.1 dX6_begin_18 (by decide) ?_
      refine lv_istore_n (lv' := [(2, .int (0 : Int32)), (0, .ref a0), (1, .int v1)]) X.1.1 X.1.2.1 dX6_begin_19 rfl hl (by decide) rfl (fun ls hl => ?_)
      obtain ⟨n9, h⟩ := h
      exact sl_X6_begin_20 l D ka sz Z post X hr n9 (sfi Z 26 a0 v1) a0 (0 : Int32) h _ _ _ V (lv_sub hl [1, 0] rfl)
    · have h := h.2 c2
      refine lv_iconst (v := (0 : Int32)) X.1.1 X.1.2.1 dX6_begin_11 (by decide) ?_
      exact W.zret X.1.1 X.1.2.1 hr (by decide) (fun t ht _ => V.q (r := (0 : Int32)) h ht) V.2.1.2.2 dX6_begin_12 X.1.2.2.2.2
abbrev rm_X6_endpointAt : Room := { frames := 0, cells := 0, slots := 0, locals := 0 }
def wp_X6_endpointAt (post : (Option Nat) → HS → Prop) (S : HS) (a0 : Nat) (v1 : Int32) : Prop := ((v1 < 0 → post none S) ∧ (¬ v1 < 0 → kd S a0 = 7 ∧ (((v1 < (fi S 26 a0) → ∃ o4 : Nat, fr S 21 a0 = some o4 ∧ (kd S o4 / 32 = 4 ∧ (vp_in v1 (ln S o4) ∧ (∃ o9 : Nat, ar S o4 v1.toNatClampNeg = some o9 ∧ (post (some o9) S))))) ∧ (¬ v1 < (fi S 26 a0) → post none S)))))
set_option maxHeartbeats 400000 in
set_option maxRecDepth 100000 in
theorem sd_X6_endpointAt (l : Launch) (D : va_G) (ka : Nat → ClassId) (sz : Nat) (Z : HS) (post : (Option Nat) → HS → Prop) (a0 : Nat) (v1 : Int32) (h : wp_X6_endpointAt post Z a0 v1) : Met l yX6_endpointAt [Cond.code yX6_endpointAt cX6_endpointAt 2 (some (.object "OverlayFabric$Endpoint"))] rm_X6_endpointAt (Px D ka Z sz [.ref a0, .int v1]) (Qx eR post D ka Z sz) 0 0 (fA Z sz) := by
  refine Met.ofW (cc := cX6_endpointAt) (maxL := 2) (ret := (some (.object "OverlayFabric$Endpoint"))) (by decide) rfl ?_
  intro p e s m args below meth c s₁ B hml hv
  obtain ⟨rfl, X, V, hsz⟩ := Cx.entry B hml hv
  have hr : meth.sig.returnType = (some (.object "OverlayFabric$Endpoint")) := B.returns
  have hl := lv_entry ([.ref a0, .int v1]) (n := 2) (Nat.le_of_ble_eq_true rfl)
  rw [lg_entry_eq]
  generalize (lg_sl ([.ref a0, .int v1]) ++ List.replicate (2 - (lg_sl ([.ref a0, .int v1])).length) Slot.unset).toArray = ls at hl ⊢
  have hl : lv_has ls 2 [(0, .ref a0), (1, .int v1)] := hl
  have h : wp_X6_endpointAt post Z a0 v1 := h
  refine lv_iload_n X.1.1 X.1.2.1 dX6_endpointAt_0 rfl (lv_at hl 1 rfl) ?_
  refine lv_if_lt (tgt := 12) X.1.1 X.1.2.1 dX6_endpointAt_1 (by decide) (fun c1 => ?_) (fun c1 => ?_)
  · have h := h.1 c1
    refine lv_null X.1.1 X.1.2.1 dX6_endpointAt_12 ?_
    refine lv_goto (tgt := 22) X.1.1 X.1.2.1 dX6_endpointAt_13 (by decide) ?_
    exact W.aret X.1.1 X.1.2.1 hr (Or.inl ⟨_, rfl⟩) (Or.inl rfl) (fun t ht _ => V.q (r := none) h ht) V.2.1.2.2 dX6_endpointAt_22 X.1.2.2.2.2
  · have h := h.2 c1
    refine lv_iload_n X.1.1 X.1.2.1 dX6_endpointAt_4 rfl (lv_at hl 1 rfl) ?_
    refine lv_aload_n X.1.1 X.1.2.1 dX6_endpointAt_5 rfl (lv_at hl 0 rfl) ?_
    obtain ⟨k2, h⟩ := h
    refine gf_X6_38 X V k2 dX6_endpointAt_6 ?_
    refine lv_icmp_lt (tgt := 16) X.1.1 X.1.2.1 dX6_endpointAt_9 (by decide) (fun c3 => ?_) (fun c3 => ?_)
    · have h := h.1 c3
      refine lv_aload_n X.1.1 X.1.2.1 dX6_endpointAt_16 rfl (lv_at hl 0 rfl) ?_
      obtain ⟨o4, e5, h⟩ := h
      refine gf_X6_11 X V k2 e5 dX6_endpointAt_17 ?_
      refine lv_iload_n X.1.1 X.1.2.1 dX6_endpointAt_20 rfl (lv_at hl 1 rfl) ?_
      obtain ⟨k8, h⟩ := h
      obtain ⟨i6, h⟩ := h
      refine r_aald X V (Or.inl k8) i6 dX6_endpointAt_21 ?_
      obtain ⟨o9, e10, h⟩ := h
      rw [e10]
      exact W.aret X.1.1 X.1.2.1 hr (Or.inl ⟨_, rfl⟩) (Or.inr ⟨_, rfl⟩) (fun t ht _ => V.q (r := (some o9)) h ht) V.2.1.2.2 dX6_endpointAt_22 X.1.2.2.2.2
    · have h := h.2 c3
      refine lv_null X.1.1 X.1.2.1 dX6_endpointAt_12 ?_
      refine lv_goto (tgt := 22) X.1.1 X.1.2.1 dX6_endpointAt_13 (by decide) ?_
      exact W.aret X.1.1 X.1.2.1 hr (Or.inl ⟨_, rfl⟩) (Or.inl rfl) (fun t ht _ => V.q (r := none) h ht) V.2.1.2.2 dX6_endpointAt_22 X.1.2.2.2.2
abbrev rm_X6_station : Room := { frames := 7, cells := 3, slots := 91, locals := 171 }
def wp_X6_station (post : Int32 → HS → Prop) (S : HS) (a0 : Nat) (v1 : Int32) (v2 : Int32) (v3 : Int32) : Prop := kd S a0 = 7 ∧ (wp_X6_endpointAt (fun r3 S2 => ((r3 = none → post (-1 : Int32) S2) ∧ (∀ o5 : Nat, r3 = some o5 → ((v2 < 0 → post (-1 : Int32) S2) ∧ (¬ v2 < 0 → (((16777215 : Int32) < v2 → post (-1 : Int32) S2) ∧ (¬ (16777215 : Int32) < v2 → ∃ o9 : Nat, fr S2 22 a0 = some o9 ∧ (kd S2 o9 = 1 ∧ (wp_Jx4a65c_size_8abf5 (fun r13 S12 => ((r13 < (32 : Int32) → ∃ o16 : Nat, fr S12 22 a0 = some o16 ∧ (∀ o18 : Nat, kd S12 o18 = 0 → (wp_X4_init (fun _ S21 => kd S21 o16 = 1 ∧ (wp_Jx4a65c_add_9ea2d (fun r26 S25 => ∃ o28 : Nat, fr S25 22 a0 = some o28 ∧ (kd S25 o28 = 1 ∧ (wp_Jx4a65c_size_8abf5 (fun r32 S31 => post (r32 - (1 : Int32)) S31) S25 o28))) S21 o16 o18)) (snw S12 o18 6 0) o18 v1 v2 v3))) ∧ (¬ r13 < (32 : Int32) → post (-1 : Int32) S12))) S2 o9))))))))) S a0 v1)
set_option maxHeartbeats 400000 in
set_option maxRecDepth 100000 in
theorem sd_X6_station (l : Launch) (D : va_G) (ka : Nat → ClassId) (sz : Nat) (Z : HS) (post : Int32 → HS → Prop) (a0 : Nat) (v1 : Int32) (v2 : Int32) (v3 : Int32) (h : wp_X6_station post Z a0 v1 v2 v3) : Met l yX6_station [Cond.code yX6_station cX6_station 4 (some .int)] rm_X6_station (Px D ka Z sz [.ref a0, .int v1, .int v2, .int v3]) (Qx eI post D ka Z sz) 3 91 (fA Z sz) := by
  refine Met.ofW (cc := cX6_station) (maxL := 4) (ret := (some .int)) (by decide) rfl ?_
  intro p e s m args below meth c s₁ B hml hv
  obtain ⟨rfl, X, V, hsz⟩ := Cx.entry B hml hv
  have hr : meth.sig.returnType = (some .int) := B.returns
  have hl := lv_entry ([.ref a0, .int v1, .int v2, .int v3]) (n := 4) (Nat.le_of_ble_eq_true rfl)
  rw [lg_entry_eq]
  generalize (lg_sl ([.ref a0, .int v1, .int v2, .int v3]) ++ List.replicate (4 - (lg_sl ([.ref a0, .int v1, .int v2, .int v3])).length) Slot.unset).toArray = ls at hl ⊢
  have hl : lv_has ls 4 [(0, .ref a0), (1, .int v1), (2, .int v2), (3, .int v3)] := hl
  have h : wp_X6_station post Z a0 v1 v2 v3 := h
  refine lv_aload_n X.1.1 X.1.2.1 dX6_station_0 rfl (lv_at hl 0 rfl) ?_
  refine lv_iload_n X.1.1 X.1.2.1 dX6_station_1 rfl (lv_at hl 1 rfl) ?_
  obtain ⟨k1, h⟩ := h
  refine r_callV (k := 7) (n := 1) (As := [.int v1]) X V (sd_X6_endpointAt l D ka _ Z _ a0 v1 h) k1 (by decide) (by decide) rfl wd_247 wd_248 wd_249 wd_250 wd_251 rfl rfl (by decide +kernel) ⟨Nat.le_of_ble_eq_true rfl, Nat.le_of_ble_eq_true rfl⟩ rfl hl.1 rfl (Nat.le_of_ble_eq_true rfl) dX6_station_2 ⟨show 0 ≤ 3 by omega, show 0 ≤ 91 by omega⟩ (fun r3 S2 H locs h m4 V => ?_)
  have k1 := m4.k k1 (by decide)
  cases r3 with
  | none =>
    have h := h.1 rfl
    refine lv_ifnullN (tgt := 30) X.1.1 X.1.2.1 dX6_station_5 (by decide) ?_
    refine lv_iconst (v := (-1 : Int32)) X.1.1 X.1.2.1 dX6_station_30 (by decide) ?_
    refine W.widen (k := 3) (n := 91) (by omega) (by omega) ?_
    exact W.iret X.1.1 X.1.2.1 hr (fun t ht _ => V.q (r := (-1 : Int32)) h ht) V.2.1.2.2 dX6_station_31 X.1.2.2.2.2
  | some o5 =>
    have h := h.2 o5 rfl
    refine lv_ifnull X.1.1 X.1.2.1 dX6_station_5 ?_
    refine lv_iload_n X.1.1 X.1.2.1 dX6_station_8 rfl (lv_at hl 2 rfl) ?_
    refine lv_if_lt (tgt := 30) X.1.1 X.1.2.1 dX6_station_9 (by decide) (fun c7 => ?_) (fun c7 => ?_)
    · have h := h.1 c7
      refine lv_iconst (v := (-1 : Int32)) X.1.1 X.1.2.1 dX6_station_30 (by decide) ?_
      refine W.widen (k := 3) (n := 91) (by omega) (by omega) ?_
      exact W.iret X.1.1 X.1.2.1 hr (fun t ht _ => V.q (r := (-1 : Int32)) h ht) V.2.1.2.2 dX6_station_31 X.1.2.2.2.2
    · have h := h.2 c7
      refine lv_iload_n X.1.1 X.1.2.1 dX6_station_12 rfl (lv_at hl 2 rfl) ?_
      refine lv_ldc (v := (16777215 : Int32)) X.1.1 X.1.2.1 X.1.2.2.2.1 (X.w wd_252 rfl _) dX6_station_13 ?_
      refine lv_icmp_gt (tgt := 30) X.1.1 X.1.2.1 dX6_station_15 (by decide) (fun c8 => ?_) (fun c8 => ?_)
      · have h := h.1 c8
        refine lv_iconst (v := (-1 : Int32)) X.1.1 X.1.2.1 dX6_station_30 (by decide) ?_
        refine W.widen (k := 3) (n := 91) (by omega) (by omega) ?_
        exact W.iret X.1.1 X.1.2.1 hr (fun t ht _ => V.q (r := (-1 : Int32)) h ht) V.2.1.2.2 dX6_station_31 X.1.2.2.2.2
      · have h := h.2 c8
        refine lv_aload_n X.1.1 X.1.2.1 dX6_station_18 rfl (lv_at hl 0 rfl) ?_
        obtain ⟨o9, e10, h⟩ := h
        refine gf_X6_18 X V k1 e10 dX6_station_19 ?_
        obtain ⟨k11, h⟩ := h
        refine r_callV (k := 1) (n := 0) (As := []) X V (sd_Jx4a65c_size_8abf5 l D ka _ S2 _ o9 h) k11 (by decide) (by decide) rfl wd_108 wd_253 wd_39 wd_110 wd_111 rfl rfl (by decide +kernel) ⟨Nat.le_of_ble_eq_true rfl, Nat.le_of_ble_eq_true rfl⟩ rfl hl.1 rfl (Nat.le_of_ble_eq_true rfl) dX6_station_22 ⟨show 0 ≤ 3 by omega, show 0 ≤ 91 by omega⟩ (fun r13 S12 H locs h m14 V => ?_)
        have k1 := m14.k k1 (by decide)
        have k11 := m14.k k11 (by decide)
        refine lv_bipush (v := (32 : Int32)) X.1.1 X.1.2.1 dX6_station_25 (by decide) ?_
        refine lv_icmp_lt (tgt := 32) X.1.1 X.1.2.1 dX6_station_27 (by decide) (fun c15 => ?_) (fun c15 => ?_)
        · have h := h.1 c15
          refine lv_aload_n X.1.1 X.1.2.1 dX6_station_32 rfl (lv_at hl 0 rfl) ?_
          obtain ⟨o16, e17, h⟩ := h
          refine gf_X6_18 X V k1 e17 dX6_station_33 ?_
          refine nw_X6_58 X V (show 1 ≤ 3 by omega) (show 5 ≤ 91 by omega) dX6_station_36 (fun o18 H z19 V => ?_)
          have h := h o18 z19
          have k1 := (mono.snw (k := 6) (n := 0) z19).k k1 (by decide)
          have k11 := (mono.snw (k := 6) (n := 0) z19).k k11 (by decide)
          refine W.widen (k := 1) (n := 5) (by omega) (by omega) ?_
          have k20 : kd (snw S12 o18 6 0) o18 = 6 := va_up_self _ _ _
          refine lv_dup X.1.1 X.1.2.1 dX6_station_39 rfl ?_
          refine lv_iload_n X.1.1 X.1.2.1 dX6_station_40 rfl (lv_at hl 1 rfl) ?_
          refine lv_iload_n X.1.1 X.1.2.1 dX6_station_41 rfl (lv_at hl 2 rfl) ?_
          refine lv_iload_n X.1.1 X.1.2.1 dX6_station_42 rfl (lv_at hl 3 rfl) ?_
          refine r_callI (n := 3) (As := [.int v1, .int v2, .int v3]) X V (sd_X4_init l D ka _ (snw S12 o18 6 0) _ o18 v1 v2 v3 h) wd_257 wd_258 wd_256 wd_259 rfl rfl rfl (by decide +kernel) ⟨Nat.le_of_ble_eq_true rfl, Nat.le_of_ble_eq_true rfl⟩ rfl hl.1 rfl (Nat.le_of_ble_eq_true rfl) dX6_station_43 ⟨show 2 ≤ 3 by omega, show 11 ≤ 91 by omega⟩ (fun r22 S21 H locs h m23 V => ?_)
          have k1 := m23.k k1 (by decide)
          have k11 := m23.k k11 (by decide)
          have k20 := m23.k k20 (by decide)
          refine W.widen (k := 2) (n := 11) (by omega) (by omega) ?_
          obtain ⟨k24, h⟩ := h
          refine r_callV (k := 1) (n := 1) (As := [.ref o18]) X V (sd_Jx4a65c_add_9ea2d l D ka _ S21 _ o16 o18 h) k24 (by decide) (by decide) rfl wd_260 wd_261 wd_39 wd_262 wd_263 rfl rfl (by decide +kernel) ⟨Nat.le_of_ble_eq_true rfl, Nat.le_of_ble_eq_true rfl⟩ rfl hl.1 rfl (Nat.le_of_ble_eq_true rfl) dX6_station_46 ⟨show 3 ≤ 3 by omega, show 91 ≤ 91 by omega⟩ (fun r26 S25 H locs h m27 V => ?_)
          have k1 := m27.k k1 (by decide)
          have k11 := m27.k k11 (by decide)
          have k20 := m27.k k20 (by decide)
          have k24 := m27.k k24 (by decide)
          refine W.widen (k := 3) (n := 91) (by omega) (by omega) ?_
          refine lv_pop X.1.1 X.1.2.1 dX6_station_49 rfl ?_
          refine lv_aload_n X.1.1 X.1.2.1 dX6_station_50 rfl (lv_at hl 0 rfl) ?_
          obtain ⟨o28, e29, h⟩ := h
          refine gf_X6_18 X V k1 e29 dX6_station_51 ?_
          obtain ⟨k30, h⟩ := h
          refine r_callV (k := 1) (n := 0) (As := []) X V (sd_Jx4a65c_size_8abf5 l D ka _ S25 _ o28 h) k30 (by decide) (by decide) rfl wd_108 wd_253 wd_39 wd_110 wd_111 rfl rfl (by decide +kernel) ⟨Nat.le_of_ble_eq_true rfl, Nat.le_of_ble_eq_true rfl⟩ rfl hl.1 rfl (Nat.le_of_ble_eq_true rfl) dX6_station_54 ⟨show 3 ≤ 3 by omega, show 91 ≤ 91 by omega⟩ (fun r32 S31 H locs h m33 V => ?_)
          have k1 := m33.k k1 (by decide)
          have k11 := m33.k k11 (by decide)
          have k20 := m33.k k20 (by decide)
          have k24 := m33.k k24 (by decide)
          have k30 := m33.k k30 (by decide)
          refine lv_iconst (v := (1 : Int32)) X.1.1 X.1.2.1 dX6_station_57 (by decide) ?_
          refine lv_isub X.1.1 X.1.2.1 dX6_station_58 ?_
          refine W.widen (k := 3) (n := 91) (by omega) (by omega) ?_
          exact W.iret X.1.1 X.1.2.1 hr (fun t ht _ => V.q (r := (r32 - (1 : Int32))) h ht) V.2.1.2.2 dX6_station_59 X.1.2.2.2.2
        · have h := h.2 c15
          refine lv_iconst (v := (-1 : Int32)) X.1.1 X.1.2.1 dX6_station_30 (by decide) ?_
          refine W.widen (k := 3) (n := 91) (by omega) (by omega) ?_
          exact W.iret X.1.1 X.1.2.1 hr (fun t ht _ => V.q (r := (-1 : Int32)) h ht) V.2.1.2.2 dX6_station_31 X.1.2.2.2.2
abbrev rm_X6_stationAt : Room := { frames := 3, cells := 0, slots := 0, locals := 64 }
def wp_X6_stationAt (post : (Option Nat) → HS → Prop) (S : HS) (a0 : Nat) (v1 : Int32) : Prop := ((v1 < 0 → post none S) ∧ (¬ v1 < 0 → kd S a0 = 7 ∧ (∃ o3 : Nat, fr S 22 a0 = some o3 ∧ (kd S o3 = 1 ∧ (wp_Jx4a65c_size_8abf5 (fun r7 S6 => ((v1 < r7 → ∃ o10 : Nat, fr S6 22 a0 = some o10 ∧ (kd S6 o10 = 1 ∧ (wp_Jx4a65c_get_915e3 (fun r14 S13 => ∃ o16 : Nat, r14 = some o16 ∧ (kd S13 o16 = 6 ∧ (post (some o16) S13))) S6 o10 v1))) ∧ (¬ v1 < r7 → post none S6))) S o3)))))
set_option maxHeartbeats 400000 in
set_option maxRecDepth 100000 in
theorem sd_X6_stationAt (l : Launch) (D : va_G) (ka : Nat → ClassId) (sz : Nat) (Z : HS) (post : (Option Nat) → HS → Prop) (a0 : Nat) (v1 : Int32) (h : wp_X6_stationAt post Z a0 v1) : Met l yX6_stationAt [Cond.code yX6_stationAt cX6_stationAt 2 (some (.object "OverlayFabric$Station"))] rm_X6_stationAt (Px D ka Z sz [.ref a0, .int v1]) (Qx eR post D ka Z sz) 0 0 (fA Z sz) := by
  refine Met.ofW (cc := cX6_stationAt) (maxL := 2) (ret := (some (.object "OverlayFabric$Station"))) (by decide) rfl ?_
  intro p e s m args below meth c s₁ B hml hv
  obtain ⟨rfl, X, V, hsz⟩ := Cx.entry B hml hv
  have hr : meth.sig.returnType = (some (.object "OverlayFabric$Station")) := B.returns
  have hl := lv_entry ([.ref a0, .int v1]) (n := 2) (Nat.le_of_ble_eq_true rfl)
  rw [lg_entry_eq]
  generalize (lg_sl ([.ref a0, .int v1]) ++ List.replicate (2 - (lg_sl ([.ref a0, .int v1])).length) Slot.unset).toArray = ls at hl ⊢
  have hl : lv_has ls 2 [(0, .ref a0), (1, .int v1)] := hl
  have h : wp_X6_stationAt post Z a0 v1 := h
  refine lv_iload_n X.1.1 X.1.2.1 dX6_stationAt_0 rfl (lv_at hl 1 rfl) ?_
  refine lv_if_lt (tgt := 15) X.1.1 X.1.2.1 dX6_stationAt_1 (by decide) (fun c1 => ?_) (fun c1 => ?_)
  · have h := h.1 c1
    refine lv_null X.1.1 X.1.2.1 dX6_stationAt_15 ?_
    refine lv_goto (tgt := 30) X.1.1 X.1.2.1 dX6_stationAt_16 (by decide) ?_
    exact W.aret X.1.1 X.1.2.1 hr (Or.inl ⟨_, rfl⟩) (Or.inl rfl) (fun t ht _ => V.q (r := none) h ht) V.2.1.2.2 dX6_stationAt_30 X.1.2.2.2.2
  · have h := h.2 c1
    refine lv_iload_n X.1.1 X.1.2.1 dX6_stationAt_4 rfl (lv_at hl 1 rfl) ?_
    refine lv_aload_n X.1.1 X.1.2.1 dX6_stationAt_5 rfl (lv_at hl 0 rfl) ?_
    obtain ⟨k2, h⟩ := h
    obtain ⟨o3, e4, h⟩ := h
    refine gf_X6_18 X V k2 e4 dX6_stationAt_6 ?_
    obtain ⟨k5, h⟩ := h
    refine r_callV (k := 1) (n := 0) (As := []) X V (sd_Jx4a65c_size_8abf5 l D ka _ Z _ o3 h) k5 (by decide) (by decide) rfl wd_108 wd_253 wd_39 wd_110 wd_111 rfl rfl (by decide +kernel) ⟨Nat.le_of_ble_eq_true rfl, Nat.le_of_ble_eq_true rfl⟩ rfl hl.1 rfl (Nat.le_of_ble_eq_true rfl) dX6_stationAt_9 ⟨show 0 ≤ 0 by omega, show 0 ≤ 0 by omega⟩ (fun r7 S6 H locs h m8 V => ?_)
    have k2 := m8.k k2 (by decide)
    have k5 := m8.k k5 (by decide)
    refine lv_icmp_lt (tgt := 19) X.1.1 X.1.2.1 dX6_stationAt_12 (by decide) (fun c9 => ?_) (fun c9 => ?_)
    · have h := h.1 c9
      refine lv_aload_n X.1.1 X.1.2.1 dX6_stationAt_19 rfl (lv_at hl 0 rfl) ?_
      obtain ⟨o10, e11, h⟩ := h
      refine gf_X6_18 X V k2 e11 dX6_stationAt_20 ?_
      refine lv_iload_n X.1.1 X.1.2.1 dX6_stationAt_23 rfl (lv_at hl 1 rfl) ?_
      obtain ⟨k12, h⟩ := h
      refine r_callV (k := 1) (n := 1) (As := [.int v1]) X V (sd_Jx4a65c_get_915e3 l D ka _ S6 _ o10 v1 h) k12 (by decide) (by decide) rfl wd_112 wd_264 wd_39 wd_114 wd_115 rfl rfl (by decide +kernel) ⟨Nat.le_of_ble_eq_true rfl, Nat.le_of_ble_eq_true rfl⟩ rfl hl.1 rfl (Nat.le_of_ble_eq_true rfl) dX6_stationAt_24 ⟨show 0 ≤ 0 by omega, show 0 ≤ 0 by omega⟩ (fun r14 S13 H locs h m15 V => ?_)
      have k2 := m15.k k2 (by decide)
      have k5 := m15.k k5 (by decide)
      have k12 := m15.k k12 (by decide)
      obtain ⟨o16, e17, h⟩ := h
      subst e17
      obtain ⟨k18, h⟩ := h
      refine r_cast X V k18 (by decide) (by decide) wd_254 dX6_stationAt_27 ?_
      exact W.aret X.1.1 X.1.2.1 hr (Or.inl ⟨_, rfl⟩) (Or.inr ⟨_, rfl⟩) (fun t ht _ => V.q (r := (some o16)) h ht) V.2.1.2.2 dX6_stationAt_30 X.1.2.2.2.2
    · have h := h.2 c9
      refine lv_null X.1.1 X.1.2.1 dX6_stationAt_15 ?_
      refine lv_goto (tgt := 30) X.1.1 X.1.2.1 dX6_stationAt_16 (by decide) ?_
      exact W.aret X.1.1 X.1.2.1 hr (Or.inl ⟨_, rfl⟩) (Or.inl rfl) (fun t ht _ => V.q (r := none) h ht) V.2.1.2.2 dX6_stationAt_30 X.1.2.2.2.2
abbrev rm_X6_move : Room := { frames := 4, cells := 0, slots := 0, locals := 85 }
def wp_X6_move (post : Int32 → HS → Prop) (S : HS) (a0 : Nat) (v1 : Int32) (v2 : Int32) : Prop := kd S a0 = 7 ∧ (wp_X6_stationAt (fun r3 S2 => ((r3 = none → post (0 : Int32) S2) ∧ (∀ o5 : Nat, r3 = some o5 → wp_X6_endpointAt (fun r8 S7 => ((r8 = none → post (0 : Int32) S7) ∧ (∀ o10 : Nat, r8 = some o10 → kd S7 o5 = 6 ∧ (post (1 : Int32) (sfi S7 19 o5 v2))))) S2 a0 v2))) S a0 v1)
set_option maxHeartbeats 400000 in
set_option maxRecDepth 100000 in
theorem sd_X6_move (l : Launch) (D : va_G) (ka : Nat → ClassId) (sz : Nat) (Z : HS) (post : Int32 → HS → Prop) (a0 : Nat) (v1 : Int32) (v2 : Int32) (h : wp_X6_move post Z a0 v1 v2) : Met l yX6_move [Cond.code yX6_move cX6_move 4 (some .boolean)] rm_X6_move (Px D ka Z sz [.ref a0, .int v1, .int v2]) (Qx eI post D ka Z sz) 0 0 (fA Z sz) := by
  refine Met.ofW (cc := cX6_move) (maxL := 4) (ret := (some .boolean)) (by decide) rfl ?_
  intro p e s m args below meth c s₁ B hml hv
  obtain ⟨rfl, X, V, hsz⟩ := Cx.entry B hml hv
  have hr : meth.sig.returnType = (some .boolean) := B.returns
  have hl := lv_entry ([.ref a0, .int v1, .int v2]) (n := 4) (Nat.le_of_ble_eq_true rfl)
  rw [lg_entry_eq]
  generalize (lg_sl ([.ref a0, .int v1, .int v2]) ++ List.replicate (4 - (lg_sl ([.ref a0, .int v1, .int v2])).length) Slot.unset).toArray = ls at hl ⊢
  have hl : lv_has ls 4 [(0, .ref a0), (1, .int v1), (2, .int v2)] := hl
  have h : wp_X6_move post Z a0 v1 v2 := h
  refine lv_aload_n X.1.1 X.1.2.1 dX6_move_0 rfl (lv_at hl 0 rfl) ?_
  refine lv_iload_n X.1.1 X.1.2.1 dX6_move_1 rfl (lv_at hl 1 rfl) ?_
  obtain ⟨k1, h⟩ := h
  refine r_callV (k := 7) (n := 1) (As := [.int v1]) X V (sd_X6_stationAt l D ka _ Z _ a0 v1 h) k1 (by decide) (by decide) rfl wd_265 wd_266 wd_249 wd_267 wd_268 rfl rfl (by decide +kernel) ⟨Nat.le_of_ble_eq_true rfl, Nat.le_of_ble_eq_true rfl⟩ rfl hl.1 rfl (Nat.le_of_ble_eq_true rfl) dX6_move_2 ⟨show 0 ≤ 0 by omega, show 0 ≤ 0 by omega⟩ (fun r3 S2 H locs h m4 V => ?_)
  have k1 := m4.k k1 (by decide)
  cases r3 with
  | none =>
    have h := h.1 rfl
    refine lv_astore_nN (lv' := [(3, .null), (0, .ref a0), (1, .int v1), (2, .int v2)]) X.1.1 X.1.2.1 dX6_move_5 rfl hl (by decide) rfl (fun ls hl => ?_)
    refine lv_aload_nN X.1.1 X.1.2.1 dX6_move_6 rfl (lv_at hl 0 rfl) ?_
    refine lv_ifnullN (tgt := 18) X.1.1 X.1.2.1 dX6_move_7 (by decide) ?_
    refine lv_iconst (v := (0 : Int32)) X.1.1 X.1.2.1 dX6_move_18 (by decide) ?_
    exact W.zret X.1.1 X.1.2.1 hr (by decide) (fun t ht _ => V.q (r := (0 : Int32)) h ht) V.2.1.2.2 dX6_move_19 X.1.2.2.2.2
  | some o5 =>
    have h := h.2 o5 rfl
    refine lv_astore_n (lv' := [(3, .ref o5), (0, .ref a0), (1, .int v1), (2, .int v2)]) X.1.1 X.1.2.1 dX6_move_5 rfl hl (by decide) rfl (fun ls hl => ?_)
    refine lv_aload_n X.1.1 X.1.2.1 dX6_move_6 rfl (lv_at hl 0 rfl) ?_
    refine lv_ifnull X.1.1 X.1.2.1 dX6_move_7 ?_
    refine lv_aload_n X.1.1 X.1.2.1 dX6_move_10 rfl (lv_at hl 1 rfl) ?_
    refine lv_iload_n X.1.1 X.1.2.1 dX6_move_11 rfl (lv_at hl 3 rfl) ?_
    refine r_callV (k := 7) (n := 1) (As := [.int v2]) X V (sd_X6_endpointAt l D ka _ S2 _ a0 v2 h) k1 (by decide) (by decide) rfl wd_247 wd_248 wd_249 wd_250 wd_251 rfl rfl (by decide +kernel) ⟨Nat.le_of_ble_eq_true rfl, Nat.le_of_ble_eq_true rfl⟩ rfl hl.1 rfl (Nat.le_of_ble_eq_true rfl) dX6_move_12 ⟨show 0 ≤ 0 by omega, show 0 ≤ 0 by omega⟩ (fun r8 S7 H locs h m9 V => ?_)
    have k1 := m9.k k1 (by decide)
    cases r8 with
    | none =>
      have h := h.1 rfl
      refine lv_ifnonnullN X.1.1 X.1.2.1 dX6_move_15 ?_
      refine lv_iconst (v := (0 : Int32)) X.1.1 X.1.2.1 dX6_move_18 (by decide) ?_
      exact W.zret X.1.1 X.1.2.1 hr (by decide) (fun t ht _ => V.q (r := (0 : Int32)) h ht) V.2.1.2.2 dX6_move_19 X.1.2.2.2.2
    | some o10 =>
      have h := h.2 o10 rfl
      refine lv_ifnonnull (tgt := 20) X.1.1 X.1.2.1 dX6_move_15 (by decide) ?_
      refine lv_aload_n X.1.1 X.1.2.1 dX6_move_20 rfl (lv_at hl 0 rfl) ?_
      refine lv_iload_n X.1.1 X.1.2.1 dX6_move_21 rfl (lv_at hl 3 rfl) ?_
      obtain ⟨k12, h⟩ := h
      refine pf_X6_71 X V k12 dX6_move_22 (fun H locs V => ?_)
      refine lv_iconst (v := (1 : Int32)) X.1.1 X.1.2.1 dX6_move_25 (by decide) ?_
      exact W.zret X.1.1 X.1.2.1 hr (by decide) (fun t ht _ => V.q (r := (1 : Int32)) h ht) V.2.1.2.2 dX6_move_26 X.1.2.2.2.2
abbrev rm_X6_way : Room := { frames := 1, cells := 0, slots := 0, locals := 22 }
def wp_X6_way (post : Int32 → HS → Prop) (S : HS) (a0 : Nat) (v1 : Int32) (v2 : Int32) (v3 : Int32) : Prop := kd S a0 = 7 ∧ (wp_X6_endpointAt (fun r3 S2 => ((r3 = none → post (0 : Int32) S2) ∧ (∀ o5 : Nat, r3 = some o5 → wp_X6_endpointAt (fun r8 S7 => ((r8 = none → post (0 : Int32) S7) ∧ (∀ o10 : Nat, r8 = some o10 → ((¬ v1 = v2 → ((v3 < 0 → post (0 : Int32) S7) ∧ (¬ v3 < 0 → ((v3 ≤ (2 : Int32) → kd S7 o5 = 2 ∧ (wp_X0_chooseWay (fun _ S16 => post (1 : Int32) S16) S7 o5 v2 v3)) ∧ (¬ v3 ≤ (2 : Int32) → post (0 : Int32) S7))))) ∧ (v1 = v2 → post (0 : Int32) S7))))) S2 a0 v2))) S a0 v1)
set_option maxHeartbeats 400000 in
set_option maxRecDepth 100000 in
theorem sd_X6_way (l : Launch) (D : va_G) (ka : Nat → ClassId) (sz : Nat) (Z : HS) (post : Int32 → HS → Prop) (a0 : Nat) (v1 : Int32) (v2 : Int32) (v3 : Int32) (h : wp_X6_way post Z a0 v1 v2 v3) : Met l yX6_way [Cond.code yX6_way cX6_way 5 (some .boolean)] rm_X6_way (Px D ka Z sz [.ref a0, .int v1, .int v2, .int v3]) (Qx eI post D ka Z sz) 0 0 (fA Z sz) := by
  refine Met.ofW (cc := cX6_way) (maxL := 5) (ret := (some .boolean)) (by decide) rfl ?_
  intro p e s m args below meth c s₁ B hml hv
  obtain ⟨rfl, X, V, hsz⟩ := Cx.entry B hml hv
  have hr : meth.sig.returnType = (some .boolean) := B.returns
  have hl := lv_entry ([.ref a0, .int v1, .int v2, .int v3]) (n := 5) (Nat.le_of_ble_eq_true rfl)
  rw [lg_entry_eq]
  generalize (lg_sl ([.ref a0, .int v1, .int v2, .int v3]) ++ List.replicate (5 - (lg_sl ([.ref a0, .int v1, .int v2, .int v3])).length) Slot.unset).toArray = ls at hl ⊢
  have hl : lv_has ls 5 [(0, .ref a0), (1, .int v1), (2, .int v2), (3, .int v3)] := hl
  have h : wp_X6_way post Z a0 v1 v2 v3 := h
  refine lv_aload_n X.1.1 X.1.2.1 dX6_way_0 rfl (lv_at hl 0 rfl) ?_
  refine lv_iload_n X.1.1 X.1.2.1 dX6_way_1 rfl (lv_at hl 1 rfl) ?_
  obtain ⟨k1, h⟩ := h
  refine r_callV (k := 7) (n := 1) (As := [.int v1]) X V (sd_X6_endpointAt l D ka _ Z _ a0 v1 h) k1 (by decide) (by decide) rfl wd_247 wd_248 wd_249 wd_250 wd_251 rfl rfl (by decide +kernel) ⟨Nat.le_of_ble_eq_true rfl, Nat.le_of_ble_eq_true rfl⟩ rfl hl.1 rfl (Nat.le_of_ble_eq_true rfl) dX6_way_2 ⟨show 0 ≤ 0 by omega, show 0 ≤ 0 by omega⟩ (fun r3 S2 H locs h m4 V => ?_)
  have k1 := m4.k k1 (by decide)
  cases r3 with
  | none =>
    have h := h.1 rfl
    refine lv_astoreN (lv' := [(4, .null), (0, .ref a0), (1, .int v1), (2, .int v2), (3, .int v3)]) X.1.1 X.1.2.1 dX6_way_5 hl (by decide) rfl (fun ls hl => ?_)
    refine lv_aloadN X.1.1 X.1.2.1 dX6_way_7 (lv_at hl 0 rfl) ?_
    refine lv_ifnullN (tgt := 25) X.1.1 X.1.2.1 dX6_way_9 (by decide) ?_
    refine lv_iconst (v := (0 : Int32)) X.1.1 X.1.2.1 dX6_way_25 (by decide) ?_
    exact W.zret X.1.1 X.1.2.1 hr (by decide) (fun t ht _ => V.q (r := (0 : Int32)) h ht) V.2.1.2.2 dX6_way_26 X.1.2.2.2.2
  | some o5 =>
    have h := h.2 o5 rfl
    refine lv_astore (lv' := [(4, .ref o5), (0, .ref a0), (1, .int v1), (2, .int v2), (3, .int v3)]) X.1.1 X.1.2.1 dX6_way_5 hl (by decide) rfl (fun ls hl => ?_)
    refine lv_aload X.1.1 X.1.2.1 dX6_way_7 (lv_at hl 0 rfl) ?_
    refine lv_ifnull X.1.1 X.1.2.1 dX6_way_9 ?_
    refine lv_aload_n X.1.1 X.1.2.1 dX6_way_12 rfl (lv_at hl 1 rfl) ?_
    refine lv_iload_n X.1.1 X.1.2.1 dX6_way_13 rfl (lv_at hl 3 rfl) ?_
    refine r_callV (k := 7) (n := 1) (As := [.int v2]) X V (sd_X6_endpointAt l D ka _ S2 _ a0 v2 h) k1 (by decide) (by decide) rfl wd_247 wd_248 wd_249 wd_250 wd_251 rfl rfl (by decide +kernel) ⟨Nat.le_of_ble_eq_true rfl, Nat.le_of_ble_eq_true rfl⟩ rfl hl.1 rfl (Nat.le_of_ble_eq_true rfl) dX6_way_14 ⟨show 0 ≤ 0 by omega, show 0 ≤ 0 by omega⟩ (fun r8 S7 H locs h m9 V => ?_)
    have k1 := m9.k k1 (by decide)
    cases r8 with
    | none =>
      have h := h.1 rfl
      refine lv_ifnullN (tgt := 25) X.1.1 X.1.2.1 dX6_way_17 (by decide) ?_
      refine lv_iconst (v := (0 : Int32)) X.1.1 X.1.2.1 dX6_way_25 (by decide) ?_
      exact W.zret X.1.1 X.1.2.1 hr (by decide) (fun t ht _ => V.q (r := (0 : Int32)) h ht) V.2.1.2.2 dX6_way_26 X.1.2.2.2.2
    | some o10 =>
      have h := h.2 o10 rfl
      refine lv_ifnull X.1.1 X.1.2.1 dX6_way_17 ?_
      refine lv_iload_n X.1.1 X.1.2.1 dX6_way_20 rfl (lv_at hl 2 rfl) ?_
      refine lv_iload_n X.1.1 X.1.2.1 dX6_way_21 rfl (lv_at hl 3 rfl) ?_
      refine lv_icmp_ne (tgt := 27) X.1.1 X.1.2.1 dX6_way_22 (by decide) (fun c12 => ?_) (fun c12 => ?_)
      · have h := h.1 c12
        refine lv_iload_n X.1.1 X.1.2.1 dX6_way_27 rfl (lv_at hl 4 rfl) ?_
        refine lv_if_lt (tgt := 36) X.1.1 X.1.2.1 dX6_way_28 (by decide) (fun c13 => ?_) (fun c13 => ?_)
        · have h := h.1 c13
          refine lv_iconst (v := (0 : Int32)) X.1.1 X.1.2.1 dX6_way_36 (by decide) ?_
          exact W.zret X.1.1 X.1.2.1 hr (by decide) (fun t ht _ => V.q (r := (0 : Int32)) h ht) V.2.1.2.2 dX6_way_37 X.1.2.2.2.2
        · have h := h.2 c13
          refine lv_iload_n X.1.1 X.1.2.1 dX6_way_31 rfl (lv_at hl 4 rfl) ?_
          refine lv_iconst (v := (2 : Int32)) X.1.1 X.1.2.1 dX6_way_32 (by decide) ?_
          refine lv_icmp_le (tgt := 38) X.1.1 X.1.2.1 dX6_way_33 (by decide) (fun c14 => ?_) (fun c14 => ?_)
          · have h := h.1 c14
            refine lv_aload X.1.1 X.1.2.1 dX6_way_38 (lv_at hl 0 rfl) ?_
            refine lv_iload_n X.1.1 X.1.2.1 dX6_way_40 rfl (lv_at hl 3 rfl) ?_
            refine lv_iload_n X.1.1 X.1.2.1 dX6_way_41 rfl (lv_at hl 4 rfl) ?_
            obtain ⟨k15, h⟩ := h
            refine r_callV (k := 2) (n := 2) (As := [.int v2, .int v3]) X V (sd_X0_chooseWay l D ka _ S7 _ o5 v2 v3 h) k15 (by decide) (by decide) rfl wd_270 wd_271 wd_119 wd_272 wd_273 rfl rfl (by decide +kernel) ⟨Nat.le_of_ble_eq_true rfl, Nat.le_of_ble_eq_true rfl⟩ rfl hl.1 rfl (Nat.le_of_ble_eq_true rfl) dX6_way_42 ⟨show 0 ≤ 0 by omega, show 0 ≤ 0 by omega⟩ (fun r17 S16 H locs h m18 V => ?_)
            have k1 := m18.k k1 (by decide)
            have k15 := m18.k k15 (by decide)
            refine lv_iconst (v := (1 : Int32)) X.1.1 X.1.2.1 dX6_way_45 (by decide) ?_
            exact W.zret X.1.1 X.1.2.1 hr (by decide) (fun t ht _ => V.q (r := (1 : Int32)) h ht) V.2.1.2.2 dX6_way_46 X.1.2.2.2.2
          · have h := h.2 c14
            refine lv_iconst (v := (0 : Int32)) X.1.1 X.1.2.1 dX6_way_36 (by decide) ?_
            exact W.zret X.1.1 X.1.2.1 hr (by decide) (fun t ht _ => V.q (r := (0 : Int32)) h ht) V.2.1.2.2 dX6_way_37 X.1.2.2.2.2
      · have h := h.2 c12
        refine lv_iconst (v := (0 : Int32)) X.1.1 X.1.2.1 dX6_way_25 (by decide) ?_
        exact W.zret X.1.1 X.1.2.1 hr (by decide) (fun t ht _ => V.q (r := (0 : Int32)) h ht) V.2.1.2.2 dX6_way_26 X.1.2.2.2.2
abbrev rm_X6_feed : Room := { frames := 1, cells := 0, slots := 0, locals := 21 }
def wp_X6_feed (post : Int32 → HS → Prop) (S : HS) (a0 : Nat) (v1 : Int32) : Prop := ((v1 < 0 → post (0 : Int32) S) ∧ (¬ v1 < 0 → (((255 : Int32) < v1 → post (0 : Int32) S) ∧ (¬ (255 : Int32) < v1 → kd S a0 = 7 ∧ (∃ o4 : Nat, fr S 24 a0 = some o4 ∧ (kd S o4 = 5 ∧ ((((fi S 15 o4) < (120 : Int32) → ∃ o8 : Nat, fr S 24 a0 = some o8 ∧ (kd S o8 = 5 ∧ (wp_X3_append (fun _ S11 => post (1 : Int32) S11) S o8 v1))) ∧ (¬ (fi S 15 o4) < (120 : Int32) → post (0 : Int32) S)))))))))
set_option maxHeartbeats 400000 in
set_option maxRecDepth 100000 in
theorem sd_X6_feed (l : Launch) (D : va_G) (ka : Nat → ClassId) (sz : Nat) (Z : HS) (post : Int32 → HS → Prop) (a0 : Nat) (v1 : Int32) (h : wp_X6_feed post Z a0 v1) : Met l yX6_feed [Cond.code yX6_feed cX6_feed 2 (some .boolean)] rm_X6_feed (Px D ka Z sz [.ref a0, .int v1]) (Qx eI post D ka Z sz) 0 0 (fA Z sz) := by
  refine Met.ofW (cc := cX6_feed) (maxL := 2) (ret := (some .boolean)) (by decide) rfl ?_
  intro p e s m args below meth c s₁ B hml hv
  obtain ⟨rfl, X, V, hsz⟩ := Cx.entry B hml hv
  have hr : meth.sig.returnType = (some .boolean) := B.returns
  have hl := lv_entry ([.ref a0, .int v1]) (n := 2) (Nat.le_of_ble_eq_true rfl)
  rw [lg_entry_eq]
  generalize (lg_sl ([.ref a0, .int v1]) ++ List.replicate (2 - (lg_sl ([.ref a0, .int v1])).length) Slot.unset).toArray = ls at hl ⊢
  have hl : lv_has ls 2 [(0, .ref a0), (1, .int v1)] := hl
  have h : wp_X6_feed post Z a0 v1 := h
  refine lv_iload_n X.1.1 X.1.2.1 dX6_feed_0 rfl (lv_at hl 1 rfl) ?_
  refine lv_if_lt (tgt := 23) X.1.1 X.1.2.1 dX6_feed_1 (by decide) (fun c1 => ?_) (fun c1 => ?_)
  · have h := h.1 c1
    refine lv_iconst (v := (0 : Int32)) X.1.1 X.1.2.1 dX6_feed_23 (by decide) ?_
    exact W.zret X.1.1 X.1.2.1 hr (by decide) (fun t ht _ => V.q (r := (0 : Int32)) h ht) V.2.1.2.2 dX6_feed_24 X.1.2.2.2.2
  · have h := h.2 c1
    refine lv_iload_n X.1.1 X.1.2.1 dX6_feed_4 rfl (lv_at hl 1 rfl) ?_
    refine lv_sipush (v := (255 : Int32)) X.1.1 X.1.2.1 dX6_feed_5 (by decide) ?_
    refine lv_icmp_gt (tgt := 23) X.1.1 X.1.2.1 dX6_feed_8 (by decide) (fun c2 => ?_) (fun c2 => ?_)
    · have h := h.1 c2
      refine lv_iconst (v := (0 : Int32)) X.1.1 X.1.2.1 dX6_feed_23 (by decide) ?_
      exact W.zret X.1.1 X.1.2.1 hr (by decide) (fun t ht _ => V.q (r := (0 : Int32)) h ht) V.2.1.2.2 dX6_feed_24 X.1.2.2.2.2
    · have h := h.2 c2
      refine lv_aload_n X.1.1 X.1.2.1 dX6_feed_11 rfl (lv_at hl 0 rfl) ?_
      obtain ⟨k3, h⟩ := h
      obtain ⟨o4, e5, h⟩ := h
      refine gf_X6_30 X V k3 e5 dX6_feed_12 ?_
      obtain ⟨k6, h⟩ := h
      refine gf_X6_80 X V k6 dX6_feed_15 ?_
      refine lv_bipush (v := (120 : Int32)) X.1.1 X.1.2.1 dX6_feed_18 (by decide) ?_
      refine lv_icmp_lt (tgt := 25) X.1.1 X.1.2.1 dX6_feed_20 (by decide) (fun c7 => ?_) (fun c7 => ?_)
      · have h := h.1 c7
        refine lv_aload_n X.1.1 X.1.2.1 dX6_feed_25 rfl (lv_at hl 0 rfl) ?_
        obtain ⟨o8, e9, h⟩ := h
        refine gf_X6_30 X V k3 e9 dX6_feed_26 ?_
        refine lv_iload_n X.1.1 X.1.2.1 dX6_feed_29 rfl (lv_at hl 1 rfl) ?_
        obtain ⟨k10, h⟩ := h
        refine r_callV (k := 5) (n := 1) (As := [.int v1]) X V (sd_X3_append l D ka _ Z _ o8 v1 h) k10 (by decide) (by decide) rfl wd_6 wd_275 wd_8 wd_9 wd_10 rfl rfl (by decide +kernel) ⟨Nat.le_of_ble_eq_true rfl, Nat.le_of_ble_eq_true rfl⟩ rfl hl.1 rfl (Nat.le_of_ble_eq_true rfl) dX6_feed_30 ⟨show 0 ≤ 0 by omega, show 0 ≤ 0 by omega⟩ (fun r12 S11 H locs h m13 V => ?_)
        have k3 := m13.k k3 (by decide)
        have k6 := m13.k k6 (by decide)
        have k10 := m13.k k10 (by decide)
        refine lv_iconst (v := (1 : Int32)) X.1.1 X.1.2.1 dX6_feed_33 (by decide) ?_
        exact W.zret X.1.1 X.1.2.1 hr (by decide) (fun t ht _ => V.q (r := (1 : Int32)) h ht) V.2.1.2.2 dX6_feed_34 X.1.2.2.2.2
      · have h := h.2 c7
        refine lv_iconst (v := (0 : Int32)) X.1.1 X.1.2.1 dX6_feed_23 (by decide) ?_
        exact W.zret X.1.1 X.1.2.1 hr (by decide) (fun t ht _ => V.q (r := (0 : Int32)) h ht) V.2.1.2.2 dX6_feed_24 X.1.2.2.2.2
abbrev rm_X6_tally : Room := { frames := 0, cells := 0, slots := 0, locals := 0 }
def wp_X6_tally (post : Unit → HS → Prop) (S : HS) (a0 : Nat) (v1 : Int32) : Prop := ((v1 < 0 → post () S) ∧ (¬ v1 < 0 → (((13 : Int32) ≤ v1 → post () S) ∧ (¬ (13 : Int32) ≤ v1 → kd S a0 = 7 ∧ (∃ o4 : Nat, fr S 25 a0 = some o4 ∧ (kd S o4 / 32 = 1 ∧ (vp_in v1 (ln S o4) ∧ (vp_in v1 (ln S o4) ∧ (post () (sai S o4 v1.toNatClampNeg ((ai S o4 v1.toNatClampNeg) + (1 : Int32))))))))))))
set_option maxHeartbeats 400000 in
set_option maxRecDepth 100000 in
theorem sd_X6_tally (l : Launch) (D : va_G) (ka : Nat → ClassId) (sz : Nat) (Z : HS) (post : Unit → HS → Prop) (a0 : Nat) (v1 : Int32) (h : wp_X6_tally post Z a0 v1) : Met l yX6_tally [Cond.code yX6_tally cX6_tally 2 none] rm_X6_tally (Px D ka Z sz [.ref a0, .int v1]) (Qx eV post D ka Z sz) 0 0 (fA Z sz) := by
  refine Met.ofW (cc := cX6_tally) (maxL := 2) (ret := none) (by decide) rfl ?_
  intro p e s m args below meth c s₁ B hml hv
  obtain ⟨rfl, X, V, hsz⟩ := Cx.entry B hml hv
  have hr : meth.sig.returnType = none := B.returns
  have hl := lv_entry ([.ref a0, .int v1]) (n := 2) (Nat.le_of_ble_eq_true rfl)
  rw [lg_entry_eq]
  generalize (lg_sl ([.ref a0, .int v1]) ++ List.replicate (2 - (lg_sl ([.ref a0, .int v1])).length) Slot.unset).toArray = ls at hl ⊢
  have hl : lv_has ls 2 [(0, .ref a0), (1, .int v1)] := hl
  have h : wp_X6_tally post Z a0 v1 := h
  refine lv_iload_n X.1.1 X.1.2.1 dX6_tally_0 rfl (lv_at hl 1 rfl) ?_
  refine lv_if_lt (tgt := 20) X.1.1 X.1.2.1 dX6_tally_1 (by decide) (fun c1 => ?_) (fun c1 => ?_)
  · have h := h.1 c1
    exact W.vret X.1.1 X.1.2.1 hr (fun t ht _ => V.q (r := ()) h ht) V.2.1.2.2 dX6_tally_20 X.1.2.2.2.2
  · have h := h.2 c1
    refine lv_iload_n X.1.1 X.1.2.1 dX6_tally_4 rfl (lv_at hl 1 rfl) ?_
    refine lv_bipush (v := (13 : Int32)) X.1.1 X.1.2.1 dX6_tally_5 (by decide) ?_
    refine lv_icmp_ge (tgt := 20) X.1.1 X.1.2.1 dX6_tally_7 (by decide) (fun c2 => ?_) (fun c2 => ?_)
    · have h := h.1 c2
      exact W.vret X.1.1 X.1.2.1 hr (fun t ht _ => V.q (r := ()) h ht) V.2.1.2.2 dX6_tally_20 X.1.2.2.2.2
    · have h := h.2 c2
      refine lv_aload_n X.1.1 X.1.2.1 dX6_tally_10 rfl (lv_at hl 0 rfl) ?_
      obtain ⟨k3, h⟩ := h
      obtain ⟨o4, e5, h⟩ := h
      refine gf_X6_34 X V k3 e5 dX6_tally_11 ?_
      refine lv_iload_n X.1.1 X.1.2.1 dX6_tally_14 rfl (lv_at hl 1 rfl) ?_
      refine lv_dup2_11 X.1.1 X.1.2.1 dX6_tally_15 rfl rfl ?_
      obtain ⟨k6, h⟩ := h
      obtain ⟨i7, h⟩ := h
      refine r_iald X V k6 i7 dX6_tally_16 ?_
      refine lv_iconst (v := (1 : Int32)) X.1.1 X.1.2.1 dX6_tally_17 (by decide) ?_
      refine lv_iadd X.1.1 X.1.2.1 dX6_tally_18 ?_
      obtain ⟨i8, h⟩ := h
      refine r_iast X V k6 i8 dX6_tally_19 (fun H locs V => ?_)
      exact W.vret X.1.1 X.1.2.1 hr (fun t ht _ => V.q (r := ()) h ht) V.2.1.2.2 dX6_tally_20 X.1.2.2.2.2
abbrev rm_X6_learn : Room := { frames := 7, cells := 1, slots := 80, locals := 171 }
def wp_X6_learn_41a (post : Unit → HS → Prop) (S : HS) (b0 : Nat) (b1 : Nat) (b2 : Nat) (x3 : Int32) : Prop := kd S b1 = 2 ∧ (wp_X0_isFull (fun r13 S12 => ((r13 = 0 → ∃ o16 : Nat, fr S12 4 b1 = some o16 ∧ (kd S12 o16 = 1 ∧ (wp_Jx4a65c_add_9ea2d (fun r20 S19 => kd S19 b0 = 7 ∧ (wp_X6_tally (fun _ S23 => post () S23) S19 b0 (11 : Int32))) S12 o16 b2))) ∧ (¬ r13 = 0 → wp_X0_oldest (fun r27 S26 => wp_X0_drop (fun _ S29 => kd S29 b0 = 7 ∧ (wp_X6_tally (fun _ S33 => ∃ o36 : Nat, fr S33 4 b1 = some o36 ∧ (kd S33 o36 = 1 ∧ (wp_Jx4a65c_add_9ea2d (fun r40 S39 => wp_X6_tally (fun _ S42 => post () S42) S39 b0 (11 : Int32)) S33 o36 b2))) S29 b0 (12 : Int32))) S26 b1 r27) S12 b1))) S b1)
set_option maxHeartbeats 400000 in
set_option maxRecDepth 100000 in
theorem sl_X6_learn_41a (l : Launch) (D : va_G) (ka : Nat → ClassId) (sz : Nat) (Z : HS) (post : Unit → HS → Prop) {p : Program} {e : Env} {s : State} {m : MethodId} {args : Array Value} {below : List Frame} {meth : Method} {c : Code} (X : Cx p s m meth c cX6_learn 5 RX6 D ka Z (fA Z sz)) (hr : meth.sig.returnType = none)  : ∀ (S : HS) (b0 : Nat) (b1 : Nat) (b2 : Nat) (x3 : Int32), wp_X6_learn_41a post S b0 b1 b2 x3 → ∀ (H : Heap) (locs : List Loc) (ls : Array Slot), Hv D ka Z s (fA Z sz) S H locs → lv_has ls 5 [(0, .ref b0), (1, .ref b1), (2, .ref b2), (3, .int x3), (4, .null)] → W p l e rm_X6_learn s m args below meth c H locs 0 0 (MQ below (Qx eV post D ka Z sz) args s 1 80 (fA Z sz)) (F0 m 41 ls []) := by
  intro S b0 b1 b2 x3 h H locs ls V hl
  refine lv_aloadN X.1.1 X.1.2.1 dX6_learn_41 (lv_at hl 4 rfl) ?_
  refine lv_ifnullN (tgt := 54) X.1.1 X.1.2.1 dX6_learn_43 (by decide) ?_
  refine lv_aload_n X.1.1 X.1.2.1 dX6_learn_54 rfl (lv_at hl 1 rfl) ?_
  obtain ⟨k11, h⟩ := h
  refine r_callV (k := 2) (n := 0) (As := []) X V (sd_X0_isFull l D ka _ S _ b1 h) k11 (by decide) (by decide) rfl wd_280 wd_281 wd_119 wd_282 wd_283 rfl rfl (by decide +kernel) ⟨Nat.le_of_ble_eq_true rfl, Nat.le_of_ble_eq_true rfl⟩ rfl hl.1 rfl (Nat.le_of_ble_eq_true rfl) dX6_learn_55 ⟨show 0 ≤ 1 by omega, show 0 ≤ 80 by omega⟩ (fun r13 S12 H locs h m14 V => ?_)
  have k11 := m14.k k11 (by decide)
  refine lv_if_eq (tgt := 75) X.1.1 X.1.2.1 dX6_learn_58 (by decide) (fun c15 => ?_) (fun c15 => ?_)
  · have h := h.1 c15
    refine lv_aload_n X.1.1 X.1.2.1 dX6_learn_75 rfl (lv_at hl 1 rfl) ?_
    obtain ⟨o16, e17, h⟩ := h
    refine gf_X6_174 X V k11 e17 dX6_learn_76 ?_
    refine lv_aload_n X.1.1 X.1.2.1 dX6_learn_79 rfl (lv_at hl 2 rfl) ?_
    obtain ⟨k18, h⟩ := h
    refine r_callV (k := 1) (n := 1) (As := [.ref b2]) X V (sd_Jx4a65c_add_9ea2d l D ka _ S12 _ o16 b2 h) k18 (by decide) (by decide) rfl wd_260 wd_261 wd_39 wd_262 wd_263 rfl rfl (by decide +kernel) ⟨Nat.le_of_ble_eq_true rfl, Nat.le_of_ble_eq_true rfl⟩ rfl hl.1 rfl (Nat.le_of_ble_eq_true rfl) dX6_learn_80 ⟨show 1 ≤ 1 by omega, show 80 ≤ 80 by omega⟩ (fun r20 S19 H locs h m21 V => ?_)
    have k11 := m21.k k11 (by decide)
    have k18 := m21.k k18 (by decide)
    refine W.widen (k := 1) (n := 80) (by omega) (by omega) ?_
    refine lv_pop X.1.1 X.1.2.1 dX6_learn_83 rfl ?_
    refine lv_aload_n X.1.1 X.1.2.1 dX6_learn_84 rfl (lv_at hl 0 rfl) ?_
    refine lv_bipush (v := (11 : Int32)) X.1.1 X.1.2.1 dX6_learn_85 (by decide) ?_
    obtain ⟨k22, h⟩ := h
    refine r_callV (k := 7) (n := 1) (As := [.int (11 : Int32)]) X V (sd_X6_tally l D ka _ S19 _ b0 (11 : Int32) h) k22 (by decide) (by decide) rfl wd_285 wd_286 wd_249 wd_287 wd_288 rfl rfl (by decide +kernel) ⟨Nat.le_of_ble_eq_true rfl, Nat.le_of_ble_eq_true rfl⟩ rfl hl.1 rfl (Nat.le_of_ble_eq_true rfl) dX6_learn_87 ⟨show 1 ≤ 1 by omega, show 80 ≤ 80 by omega⟩ (fun r24 S23 H locs h m25 V => ?_)
    have k11 := m25.k k11 (by decide)
    have k18 := m25.k k18 (by decide)
    have k22 := m25.k k22 (by decide)
    refine W.widen (k := 1) (n := 80) (by omega) (by omega) ?_
    exact W.vret X.1.1 X.1.2.1 hr (fun t ht _ => V.q (r := ()) h ht) V.2.1.2.2 dX6_learn_90 X.1.2.2.2.2
  · have h := h.2 c15
    refine lv_aload_n X.1.1 X.1.2.1 dX6_learn_61 rfl (lv_at hl 1 rfl) ?_
    refine lv_aload_n X.1.1 X.1.2.1 dX6_learn_62 rfl (lv_at hl 1 rfl) ?_
    refine r_callV (k := 2) (n := 0) (As := []) X V (sd_X0_oldest l D ka _ S12 _ b1 h) k11 (by decide) (by decide) rfl wd_289 wd_290 wd_119 wd_291 wd_292 rfl rfl (by decide +kernel) ⟨Nat.le_of_ble_eq_true rfl, Nat.le_of_ble_eq_true rfl⟩ rfl hl.1 rfl (Nat.le_of_ble_eq_true rfl) dX6_learn_63 ⟨show 0 ≤ 1 by omega, show 0 ≤ 80 by omega⟩ (fun r27 S26 H locs h m28 V => ?_)
    have k11 := m28.k k11 (by decide)
    refine r_callV (k := 2) (n := 1) (As := [.int r27]) X V (sd_X0_drop l D ka _ S26 _ b1 r27 h) k11 (by decide) (by decide) rfl wd_137 wd_293 wd_119 wd_139 wd_140 rfl rfl (by decide +kernel) ⟨Nat.le_of_ble_eq_true rfl, Nat.le_of_ble_eq_true rfl⟩ rfl hl.1 rfl (Nat.le_of_ble_eq_true rfl) dX6_learn_66 ⟨show 0 ≤ 1 by omega, show 0 ≤ 80 by omega⟩ (fun r30 S29 H locs h m31 V => ?_)
    have k11 := m31.k k11 (by decide)
    refine lv_aload_n X.1.1 X.1.2.1 dX6_learn_69 rfl (lv_at hl 0 rfl) ?_
    refine lv_bipush (v := (12 : Int32)) X.1.1 X.1.2.1 dX6_learn_70 (by decide) ?_
    obtain ⟨k32, h⟩ := h
    refine r_callV (k := 7) (n := 1) (As := [.int (12 : Int32)]) X V (sd_X6_tally l D ka _ S29 _ b0 (12 : Int32) h) k32 (by decide) (by decide) rfl wd_285 wd_286 wd_249 wd_287 wd_288 rfl rfl (by decide +kernel) ⟨Nat.le_of_ble_eq_true rfl, Nat.le_of_ble_eq_true rfl⟩ rfl hl.1 rfl (Nat.le_of_ble_eq_true rfl) dX6_learn_72 ⟨show 0 ≤ 1 by omega, show 0 ≤ 80 by omega⟩ (fun r34 S33 H locs h m35 V => ?_)
    have k11 := m35.k k11 (by decide)
    have k32 := m35.k k32 (by decide)
    refine lv_aload_n X.1.1 X.1.2.1 dX6_learn_75 rfl (lv_at hl 1 rfl) ?_
    obtain ⟨o36, e37, h⟩ := h
    refine gf_X6_174 X V k11 e37 dX6_learn_76 ?_
    refine lv_aload_n X.1.1 X.1.2.1 dX6_learn_79 rfl (lv_at hl 2 rfl) ?_
    obtain ⟨k38, h⟩ := h
    refine r_callV (k := 1) (n := 1) (As := [.ref b2]) X V (sd_Jx4a65c_add_9ea2d l D ka _ S33 _ o36 b2 h) k38 (by decide) (by decide) rfl wd_260 wd_261 wd_39 wd_262 wd_263 rfl rfl (by decide +kernel) ⟨Nat.le_of_ble_eq_true rfl, Nat.le_of_ble_eq_true rfl⟩ rfl hl.1 rfl (Nat.le_of_ble_eq_true rfl) dX6_learn_80 ⟨show 1 ≤ 1 by omega, show 80 ≤ 80 by omega⟩ (fun r40 S39 H locs h m41 V => ?_)
    have k11 := m41.k k11 (by decide)
    have k32 := m41.k k32 (by decide)
    have k38 := m41.k k38 (by decide)
    refine W.widen (k := 1) (n := 80) (by omega) (by omega) ?_
    refine lv_pop X.1.1 X.1.2.1 dX6_learn_83 rfl ?_
    refine lv_aload_n X.1.1 X.1.2.1 dX6_learn_84 rfl (lv_at hl 0 rfl) ?_
    refine lv_bipush (v := (11 : Int32)) X.1.1 X.1.2.1 dX6_learn_85 (by decide) ?_
    refine r_callV (k := 7) (n := 1) (As := [.int (11 : Int32)]) X V (sd_X6_tally l D ka _ S39 _ b0 (11 : Int32) h) k32 (by decide) (by decide) rfl wd_285 wd_286 wd_249 wd_287 wd_288 rfl rfl (by decide +kernel) ⟨Nat.le_of_ble_eq_true rfl, Nat.le_of_ble_eq_true rfl⟩ rfl hl.1 rfl (Nat.le_of_ble_eq_true rfl) dX6_learn_87 ⟨show 1 ≤ 1 by omega, show 80 ≤ 80 by omega⟩ (fun r43 S42 H locs h m44 V => ?_)
    have k11 := m44.k k11 (by decide)
    have k32 := m44.k k32 (by decide)
    have k38 := m44.k k38 (by decide)
    refine W.widen (k := 1) (n := 80) (by omega) (by omega) ?_
    exact W.vret X.1.1 X.1.2.1 hr (fun t ht _ => V.q (r := ()) h ht) V.2.1.2.2 dX6_learn_90 X.1.2.2.2.2
def wp_X6_learn_41b (post : Unit → HS → Prop) (S : HS) (b0 : Nat) (b1 : Nat) (b2 : Nat) (x3 : Int32) (b4 : Nat) : Prop := kd S b1 = 2 ∧ (wp_X0_drop (fun _ S51 => ∃ o54 : Nat, fr S51 4 b1 = some o54 ∧ (kd S51 o54 = 1 ∧ (wp_Jx4a65c_add_9ea2d (fun r58 S57 => kd S57 b0 = 7 ∧ (wp_X6_tally (fun _ S61 => post () S61) S57 b0 (11 : Int32))) S51 o54 b2))) S b1 x3)
set_option maxHeartbeats 400000 in
set_option maxRecDepth 100000 in
theorem sl_X6_learn_41b (l : Launch) (D : va_G) (ka : Nat → ClassId) (sz : Nat) (Z : HS) (post : Unit → HS → Prop) {p : Program} {e : Env} {s : State} {m : MethodId} {args : Array Value} {below : List Frame} {meth : Method} {c : Code} (X : Cx p s m meth c cX6_learn 5 RX6 D ka Z (fA Z sz)) (hr : meth.sig.returnType = none)  : ∀ (S : HS) (b0 : Nat) (b1 : Nat) (b2 : Nat) (x3 : Int32) (b4 : Nat), wp_X6_learn_41b post S b0 b1 b2 x3 b4 → ∀ (H : Heap) (locs : List Loc) (ls : Array Slot), Hv D ka Z s (fA Z sz) S H locs → lv_has ls 5 [(0, .ref b0), (1, .ref b1), (2, .ref b2), (3, .int x3), (4, .ref b4)] → W p l e rm_X6_learn s m args below meth c H locs 0 0 (MQ below (Qx eV post D ka Z sz) args s 1 80 (fA Z sz)) (F0 m 41 ls []) := by
  intro S b0 b1 b2 x3 b4 h H locs ls V hl
  refine lv_aload X.1.1 X.1.2.1 dX6_learn_41 (lv_at hl 4 rfl) ?_
  refine lv_ifnull X.1.1 X.1.2.1 dX6_learn_43 ?_
  refine lv_aload_n X.1.1 X.1.2.1 dX6_learn_46 rfl (lv_at hl 1 rfl) ?_
  refine lv_iload_n X.1.1 X.1.2.1 dX6_learn_47 rfl (lv_at hl 3 rfl) ?_
  obtain ⟨k50, h⟩ := h
  refine r_callV (k := 2) (n := 1) (As := [.int x3]) X V (sd_X0_drop l D ka _ S _ b1 x3 h) k50 (by decide) (by decide) rfl wd_137 wd_293 wd_119 wd_139 wd_140 rfl rfl (by decide +kernel) ⟨Nat.le_of_ble_eq_true rfl, Nat.le_of_ble_eq_true rfl⟩ rfl hl.1 rfl (Nat.le_of_ble_eq_true rfl) dX6_learn_48 ⟨show 0 ≤ 1 by omega, show 0 ≤ 80 by omega⟩ (fun r52 S51 H locs h m53 V => ?_)
  have k50 := m53.k k50 (by decide)
  refine lv_goto (tgt := 75) X.1.1 X.1.2.1 dX6_learn_51 (by decide) ?_
  refine lv_aload_n X.1.1 X.1.2.1 dX6_learn_75 rfl (lv_at hl 1 rfl) ?_
  obtain ⟨o54, e55, h⟩ := h
  refine gf_X6_174 X V k50 e55 dX6_learn_76 ?_
  refine lv_aload_n X.1.1 X.1.2.1 dX6_learn_79 rfl (lv_at hl 2 rfl) ?_
  obtain ⟨k56, h⟩ := h
  refine r_callV (k := 1) (n := 1) (As := [.ref b2]) X V (sd_Jx4a65c_add_9ea2d l D ka _ S51 _ o54 b2 h) k56 (by decide) (by decide) rfl wd_260 wd_261 wd_39 wd_262 wd_263 rfl rfl (by decide +kernel) ⟨Nat.le_of_ble_eq_true rfl, Nat.le_of_ble_eq_true rfl⟩ rfl hl.1 rfl (Nat.le_of_ble_eq_true rfl) dX6_learn_80 ⟨show 1 ≤ 1 by omega, show 80 ≤ 80 by omega⟩ (fun r58 S57 H locs h m59 V => ?_)
  have k50 := m59.k k50 (by decide)
  have k56 := m59.k k56 (by decide)
  refine W.widen (k := 1) (n := 80) (by omega) (by omega) ?_
  refine lv_pop X.1.1 X.1.2.1 dX6_learn_83 rfl ?_
  refine lv_aload_n X.1.1 X.1.2.1 dX6_learn_84 rfl (lv_at hl 0 rfl) ?_
  refine lv_bipush (v := (11 : Int32)) X.1.1 X.1.2.1 dX6_learn_85 (by decide) ?_
  obtain ⟨k60, h⟩ := h
  refine r_callV (k := 7) (n := 1) (As := [.int (11 : Int32)]) X V (sd_X6_tally l D ka _ S57 _ b0 (11 : Int32) h) k60 (by decide) (by decide) rfl wd_285 wd_286 wd_249 wd_287 wd_288 rfl rfl (by decide +kernel) ⟨Nat.le_of_ble_eq_true rfl, Nat.le_of_ble_eq_true rfl⟩ rfl hl.1 rfl (Nat.le_of_ble_eq_true rfl) dX6_learn_87 ⟨show 1 ≤ 1 by omega, show 80 ≤ 80 by omega⟩ (fun r62 S61 H locs h m63 V => ?_)
  have k50 := m63.k k50 (by decide)
  have k56 := m63.k k56 (by decide)
  have k60 := m63.k k60 (by decide)
  refine W.widen (k := 1) (n := 80) (by omega) (by omega) ?_
  exact W.vret X.1.1 X.1.2.1 hr (fun t ht _ => V.q (r := ()) h ht) V.2.1.2.2 dX6_learn_90 X.1.2.2.2.2
def wp_X6_learn (post : Unit → HS → Prop) (S : HS) (a0 : Nat) (a1 : Nat) (a2 : Nat) : Prop := kd S a2 = 3 ∧ (kd S a1 = 2 ∧ (wp_X0_find (fun r4 S3 => wp_X0_knownAt (fun r7 S6 => ((r7 = none → wp_X6_learn_41a post S6 a0 a1 a2 r4) ∧ (∀ o9 : Nat, r7 = some o9 → kd S6 o9 = 3 ∧ (wp_X1_isAtPlaceOf (fun r47 S46 => ((r47 = 0 → wp_X6_learn_41b post S46 a0 a1 a2 r4 o9) ∧ (¬ r47 = 0 → post () (sfi S46 11 o9 (0 : Int32))))) S6 o9 a2)))) S3 a1 r4) S a1 (fi S 7 a2) (fl S 8 a2)))
set_option maxHeartbeats 400000 in
set_option maxRecDepth 100000 in
theorem sd_X6_learn (l : Launch) (D : va_G) (ka : Nat → ClassId) (sz : Nat) (Z : HS) (post : Unit → HS → Prop) (a0 : Nat) (a1 : Nat) (a2 : Nat) (h : wp_X6_learn post Z a0 a1 a2) : Met l yX6_learn [Cond.code yX6_learn cX6_learn 5 none] rm_X6_learn (Px D ka Z sz [.ref a0, .ref a1, .ref a2]) (Qx eV post D ka Z sz) 1 80 (fA Z sz) := by
  refine Met.ofW (cc := cX6_learn) (maxL := 5) (ret := none) (by decide) rfl ?_
  intro p e s m args below meth c s₁ B hml hv
  obtain ⟨rfl, X, V, hsz⟩ := Cx.entry B hml hv
  have hr : meth.sig.returnType = none := B.returns
  have hl := lv_entry ([.ref a0, .ref a1, .ref a2]) (n := 5) (Nat.le_of_ble_eq_true rfl)
  rw [lg_entry_eq]
  generalize (lg_sl ([.ref a0, .ref a1, .ref a2]) ++ List.replicate (5 - (lg_sl ([.ref a0, .ref a1, .ref a2])).length) Slot.unset).toArray = ls at hl ⊢
  have hl : lv_has ls 5 [(0, .ref a0), (1, .ref a1), (2, .ref a2)] := hl
  have h : wp_X6_learn post Z a0 a1 a2 := h
  refine lv_aload_n X.1.1 X.1.2.1 dX6_learn_0 rfl (lv_at hl 1 rfl) ?_
  refine lv_aload_n X.1.1 X.1.2.1 dX6_learn_1 rfl (lv_at hl 2 rfl) ?_
  obtain ⟨k1, h⟩ := h
  refine gf_X6_205 X V k1 dX6_learn_2 ?_
  refine lv_aload_n X.1.1 X.1.2.1 dX6_learn_5 rfl (lv_at hl 2 rfl) ?_
  refine gf_X6_206 X V k1 dX6_learn_6 ?_
  obtain ⟨k2, h⟩ := h
  refine r_callV (k := 2) (n := 2) (As := [.int (fi Z 7 a2), .long (fl Z 8 a2)]) X V (sd_X0_find l D ka _ Z _ a1 (fi Z 7 a2) (fl Z 8 a2) h) k2 (by decide) (by decide) rfl wd_128 wd_278 wd_119 wd_130 wd_131 rfl rfl (by decide +kernel) ⟨Nat.le_of_ble_eq_true rfl, Nat.le_of_ble_eq_true rfl⟩ rfl hl.1 rfl (Nat.le_of_ble_eq_true rfl) dX6_learn_9 ⟨show 0 ≤ 1 by omega, show 0 ≤ 80 by omega⟩ (fun r4 S3 H locs h m5 V => ?_)
  have k1 := m5.k k1 (by decide)
  have k2 := m5.k k2 (by decide)
  refine lv_istore_n (lv' := [(3, .int r4), (0, .ref a0), (1, .ref a1), (2, .ref a2)]) X.1.1 X.1.2.1 dX6_learn_12 rfl hl (by decide) rfl (fun ls hl => ?_)
  refine lv_aload_n X.1.1 X.1.2.1 dX6_learn_13 rfl (lv_at hl 2 rfl) ?_
  refine lv_iload_n X.1.1 X.1.2.1 dX6_learn_14 rfl (lv_at hl 0 rfl) ?_
  refine r_callV (k := 2) (n := 1) (As := [.int r4]) X V (sd_X0_knownAt l D ka _ S3 _ a1 r4 h) k2 (by decide) (by decide) rfl wd_117 wd_279 wd_119 wd_120 wd_121 rfl rfl (by decide +kernel) ⟨Nat.le_of_ble_eq_true rfl, Nat.le_of_ble_eq_true rfl⟩ rfl hl.1 rfl (Nat.le_of_ble_eq_true rfl) dX6_learn_15 ⟨show 0 ≤ 1 by omega, show 0 ≤ 80 by omega⟩ (fun r7 S6 H locs h m8 V => ?_)
  have k1 := m8.k k1 (by decide)
  have k2 := m8.k k2 (by decide)
  cases r7 with
  | none =>
    have h := h.1 rfl
    refine lv_astoreN (lv' := [(4, .null), (3, .int r4), (0, .ref a0), (1, .ref a1), (2, .ref a2)]) X.1.1 X.1.2.1 dX6_learn_18 hl (by decide) rfl (fun ls hl => ?_)
    refine lv_aloadN X.1.1 X.1.2.1 dX6_learn_20 (lv_at hl 0 rfl) ?_
    refine lv_ifnullN (tgt := 41) X.1.1 X.1.2.1 dX6_learn_22 (by decide) ?_
    exact sl_X6_learn_41a l D ka sz Z post X hr S6 a0 a1 a2 r4 h _ _ _ V (lv_sub hl [2, 3, 4, 1, 0] rfl)
  | some o9 =>
    have h := h.2 o9 rfl
    refine lv_astore (lv' := [(4, .ref o9), (3, .int r4), (0, .ref a0), (1, .ref a1), (2, .ref a2)]) X.1.1 X.1.2.1 dX6_learn_18 hl (by decide) rfl (fun ls hl => ?_)
    refine lv_aload X.1.1 X.1.2.1 dX6_learn_20 (lv_at hl 0 rfl) ?_
    refine lv_ifnull X.1.1 X.1.2.1 dX6_learn_22 ?_
    refine lv_aload X.1.1 X.1.2.1 dX6_learn_25 (lv_at hl 0 rfl) ?_
    refine lv_aload_n X.1.1 X.1.2.1 dX6_learn_27 rfl (lv_at hl 4 rfl) ?_
    obtain ⟨k45, h⟩ := h
    refine r_callV (k := 3) (n := 1) (As := [.ref a2]) X V (sd_X1_isAtPlaceOf l D ka _ S6 _ o9 a2 h) k45 (by decide) (by decide) rfl wd_294 wd_295 wd_296 wd_297 wd_298 rfl rfl (by decide +kernel) ⟨Nat.le_of_ble_eq_true rfl, Nat.le_of_ble_eq_true rfl⟩ rfl hl.1 rfl (Nat.le_of_ble_eq_true rfl) dX6_learn_28 ⟨show 0 ≤ 1 by omega, show 0 ≤ 80 by omega⟩ (fun r47 S46 H locs h m48 V => ?_)
    have k1 := m48.k k1 (by decide)
    have k2 := m48.k k2 (by decide)
    have k45 := m48.k k45 (by decide)
    refine lv_if_eq (tgt := 41) X.1.1 X.1.2.1 dX6_learn_31 (by decide) (fun c49 => ?_) (fun c49 => ?_)
    · have h := h.1 c49
      exact sl_X6_learn_41b l D ka sz Z post X hr S46 a0 a1 a2 r4 o9 h _ _ _ V (lv_sub hl [2, 3, 4, 1, 0] rfl)
    · have h := h.2 c49
      refine lv_aload X.1.1 X.1.2.1 dX6_learn_34 (lv_at hl 0 rfl) ?_
      refine lv_iconst (v := (0 : Int32)) X.1.1 X.1.2.1 dX6_learn_36 (by decide) ?_
      refine pf_X6_215 X V k45 dX6_learn_37 (fun H locs V => ?_)
      refine W.widen (k := 1) (n := 80) (by omega) (by omega) ?_
      exact W.vret X.1.1 X.1.2.1 hr (fun t ht _ => V.q (r := ()) h ht) V.2.1.2.2 dX6_learn_40 X.1.2.2.2.2
abbrev rm_X6_comeToAll : Room := { frames := 4, cells := 0, slots := 0, locals := 85 }
def wp_X6_comeToAll_3 : Nat → (Unit → HS → Prop) → HS → Nat → Nat → Int32 → Int32 → Int32 → Int32 → Prop
  | 0, _, _, _, _, _, _, _, _ => False
  | n + 1, post, S, b0, b1, x2, x3, x4, x5 => kd S b0 = 7 ∧ (∃ o2 : Nat, fr S 22 b0 = some o2 ∧ (kd S o2 = 1 ∧ (wp_Jx4a65c_size_8abf5 (fun r6 S5 => ((r6 ≤ x5 → post () S5) ∧ (¬ r6 ≤ x5 → wp_X6_stationAt (fun r10 S9 => ((r10 = none → wp_X6_comeToAll_3 n post S9 b0 b1 x2 x3 x4 (x5 + (1 : Int32))) ∧ (∀ o12 : Nat, r10 = some o12 → ((x5 = x4 → wp_X6_comeToAll_3 n post S9 b0 b1 x2 x3 x4 (x5 + (1 : Int32))) ∧ (¬ x5 = x4 → kd S9 o12 = 6 ∧ (wp_X4_isThere (fun r17 S16 => ((r17 = 0 → wp_X6_comeToAll_3 n post S16 b0 b1 x2 x3 x4 (x5 + (1 : Int32))) ∧ (¬ r17 = 0 → wp_X4_take (fun _ S20 => wp_X6_comeToAll_3 n post S20 b0 b1 x2 x3 x4 (x5 + (1 : Int32))) S16 o12 b1))) S9 o12 x2 x3)))))) S5 b0 x5))) S o2)))
set_option maxHeartbeats 400000 in
set_option maxRecDepth 100000 in
theorem sl_X6_comeToAll_3 (l : Launch) (D : va_G) (ka : Nat → ClassId) (sz : Nat) (Z : HS) (post : Unit → HS → Prop) {p : Program} {e : Env} {s : State} {m : MethodId} {args : Array Value} {below : List Frame} {meth : Method} {c : Code} (X : Cx p s m meth c cX6_comeToAll 7 RX6 D ka Z (fA Z sz)) (hr : meth.sig.returnType = none)  : ∀ (n : Nat), ∀ (S : HS) (b0 : Nat) (b1 : Nat) (x2 : Int32) (x3 : Int32) (x4 : Int32) (x5 : Int32), wp_X6_comeToAll_3 n post S b0 b1 x2 x3 x4 x5 → ∀ (H : Heap) (locs : List Loc) (ls : Array Slot), Hv D ka Z s (fA Z sz) S H locs → lv_has ls 7 [(0, .ref b0), (1, .ref b1), (2, .int x2), (3, .int x3), (4, .int x4), (5, .int x5)] → W p l e rm_X6_comeToAll s m args below meth c H locs 0 0 (MQ below (Qx eV post D ka Z sz) args s 0 0 (fA Z sz)) (F0 m 3 ls []) := by
  intro n
  induction n with
  | zero => intro S b0 b1 x2 x3 x4 x5 h; exact h.elim
  | succ n ih =>
    intro S b0 b1 x2 x3 x4 x5 h H locs ls V hl
    refine lv_iload X.1.1 X.1.2.1 dX6_comeToAll_3 (lv_at hl 5 rfl) ?_
    refine lv_aload_n X.1.1 X.1.2.1 dX6_comeToAll_5 rfl (lv_at hl 0 rfl) ?_
    obtain ⟨k1, h⟩ := h
    obtain ⟨o2, e3, h⟩ := h
    refine gf_X6_18 X V k1 e3 dX6_comeToAll_6 ?_
    obtain ⟨k4, h⟩ := h
    refine r_callV (k := 1) (n := 0) (As := []) X V (sd_Jx4a65c_size_8abf5 l D ka _ S _ o2 h) k4 (by decide) (by decide) rfl wd_108 wd_253 wd_39 wd_110 wd_111 rfl rfl (by decide +kernel) ⟨Nat.le_of_ble_eq_true rfl, Nat.le_of_ble_eq_true rfl⟩ rfl hl.1 rfl (Nat.le_of_ble_eq_true rfl) dX6_comeToAll_9 ⟨show 0 ≤ 0 by omega, show 0 ≤ 0 by omega⟩ (fun r6 S5 H locs h m7 V => ?_)
    have k1 := m7.k k1 (by decide)
    have k4 := m7.k k4 (by decide)
    refine lv_icmp_ge (tgt := 57) X.1.1 X.1.2.1 dX6_comeToAll_12 (by decide) (fun c8 => ?_) (fun c8 => ?_)
    · have h := h.1 c8
      exact W.vret X.1.1 X.1.2.1 hr (fun t ht _ => V.q (r := ()) h ht) V.2.1.2.2 dX6_comeToAll_57 X.1.2.2.2.2
    · have h := h.2 c8
      refine lv_aload_n X.1.1 X.1.2.1 dX6_comeToAll_15 rfl (lv_at hl 0 rfl) ?_
      refine lv_iload X.1.1 X.1.2.1 dX6_comeToAll_16 (lv_at hl 5 rfl) ?_
      refine r_callV (k := 7) (n := 1) (As := [.int x5]) X V (sd_X6_stationAt l D ka _ S5 _ b0 x5 h) k1 (by decide) (by decide) rfl wd_265 wd_266 wd_249 wd_267 wd_268 rfl rfl (by decide +kernel) ⟨Nat.le_of_ble_eq_true rfl, Nat.le_of_ble_eq_true rfl⟩ rfl hl.1 rfl (Nat.le_of_ble_eq_true rfl) dX6_comeToAll_18 ⟨show 0 ≤ 0 by omega, show 0 ≤ 0 by omega⟩ (fun r10 S9 H locs h m11 V => ?_)
      have k1 := m11.k k1 (by decide)
      have k4 := m11.k k4 (by decide)
      cases r10 with
      | none =>
        have h := h.1 rfl
        refine lv_astoreN (lv' := [(6, .null), (0, .ref b0), (1, .ref b1), (2, .int x2), (3, .int x3), (4, .int x4), (5, .int x5)]) X.1.1 X.1.2.1 dX6_comeToAll_21 hl (by decide) rfl (fun ls hl => ?_)
        refine lv_aloadN X.1.1 X.1.2.1 dX6_comeToAll_23 (lv_at hl 0 rfl) ?_
        refine lv_ifnullN (tgt := 51) X.1.1 X.1.2.1 dX6_comeToAll_25 (by decide) ?_
        refine lv_iinc (v := (x5 + (1 : Int32))) (lv' := [(5, .int (x5 + (1 : Int32))), (6, .null), (0, .ref b0), (1, .ref b1), (2, .int x2), (3, .int x3), (4, .int x4)]) X.1.1 X.1.2.1 dX6_comeToAll_51 hl (k := 6) rfl (congrArg (HAdd.hAdd _) (by decide)) (by decide) rfl (fun ls hl => ?_)
        refine lv_goto (tgt := 3) X.1.1 X.1.2.1 dX6_comeToAll_54 (by decide) ?_
        exact ih S9 b0 b1 x2 x3 x4 (x5 + (1 : Int32)) h _ _ _ V (lv_sub hl [2, 3, 4, 5, 6, 0] rfl)
      | some o12 =>
        have h := h.2 o12 rfl
        refine lv_astore (lv' := [(6, .ref o12), (0, .ref b0), (1, .ref b1), (2, .int x2), (3, .int x3), (4, .int x4), (5, .int x5)]) X.1.1 X.1.2.1 dX6_comeToAll_21 hl (by decide) rfl (fun ls hl => ?_)
        refine lv_aload X.1.1 X.1.2.1 dX6_comeToAll_23 (lv_at hl 0 rfl) ?_
        refine lv_ifnull X.1.1 X.1.2.1 dX6_comeToAll_25 ?_
        refine lv_iload X.1.1 X.1.2.1 dX6_comeToAll_28 (lv_at hl 6 rfl) ?_
        refine lv_iload X.1.1 X.1.2.1 dX6_comeToAll_30 (lv_at hl 5 rfl) ?_
        refine lv_icmp_eq (tgt := 51) X.1.1 X.1.2.1 dX6_comeToAll_32 (by decide) (fun c14 => ?_) (fun c14 => ?_)
        · have h := h.1 c14
          refine lv_iinc (v := (x5 + (1 : Int32))) (lv' := [(5, .int (x5 + (1 : Int32))), (6, .ref o12), (0, .ref b0), (1, .ref b1), (2, .int x2), (3, .int x3), (4, .int x4)]) X.1.1 X.1.2.1 dX6_comeToAll_51 hl (k := 6) rfl (congrArg (HAdd.hAdd _) (by decide)) (by decide) rfl (fun ls hl => ?_)
          refine lv_goto (tgt := 3) X.1.1 X.1.2.1 dX6_comeToAll_54 (by decide) ?_
          exact ih S9 b0 b1 x2 x3 x4 (x5 + (1 : Int32)) h _ _ _ V (lv_sub hl [2, 3, 4, 5, 6, 0] rfl)
        · have h := h.2 c14
          refine lv_aload X.1.1 X.1.2.1 dX6_comeToAll_35 (lv_at hl 0 rfl) ?_
          refine lv_iload_n X.1.1 X.1.2.1 dX6_comeToAll_37 rfl (lv_at hl 3 rfl) ?_
          refine lv_iload_n X.1.1 X.1.2.1 dX6_comeToAll_38 rfl (lv_at hl 4 rfl) ?_
          obtain ⟨k15, h⟩ := h
          refine r_callV (k := 6) (n := 2) (As := [.int x2, .int x3]) X V (sd_X4_isThere l D ka _ S9 _ o12 x2 x3 h) k15 (by decide) (by decide) rfl wd_300 wd_301 wd_256 wd_302 wd_303 rfl rfl (by decide +kernel) ⟨Nat.le_of_ble_eq_true rfl, Nat.le_of_ble_eq_true rfl⟩ rfl hl.1 rfl (Nat.le_of_ble_eq_true rfl) dX6_comeToAll_39 ⟨show 0 ≤ 0 by omega, show 0 ≤ 0 by omega⟩ (fun r17 S16 H locs h m18 V => ?_)
          have k1 := m18.k k1 (by decide)
          have k4 := m18.k k4 (by decide)
          have k15 := m18.k k15 (by decide)
          refine lv_if_eq (tgt := 51) X.1.1 X.1.2.1 dX6_comeToAll_42 (by decide) (fun c19 => ?_) (fun c19 => ?_)
          · have h := h.1 c19
            refine lv_iinc (v := (x5 + (1 : Int32))) (lv' := [(5, .int (x5 + (1 : Int32))), (6, .ref o12), (0, .ref b0), (1, .ref b1), (2, .int x2), (3, .int x3), (4, .int x4)]) X.1.1 X.1.2.1 dX6_comeToAll_51 hl (k := 6) rfl (congrArg (HAdd.hAdd _) (by decide)) (by decide) rfl (fun ls hl => ?_)
            refine lv_goto (tgt := 3) X.1.1 X.1.2.1 dX6_comeToAll_54 (by decide) ?_
            exact ih S16 b0 b1 x2 x3 x4 (x5 + (1 : Int32)) h _ _ _ V (lv_sub hl [2, 3, 4, 5, 6, 0] rfl)
          · have h := h.2 c19
            refine lv_aload X.1.1 X.1.2.1 dX6_comeToAll_45 (lv_at hl 0 rfl) ?_
            refine lv_aload_n X.1.1 X.1.2.1 dX6_comeToAll_47 rfl (lv_at hl 2 rfl) ?_
            refine r_callV (k := 6) (n := 1) (As := [.ref b1]) X V (sd_X4_take l D ka _ S16 _ o12 b1 h) k15 (by decide) (by decide) rfl wd_304 wd_305 wd_256 wd_306 wd_307 rfl rfl (by decide +kernel) ⟨Nat.le_of_ble_eq_true rfl, Nat.le_of_ble_eq_true rfl⟩ rfl hl.1 rfl (Nat.le_of_ble_eq_true rfl) dX6_comeToAll_48 ⟨show 0 ≤ 0 by omega, show 0 ≤ 0 by omega⟩ (fun r21 S20 H locs h m22 V => ?_)
            have k1 := m22.k k1 (by decide)
            have k4 := m22.k k4 (by decide)
            have k15 := m22.k k15 (by decide)
            refine lv_iinc (v := (x5 + (1 : Int32))) (lv' := [(5, .int (x5 + (1 : Int32))), (6, .ref o12), (0, .ref b0), (1, .ref b1), (2, .int x2), (3, .int x3), (4, .int x4)]) X.1.1 X.1.2.1 dX6_comeToAll_51 hl (k := 6) rfl (congrArg (HAdd.hAdd _) (by decide)) (by decide) rfl (fun ls hl => ?_)
            refine lv_goto (tgt := 3) X.1.1 X.1.2.1 dX6_comeToAll_54 (by decide) ?_
            exact ih S20 b0 b1 x2 x3 x4 (x5 + (1 : Int32)) h _ _ _ V (lv_sub hl [2, 3, 4, 5, 6, 0] rfl)
def wp_X6_comeToAll (post : Unit → HS → Prop) (S : HS) (a0 : Nat) (a1 : Nat) (v2 : Int32) (v3 : Int32) (v4 : Int32) : Prop := ∃ n9, wp_X6_comeToAll_3 n9 post S a0 a1 v2 v3 v4 (0 : Int32)
set_option maxHeartbeats 400000 in
set_option maxRecDepth 100000 in
theorem sd_X6_comeToAll (l : Launch) (D : va_G) (ka : Nat → ClassId) (sz : Nat) (Z : HS) (post : Unit → HS → Prop) (a0 : Nat) (a1 : Nat) (v2 : Int32) (v3 : Int32) (v4 : Int32) (h : wp_X6_comeToAll post Z a0 a1 v2 v3 v4) : Met l yX6_comeToAll [Cond.code yX6_comeToAll cX6_comeToAll 7 none] rm_X6_comeToAll (Px D ka Z sz [.ref a0, .ref a1, .int v2, .int v3, .int v4]) (Qx eV post D ka Z sz) 0 0 (fA Z sz) := by
  refine Met.ofW (cc := cX6_comeToAll) (maxL := 7) (ret := none) (by decide) rfl ?_
  intro p e s m args below meth c s₁ B hml hv
  obtain ⟨rfl, X, V, hsz⟩ := Cx.entry B hml hv
  have hr : meth.sig.returnType = none := B.returns
  have hl := lv_entry ([.ref a0, .ref a1, .int v2, .int v3, .int v4]) (n := 7) (Nat.le_of_ble_eq_true rfl)
  rw [lg_entry_eq]
  generalize (lg_sl ([.ref a0, .ref a1, .int v2, .int v3, .int v4]) ++ List.replicate (7 - (lg_sl ([.ref a0, .ref a1, .int v2, .int v3, .int v4])).length) Slot.unset).toArray = ls at hl ⊢
  have hl : lv_has ls 7 [(0, .ref a0), (1, .ref a1), (2, .int v2), (3, .int v3), (4, .int v4)] := hl
  have h : wp_X6_comeToAll post Z a0 a1 v2 v3 v4 := h
  refine lv_iconst (v := (0 : Int32)) X.1.1 X.1.2.1 dX6_comeToAll_0 (by decide) ?_
  refine lv_istore (lv' := [(5, .int (0 : Int32)), (0, .ref a0), (1, .ref a1), (2, .int v2), (3, .int v3), (4, .int v4)]) X.1.1 X.1.2.1 dX6_comeToAll_1 hl (by decide) rfl (fun ls hl => ?_)
  obtain ⟨n9, h⟩ := h
  exact sl_X6_comeToAll_3 l D ka sz Z post X hr n9 Z a0 a1 v2 v3 v4 (0 : Int32) h _ _ _ V (lv_sub hl [1, 2, 3, 4, 5, 0] rfl)
abbrev rm_X6_hasNet : Room := { frames := 4, cells := 0, slots := 0, locals := 85 }
def wp_X6_hasNet_2 : Nat → (Int32 → HS → Prop) → HS → Nat → Int32 → Int32 → Int32 → Prop
  | 0, _, _, _, _, _, _ => False
  | n + 1, post, S, b0, x1, x2, x3 => kd S b0 = 7 ∧ (∃ o2 : Nat, fr S 22 b0 = some o2 ∧ (kd S o2 = 1 ∧ (wp_Jx4a65c_size_8abf5 (fun r6 S5 => ((r6 ≤ x3 → post (0 : Int32) S5) ∧ (¬ r6 ≤ x3 → wp_X6_stationAt (fun r10 S9 => ((r10 = none → wp_X6_hasNet_2 n post S9 b0 x1 x2 (x3 + (1 : Int32))) ∧ (∀ o12 : Nat, r10 = some o12 → kd S9 o12 = 6 ∧ (wp_X4_isThere (fun r16 S15 => ((r16 = 0 → wp_X6_hasNet_2 n post S15 b0 x1 x2 (x3 + (1 : Int32))) ∧ (¬ r16 = 0 → post (1 : Int32) S15))) S9 o12 x1 x2)))) S5 b0 x3))) S o2)))
set_option maxHeartbeats 400000 in
set_option maxRecDepth 100000 in
theorem sl_X6_hasNet_2 (l : Launch) (D : va_G) (ka : Nat → ClassId) (sz : Nat) (Z : HS) (post : Int32 → HS → Prop) {p : Program} {e : Env} {s : State} {m : MethodId} {args : Array Value} {below : List Frame} {meth : Method} {c : Code} (X : Cx p s m meth c cX6_hasNet 5 RX6 D ka Z (fA Z sz)) (hr : meth.sig.returnType = (some .boolean))  : ∀ (n : Nat), ∀ (S : HS) (b0 : Nat) (x1 : Int32) (x2 : Int32) (x3 : Int32), wp_X6_hasNet_2 n post S b0 x1 x2 x3 → ∀ (H : Heap) (locs : List Loc) (ls : Array Slot), Hv D ka Z s (fA Z sz) S H locs → lv_has ls 5 [(0, .ref b0), (1, .int x1), (2, .int x2), (3, .int x3)] → W p l e rm_X6_hasNet s m args below meth c H locs 0 0 (MQ below (Qx eI post D ka Z sz) args s 0 0 (fA Z sz)) (F0 m 2 ls []) := by
  intro n
  induction n with
  | zero => intro S b0 x1 x2 x3 h; exact h.elim
  | succ n ih =>
    intro S b0 x1 x2 x3 h H locs ls V hl
    refine lv_iload_n X.1.1 X.1.2.1 dX6_hasNet_2 rfl (lv_at hl 3 rfl) ?_
    refine lv_aload_n X.1.1 X.1.2.1 dX6_hasNet_3 rfl (lv_at hl 0 rfl) ?_
    obtain ⟨k1, h⟩ := h
    obtain ⟨o2, e3, h⟩ := h
    refine gf_X6_18 X V k1 e3 dX6_hasNet_4 ?_
    obtain ⟨k4, h⟩ := h
    refine r_callV (k := 1) (n := 0) (As := []) X V (sd_Jx4a65c_size_8abf5 l D ka _ S _ o2 h) k4 (by decide) (by decide) rfl wd_108 wd_253 wd_39 wd_110 wd_111 rfl rfl (by decide +kernel) ⟨Nat.le_of_ble_eq_true rfl, Nat.le_of_ble_eq_true rfl⟩ rfl hl.1 rfl (Nat.le_of_ble_eq_true rfl) dX6_hasNet_7 ⟨show 0 ≤ 0 by omega, show 0 ≤ 0 by omega⟩ (fun r6 S5 H locs h m7 V => ?_)
    have k1 := m7.k k1 (by decide)
    have k4 := m7.k k4 (by decide)
    refine lv_icmp_ge (tgt := 43) X.1.1 X.1.2.1 dX6_hasNet_10 (by decide) (fun c8 => ?_) (fun c8 => ?_)
    · have h := h.1 c8
      refine lv_iconst (v := (0 : Int32)) X.1.1 X.1.2.1 dX6_hasNet_43 (by decide) ?_
      exact W.zret X.1.1 X.1.2.1 hr (by decide) (fun t ht _ => V.q (r := (0 : Int32)) h ht) V.2.1.2.2 dX6_hasNet_44 X.1.2.2.2.2
    · have h := h.2 c8
      refine lv_aload_n X.1.1 X.1.2.1 dX6_hasNet_13 rfl (lv_at hl 0 rfl) ?_
      refine lv_iload_n X.1.1 X.1.2.1 dX6_hasNet_14 rfl (lv_at hl 3 rfl) ?_
      refine r_callV (k := 7) (n := 1) (As := [.int x3]) X V (sd_X6_stationAt l D ka _ S5 _ b0 x3 h) k1 (by decide) (by decide) rfl wd_265 wd_266 wd_249 wd_267 wd_268 rfl rfl (by decide +kernel) ⟨Nat.le_of_ble_eq_true rfl, Nat.le_of_ble_eq_true rfl⟩ rfl hl.1 rfl (Nat.le_of_ble_eq_true rfl) dX6_hasNet_15 ⟨show 0 ≤ 0 by omega, show 0 ≤ 0 by omega⟩ (fun r10 S9 H locs h m11 V => ?_)
      have k1 := m11.k k1 (by decide)
      have k4 := m11.k k4 (by decide)
      cases r10 with
      | none =>
        have h := h.1 rfl
        refine lv_astoreN (lv' := [(4, .null), (0, .ref b0), (1, .int x1), (2, .int x2), (3, .int x3)]) X.1.1 X.1.2.1 dX6_hasNet_18 hl (by decide) rfl (fun ls hl => ?_)
        refine lv_aloadN X.1.1 X.1.2.1 dX6_hasNet_20 (lv_at hl 0 rfl) ?_
        refine lv_ifnullN (tgt := 37) X.1.1 X.1.2.1 dX6_hasNet_22 (by decide) ?_
        refine lv_iinc (v := (x3 + (1 : Int32))) (lv' := [(3, .int (x3 + (1 : Int32))), (4, .null), (0, .ref b0), (1, .int x1), (2, .int x2)]) X.1.1 X.1.2.1 dX6_hasNet_37 hl (k := 4) rfl (congrArg (HAdd.hAdd _) (by decide)) (by decide) rfl (fun ls hl => ?_)
        refine lv_goto (tgt := 2) X.1.1 X.1.2.1 dX6_hasNet_40 (by decide) ?_
        exact ih S9 b0 x1 x2 (x3 + (1 : Int32)) h _ _ _ V (lv_sub hl [2, 3, 4, 0] rfl)
      | some o12 =>
        have h := h.2 o12 rfl
        refine lv_astore (lv' := [(4, .ref o12), (0, .ref b0), (1, .int x1), (2, .int x2), (3, .int x3)]) X.1.1 X.1.2.1 dX6_hasNet_18 hl (by decide) rfl (fun ls hl => ?_)
        refine lv_aload X.1.1 X.1.2.1 dX6_hasNet_20 (lv_at hl 0 rfl) ?_
        refine lv_ifnull X.1.1 X.1.2.1 dX6_hasNet_22 ?_
        refine lv_aload X.1.1 X.1.2.1 dX6_hasNet_25 (lv_at hl 0 rfl) ?_
        refine lv_iload_n X.1.1 X.1.2.1 dX6_hasNet_27 rfl (lv_at hl 2 rfl) ?_
        refine lv_iload_n X.1.1 X.1.2.1 dX6_hasNet_28 rfl (lv_at hl 3 rfl) ?_
        obtain ⟨k14, h⟩ := h
        refine r_callV (k := 6) (n := 2) (As := [.int x1, .int x2]) X V (sd_X4_isThere l D ka _ S9 _ o12 x1 x2 h) k14 (by decide) (by decide) rfl wd_300 wd_301 wd_256 wd_302 wd_303 rfl rfl (by decide +kernel) ⟨Nat.le_of_ble_eq_true rfl, Nat.le_of_ble_eq_true rfl⟩ rfl hl.1 rfl (Nat.le_of_ble_eq_true rfl) dX6_hasNet_29 ⟨show 0 ≤ 0 by omega, show 0 ≤ 0 by omega⟩ (fun r16 S15 H locs h m17 V => ?_)
        have k1 := m17.k k1 (by decide)
        have k4 := m17.k k4 (by decide)
        have k14 := m17.k k14 (by decide)
        refine lv_if_eq (tgt := 37) X.1.1 X.1.2.1 dX6_hasNet_32 (by decide) (fun c18 => ?_) (fun c18 => ?_)
        · have h := h.1 c18
          refine lv_iinc (v := (x3 + (1 : Int32))) (lv' := [(3, .int (x3 + (1 : Int32))), (4, .ref o12), (0, .ref b0), (1, .int x1), (2, .int x2)]) X.1.1 X.1.2.1 dX6_hasNet_37 hl (k := 4) rfl (congrArg (HAdd.hAdd _) (by decide)) (by decide) rfl (fun ls hl => ?_)
          refine lv_goto (tgt := 2) X.1.1 X.1.2.1 dX6_hasNet_40 (by decide) ?_
          exact ih S15 b0 x1 x2 (x3 + (1 : Int32)) h _ _ _ V (lv_sub hl [2, 3, 4, 0] rfl)
        · have h := h.2 c18
          refine lv_iconst (v := (1 : Int32)) X.1.1 X.1.2.1 dX6_hasNet_35 (by decide) ?_
          exact W.zret X.1.1 X.1.2.1 hr (by decide) (fun t ht _ => V.q (r := (1 : Int32)) h ht) V.2.1.2.2 dX6_hasNet_36 X.1.2.2.2.2
def wp_X6_hasNet (post : Int32 → HS → Prop) (S : HS) (a0 : Nat) (v1 : Int32) (v2 : Int32) : Prop := ∃ n9, wp_X6_hasNet_2 n9 post S a0 v1 v2 (0 : Int32)
set_option maxHeartbeats 400000 in
set_option maxRecDepth 100000 in
theorem sd_X6_hasNet (l : Launch) (D : va_G) (ka : Nat → ClassId) (sz : Nat) (Z : HS) (post : Int32 → HS → Prop) (a0 : Nat) (v1 : Int32) (v2 : Int32) (h : wp_X6_hasNet post Z a0 v1 v2) : Met l yX6_hasNet [Cond.code yX6_hasNet cX6_hasNet 5 (some .boolean)] rm_X6_hasNet (Px D ka Z sz [.ref a0, .int v1, .int v2]) (Qx eI post D ka Z sz) 0 0 (fA Z sz) := by
  refine Met.ofW (cc := cX6_hasNet) (maxL := 5) (ret := (some .boolean)) (by decide) rfl ?_
  intro p e s m args below meth c s₁ B hml hv
  obtain ⟨rfl, X, V, hsz⟩ := Cx.entry B hml hv
  have hr : meth.sig.returnType = (some .boolean) := B.returns
  have hl := lv_entry ([.ref a0, .int v1, .int v2]) (n := 5) (Nat.le_of_ble_eq_true rfl)
  rw [lg_entry_eq]
  generalize (lg_sl ([.ref a0, .int v1, .int v2]) ++ List.replicate (5 - (lg_sl ([.ref a0, .int v1, .int v2])).length) Slot.unset).toArray = ls at hl ⊢
  have hl : lv_has ls 5 [(0, .ref a0), (1, .int v1), (2, .int v2)] := hl
  have h : wp_X6_hasNet post Z a0 v1 v2 := h
  refine lv_iconst (v := (0 : Int32)) X.1.1 X.1.2.1 dX6_hasNet_0 (by decide) ?_
  refine lv_istore_n (lv' := [(3, .int (0 : Int32)), (0, .ref a0), (1, .int v1), (2, .int v2)]) X.1.1 X.1.2.1 dX6_hasNet_1 rfl hl (by decide) rfl (fun ls hl => ?_)
  obtain ⟨n9, h⟩ := h
  exact sl_X6_hasNet_2 l D ka sz Z post X hr n9 Z a0 v1 v2 (0 : Int32) h _ _ _ V (lv_sub hl [1, 2, 3, 0] rfl)
abbrev rm_X6_launch : Room := { frames := 7, cells := 4, slots := 204, locals := 171 }
def wp_X6_launch (post : Unit → HS → Prop) (S : HS) (a0 : Nat) (a1 : Nat) (v2 : Int32) (a3 : Nat) (v4 : Int32) : Prop := kd S a3 = 2 ∧ (wp_X0_wayTo (fun r3 S2 => wp_X5_wrap (fun r6 S5 => ∃ o8 : Nat, r6 = some o8 ∧ (kd (sfi S5 6 a3 ((fi S5 6 a3) + (1 : Int32))) a0 = 7 ∧ (∃ o11 : Nat, fr (sfi S5 6 a3 ((fi S5 6 a3) + (1 : Int32))) 23 a0 = some o11 ∧ (∀ o13 : Nat, kd (sfi S5 6 a3 ((fi S5 6 a3) + (1 : Int32))) o13 = 0 → (wp_X2_init (fun _ S16 => kd S16 o11 = 1 ∧ (wp_Jx4a65c_add_9ea2d (fun r21 S20 => wp_X6_tally (fun _ S23 => ∃ o26 : Nat, fr S23 23 a0 = some o26 ∧ (kd S23 o26 = 1 ∧ (wp_Jx4a65c_size_8abf5 (fun r30 S29 => ((r30 ≤ (50 : Int32) → post () S29) ∧ (¬ r30 ≤ (50 : Int32) → ∃ o33 : Nat, fr S29 23 a0 = some o33 ∧ (kd S29 o33 = 1 ∧ (wp_Jx4a65c_remove_915e3 (fun r37 S36 => ∃ o39 : Nat, r37 = some o39 ∧ (wp_X6_tally (fun _ S41 => post () S41) S36 a0 (10 : Int32))) S29 o33 (0 : Int32)))))) S23 o26))) S20 a0 (0 : Int32)) S16 o11 o13)) (snw (sfi S5 6 a3 ((fi S5 6 a3) + (1 : Int32))) o13 4 0) o13 o8 v4))))) S2 a1 v2 r3 (fi S2 6 a3) (fi S2 3 a3) v4) S a3 v4)
set_option maxHeartbeats 400000 in
set_option maxRecDepth 100000 in
theorem sd_X6_launch (l : Launch) (D : va_G) (ka : Nat → ClassId) (sz : Nat) (Z : HS) (post : Unit → HS → Prop) (a0 : Nat) (a1 : Nat) (v2 : Int32) (a3 : Nat) (v4 : Int32) (h : wp_X6_launch post Z a0 a1 v2 a3 v4) : Met l yX6_launch [Cond.code yX6_launch cX6_launch 6 none] rm_X6_launch (Px D ka Z sz [.ref a0, .ref a1, .int v2, .ref a3, .int v4]) (Qx eV post D ka Z sz) 4 204 (fA Z sz) := by
  refine Met.ofW (cc := cX6_launch) (maxL := 6) (ret := none) (by decide) rfl ?_
  intro p e s m args below meth c s₁ B hml hv
  obtain ⟨rfl, X, V, hsz⟩ := Cx.entry B hml hv
  have hr : meth.sig.returnType = none := B.returns
  have hl := lv_entry ([.ref a0, .ref a1, .int v2, .ref a3, .int v4]) (n := 6) (Nat.le_of_ble_eq_true rfl)
  rw [lg_entry_eq]
  generalize (lg_sl ([.ref a0, .ref a1, .int v2, .ref a3, .int v4]) ++ List.replicate (6 - (lg_sl ([.ref a0, .ref a1, .int v2, .ref a3, .int v4])).length) Slot.unset).toArray = ls at hl ⊢
  have hl : lv_has ls 6 [(0, .ref a0), (1, .ref a1), (2, .int v2), (3, .ref a3), (4, .int v4)] := hl
  have h : wp_X6_launch post Z a0 a1 v2 a3 v4 := h
  refine lv_aload_n X.1.1 X.1.2.1 dX6_launch_0 rfl (lv_at hl 1 rfl) ?_
  refine lv_iload_n X.1.1 X.1.2.1 dX6_launch_1 rfl (lv_at hl 2 rfl) ?_
  refine lv_aload_n X.1.1 X.1.2.1 dX6_launch_2 rfl (lv_at hl 3 rfl) ?_
  refine lv_iload X.1.1 X.1.2.1 dX6_launch_3 (lv_at hl 4 rfl) ?_
  obtain ⟨k1, h⟩ := h
  refine r_callV (k := 2) (n := 1) (As := [.int v4]) X V (sd_X0_wayTo l D ka _ Z _ a3 v4 h) k1 (by decide) (by decide) rfl wd_308 wd_309 wd_119 wd_310 wd_311 rfl rfl (by decide +kernel) ⟨Nat.le_of_ble_eq_true rfl, Nat.le_of_ble_eq_true rfl⟩ rfl hl.1 rfl (Nat.le_of_ble_eq_true rfl) dX6_launch_5 ⟨show 0 ≤ 4 by omega, show 0 ≤ 204 by omega⟩ (fun r3 S2 H locs h m4 V => ?_)
  have k1 := m4.k k1 (by decide)
  refine lv_aload_n X.1.1 X.1.2.1 dX6_launch_8 rfl (lv_at hl 3 rfl) ?_
  refine gf_X6_241 X V k1 dX6_launch_9 ?_
  refine lv_aload_n X.1.1 X.1.2.1 dX6_launch_12 rfl (lv_at hl 3 rfl) ?_
  refine gf_X6_114 X V k1 dX6_launch_13 ?_
  refine lv_iload X.1.1 X.1.2.1 dX6_launch_16 (lv_at hl 4 rfl) ?_
  refine r_callS (n := 6) (As := [.ref a1, .int v2, .int r3, .int (fi S2 6 a3), .int (fi S2 3 a3), .int v4]) X V (sd_X5_wrap l D ka _ S2 _ a1 v2 r3 (fi S2 6 a3) (fi S2 3 a3) v4 h) wd_314 wd_315 wd_126 wd_316 rfl rfl (by decide +kernel) ⟨Nat.le_of_ble_eq_true rfl, Nat.le_of_ble_eq_true rfl⟩ rfl hl.1 rfl (Nat.le_of_ble_eq_true rfl) dX6_launch_18 ⟨show 2 ≤ 4 by omega, show 122 ≤ 204 by omega⟩ (fun r6 S5 H locs h m7 V => ?_)
  have k1 := m7.k k1 (by decide)
  refine W.widen (k := 2) (n := 122) (by omega) (by omega) ?_
  obtain ⟨o8, e9, h⟩ := h
  subst e9
  refine lv_astore (lv' := [(5, .ref o8), (0, .ref a0), (1, .ref a1), (2, .int v2), (3, .ref a3), (4, .int v4)]) X.1.1 X.1.2.1 dX6_launch_21 hl (by decide) rfl (fun ls hl => ?_)
  refine lv_aload_n X.1.1 X.1.2.1 dX6_launch_23 rfl (lv_at hl 4 rfl) ?_
  refine lv_dup X.1.1 X.1.2.1 dX6_launch_24 rfl ?_
  refine gf_X6_241 X V k1 dX6_launch_25 ?_
  refine lv_iconst (v := (1 : Int32)) X.1.1 X.1.2.1 dX6_launch_28 (by decide) ?_
  refine lv_iadd X.1.1 X.1.2.1 dX6_launch_29 ?_
  refine pf_X6_241 X V k1 dX6_launch_30 (fun H locs V => ?_)
  refine lv_aload_n X.1.1 X.1.2.1 dX6_launch_33 rfl (lv_at hl 1 rfl) ?_
  obtain ⟨k10, h⟩ := h
  obtain ⟨o11, e12, h⟩ := h
  refine gf_X6_22 X V k10 e12 dX6_launch_34 ?_
  refine nw_X6_146 X V (show 3 ≤ 4 by omega) (show 124 ≤ 204 by omega) dX6_launch_37 (fun o13 H z14 V => ?_)
  have h := h o13 z14
  have k1 := (mono.snw (k := 4) (n := 0) z14).k k1 (by decide)
  have k10 := (mono.snw (k := 4) (n := 0) z14).k k10 (by decide)
  refine W.widen (k := 3) (n := 124) (by omega) (by omega) ?_
  have k15 : kd (snw (sfi S5 6 a3 ((fi S5 6 a3) + (1 : Int32))) o13 4 0) o13 = 4 := va_up_self _ _ _
  refine lv_dup X.1.1 X.1.2.1 dX6_launch_40 rfl ?_
  refine lv_aload X.1.1 X.1.2.1 dX6_launch_41 (lv_at hl 0 rfl) ?_
  refine lv_iload X.1.1 X.1.2.1 dX6_launch_43 (lv_at hl 5 rfl) ?_
  refine r_callI (n := 2) (As := [.ref o8, .int v4]) X V (sd_X2_init l D ka _ (snw (sfi S5 6 a3 ((fi S5 6 a3) + (1 : Int32))) o13 4 0) _ o13 o8 v4 h) wd_320 wd_321 wd_319 wd_322 rfl rfl rfl (by decide +kernel) ⟨Nat.le_of_ble_eq_true rfl, Nat.le_of_ble_eq_true rfl⟩ rfl hl.1 rfl (Nat.le_of_ble_eq_true rfl) dX6_launch_45 ⟨show 3 ≤ 4 by omega, show 124 ≤ 204 by omega⟩ (fun r17 S16 H locs h m18 V => ?_)
  have k1 := m18.k k1 (by decide)
  have k10 := m18.k k10 (by decide)
  have k15 := m18.k k15 (by decide)
  obtain ⟨k19, h⟩ := h
  refine r_callV (k := 1) (n := 1) (As := [.ref o13]) X V (sd_Jx4a65c_add_9ea2d l D ka _ S16 _ o11 o13 h) k19 (by decide) (by decide) rfl wd_260 wd_261 wd_39 wd_262 wd_263 rfl rfl (by decide +kernel) ⟨Nat.le_of_ble_eq_true rfl, Nat.le_of_ble_eq_true rfl⟩ rfl hl.1 rfl (Nat.le_of_ble_eq_true rfl) dX6_launch_48 ⟨show 4 ≤ 4 by omega, show 204 ≤ 204 by omega⟩ (fun r21 S20 H locs h m22 V => ?_)
  have k1 := m22.k k1 (by decide)
  have k10 := m22.k k10 (by decide)
  have k15 := m22.k k15 (by decide)
  have k19 := m22.k k19 (by decide)
  refine W.widen (k := 4) (n := 204) (by omega) (by omega) ?_
  refine lv_pop X.1.1 X.1.2.1 dX6_launch_51 rfl ?_
  refine lv_aload_n X.1.1 X.1.2.1 dX6_launch_52 rfl (lv_at hl 1 rfl) ?_
  refine lv_iconst (v := (0 : Int32)) X.1.1 X.1.2.1 dX6_launch_53 (by decide) ?_
  refine r_callV (k := 7) (n := 1) (As := [.int (0 : Int32)]) X V (sd_X6_tally l D ka _ S20 _ a0 (0 : Int32) h) k10 (by decide) (by decide) rfl wd_285 wd_286 wd_249 wd_287 wd_288 rfl rfl (by decide +kernel) ⟨Nat.le_of_ble_eq_true rfl, Nat.le_of_ble_eq_true rfl⟩ rfl hl.1 rfl (Nat.le_of_ble_eq_true rfl) dX6_launch_54 ⟨show 4 ≤ 4 by omega, show 204 ≤ 204 by omega⟩ (fun r24 S23 H locs h m25 V => ?_)
  have k1 := m25.k k1 (by decide)
  have k10 := m25.k k10 (by decide)
  have k15 := m25.k k15 (by decide)
  have k19 := m25.k k19 (by decide)
  refine lv_aload_n X.1.1 X.1.2.1 dX6_launch_57 rfl (lv_at hl 1 rfl) ?_
  obtain ⟨o26, e27, h⟩ := h
  refine gf_X6_22 X V k10 e27 dX6_launch_58 ?_
  obtain ⟨k28, h⟩ := h
  refine r_callV (k := 1) (n := 0) (As := []) X V (sd_Jx4a65c_size_8abf5 l D ka _ S23 _ o26 h) k28 (by decide) (by decide) rfl wd_108 wd_253 wd_39 wd_110 wd_111 rfl rfl (by decide +kernel) ⟨Nat.le_of_ble_eq_true rfl, Nat.le_of_ble_eq_true rfl⟩ rfl hl.1 rfl (Nat.le_of_ble_eq_true rfl) dX6_launch_61 ⟨show 4 ≤ 4 by omega, show 204 ≤ 204 by omega⟩ (fun r30 S29 H locs h m31 V => ?_)
  have k1 := m31.k k1 (by decide)
  have k10 := m31.k k10 (by decide)
  have k15 := m31.k k15 (by decide)
  have k19 := m31.k k19 (by decide)
  have k28 := m31.k k28 (by decide)
  refine lv_bipush (v := (50 : Int32)) X.1.1 X.1.2.1 dX6_launch_64 (by decide) ?_
  refine lv_icmp_le (tgt := 84) X.1.1 X.1.2.1 dX6_launch_66 (by decide) (fun c32 => ?_) (fun c32 => ?_)
  · have h := h.1 c32
    refine W.widen (k := 4) (n := 204) (by omega) (by omega) ?_
    exact W.vret X.1.1 X.1.2.1 hr (fun t ht _ => V.q (r := ()) h ht) V.2.1.2.2 dX6_launch_84 X.1.2.2.2.2
  · have h := h.2 c32
    refine lv_aload_n X.1.1 X.1.2.1 dX6_launch_69 rfl (lv_at hl 1 rfl) ?_
    obtain ⟨o33, e34, h⟩ := h
    refine gf_X6_22 X V k10 e34 dX6_launch_70 ?_
    refine lv_iconst (v := (0 : Int32)) X.1.1 X.1.2.1 dX6_launch_73 (by decide) ?_
    obtain ⟨k35, h⟩ := h
    refine r_callV (k := 1) (n := 1) (As := [.int (0 : Int32)]) X V (sd_Jx4a65c_remove_915e3 l D ka _ S29 _ o33 (0 : Int32) h) k35 (by decide) (by decide) rfl wd_133 wd_323 wd_39 wd_135 wd_136 rfl rfl (by decide +kernel) ⟨Nat.le_of_ble_eq_true rfl, Nat.le_of_ble_eq_true rfl⟩ rfl hl.1 rfl (Nat.le_of_ble_eq_true rfl) dX6_launch_74 ⟨show 4 ≤ 4 by omega, show 204 ≤ 204 by omega⟩ (fun r37 S36 H locs h m38 V => ?_)
    have k1 := m38.k k1 (by decide)
    have k10 := m38.k k10 (by decide)
    have k15 := m38.k k15 (by decide)
    have k19 := m38.k k19 (by decide)
    have k28 := m38.k k28 (by decide)
    have k35 := m38.k k35 (by decide)
    obtain ⟨o39, e40, h⟩ := h
    subst e40
    refine lv_pop X.1.1 X.1.2.1 dX6_launch_77 rfl ?_
    refine lv_aload_n X.1.1 X.1.2.1 dX6_launch_78 rfl (lv_at hl 1 rfl) ?_
    refine lv_bipush (v := (10 : Int32)) X.1.1 X.1.2.1 dX6_launch_79 (by decide) ?_
    refine r_callV (k := 7) (n := 1) (As := [.int (10 : Int32)]) X V (sd_X6_tally l D ka _ S36 _ a0 (10 : Int32) h) k10 (by decide) (by decide) rfl wd_285 wd_286 wd_249 wd_287 wd_288 rfl rfl (by decide +kernel) ⟨Nat.le_of_ble_eq_true rfl, Nat.le_of_ble_eq_true rfl⟩ rfl hl.1 rfl (Nat.le_of_ble_eq_true rfl) dX6_launch_81 ⟨show 4 ≤ 4 by omega, show 204 ≤ 204 by omega⟩ (fun r42 S41 H locs h m43 V => ?_)
    have k1 := m43.k k1 (by decide)
    have k10 := m43.k k10 (by decide)
    have k15 := m43.k k15 (by decide)
    have k19 := m43.k k19 (by decide)
    have k28 := m43.k k28 (by decide)
    have k35 := m43.k k35 (by decide)
    refine W.widen (k := 4) (n := 204) (by omega) (by omega) ?_
    exact W.vret X.1.1 X.1.2.1 hr (fun t ht _ => V.q (r := ()) h ht) V.2.1.2.2 dX6_launch_84 X.1.2.2.2.2
abbrev rm_X6_launchToAll : Room := { frames := 8, cells := 40, slots := 2040, locals := 196 }
def wp_X6_launchToAll_6 : Nat → (Int32 → HS → Prop) → HS → Nat → Nat → Nat → Int32 → Int32 → Int32 → Prop
  | 0, _, _, _, _, _, _, _, _ => False
  | n + 1, post, S, b0, b1, b2, x3, x4, x5 => kd S b0 = 7 ∧ ((((fi S 26 b0) ≤ x5 → post x4 S) ∧ (¬ (fi S 26 b0) ≤ x5 → kd S b2 = 2 ∧ (((x5 = (fi S 3 b2) → wp_X6_launchToAll_6 n post S b0 b1 b2 x3 x4 (x5 + (1 : Int32))) ∧ (¬ x5 = (fi S 3 b2) → wp_X6_hasNet (fun r6 S5 => ((r6 = 0 → wp_X6_launchToAll_6 n post S5 b0 b1 b2 x3 x4 (x5 + (1 : Int32))) ∧ (¬ r6 = 0 → wp_X6_launch (fun _ S9 => wp_X6_launchToAll_6 n post S9 b0 b1 b2 x3 (x4 + (1 : Int32)) (x5 + (1 : Int32))) S5 b0 b1 x3 b2 x5))) S b0 x5 x3))))))
set_option maxHeartbeats 400000 in
set_option maxRecDepth 100000 in
theorem sl_X6_launchToAll_6 (l : Launch) (D : va_G) (ka : Nat → ClassId) (sz : Nat) (Z : HS) (post : Int32 → HS → Prop) {p : Program} {e : Env} {s : State} {m : MethodId} {args : Array Value} {below : List Frame} {meth : Method} {c : Code} (X : Cx p s m meth c cX6_launchToAll 6 RX6 D ka Z (fA Z sz)) (hr : meth.sig.returnType = (some .int))  : ∀ (n : Nat) (S : HS) (b0 : Nat) (b1 : Nat) (b2 : Nat) (x3 : Int32) (x4 : Int32) (x5 : Int32), wp_X6_launchToAll_6 n post S b0 b1 b2 x3 x4 x5 → ∀ (cq sq : Nat), cq + n * 4 + 4 ≤ 40 → sq + n * 204 + 204 ≤ 2040 → ∀ (H : Heap) (locs : List Loc) (ls : Array Slot), Hv D ka Z s (fA Z sz) S H locs → lv_has ls 6 [(0, .ref b0), (1, .ref b1), (2, .ref b2), (3, .int x3), (4, .int x4), (5, .int x5)] → W p l e rm_X6_launchToAll s m args below meth c H locs cq sq (MQ below (Qx eI post D ka Z sz) args s 40 2040 (fA Z sz)) (F0 m 6 ls []) := by
  intro n
  induction n with
  | zero => intro S b0 b1 b2 x3 x4 x5 h; exact h.elim
  | succ n ih =>
    intro S b0 b1 b2 x3 x4 x5 h cq sq hcq hsq H locs ls V hl
    refine lv_iload X.1.1 X.1.2.1 dX6_launchToAll_6 (lv_at hl 5 rfl) ?_
    refine lv_aload_n X.1.1 X.1.2.1 dX6_launchToAll_8 rfl (lv_at hl 0 rfl) ?_
    obtain ⟨k1, h⟩ := h
    refine gf_X6_38 X V k1 dX6_launchToAll_9 ?_
    refine lv_icmp_ge (tgt := 52) X.1.1 X.1.2.1 dX6_launchToAll_12 (by decide) (fun c2 => ?_) (fun c2 => ?_)
    · have h := h.1 c2
      refine lv_iload X.1.1 X.1.2.1 dX6_launchToAll_52 (lv_at hl 4 rfl) ?_
      refine W.widen (k := 40) (n := 2040) (by omega) (by omega) ?_
      exact W.iret X.1.1 X.1.2.1 hr (fun t ht _ => V.q (r := x4) h ht) V.2.1.2.2 dX6_launchToAll_54 X.1.2.2.2.2
    · have h := h.2 c2
      refine lv_iload X.1.1 X.1.2.1 dX6_launchToAll_15 (lv_at hl 5 rfl) ?_
      refine lv_aload_n X.1.1 X.1.2.1 dX6_launchToAll_17 rfl (lv_at hl 2 rfl) ?_
      obtain ⟨k3, h⟩ := h
      refine gf_X6_114 X V k3 dX6_launchToAll_18 ?_
      refine lv_icmp_eq (tgt := 46) X.1.1 X.1.2.1 dX6_launchToAll_21 (by decide) (fun c4 => ?_) (fun c4 => ?_)
      · have h := h.1 c4
        refine lv_iinc (v := (x5 + (1 : Int32))) (lv' := [(5, .int (x5 + (1 : Int32))), (0, .ref b0), (1, .ref b1), (2, .ref b2), (3, .int x3), (4, .int x4)]) X.1.1 X.1.2.1 dX6_launchToAll_46 hl (k := 5) rfl (congrArg (HAdd.hAdd _) (by decide)) (by decide) rfl (fun ls hl => ?_)
        refine lv_goto (tgt := 6) X.1.1 X.1.2.1 dX6_launchToAll_49 (by decide) ?_
        refine W.widen (k := cq) (n := sq) (by omega) (by omega) ?_
        exact ih S b0 b1 b2 x3 x4 (x5 + (1 : Int32)) h _ _ (by omega) (by omega) _ _ _ V (lv_sub hl [1, 2, 3, 4, 5, 0] rfl)
      · have h := h.2 c4
        refine lv_aload_n X.1.1 X.1.2.1 dX6_launchToAll_24 rfl (lv_at hl 0 rfl) ?_
        refine lv_iload X.1.1 X.1.2.1 dX6_launchToAll_25 (lv_at hl 5 rfl) ?_
        refine lv_iload_n X.1.1 X.1.2.1 dX6_launchToAll_27 rfl (lv_at hl 3 rfl) ?_
        refine r_callV (k := 7) (n := 2) (As := [.int x5, .int x3]) X V (sd_X6_hasNet l D ka _ S _ b0 x5 x3 h) k1 (by decide) (by decide) rfl wd_324 wd_325 wd_249 wd_326 wd_327 rfl rfl (by decide +kernel) ⟨Nat.le_of_ble_eq_true rfl, Nat.le_of_ble_eq_true rfl⟩ rfl hl.1 rfl (Nat.le_of_ble_eq_true rfl) dX6_launchToAll_28 ⟨show cq ≤ 40 by omega, show sq ≤ 2040 by omega⟩ (fun r6 S5 H locs h m7 V => ?_)
        have k1 := m7.k k1 (by decide)
        have k3 := m7.k k3 (by decide)
        refine lv_if_eq (tgt := 46) X.1.1 X.1.2.1 dX6_launchToAll_31 (by decide) (fun c8 => ?_) (fun c8 => ?_)
        · have h := h.1 c8
          refine lv_iinc (v := (x5 + (1 : Int32))) (lv' := [(5, .int (x5 + (1 : Int32))), (0, .ref b0), (1, .ref b1), (2, .ref b2), (3, .int x3), (4, .int x4)]) X.1.1 X.1.2.1 dX6_launchToAll_46 hl (k := 5) rfl (congrArg (HAdd.hAdd _) (by decide)) (by decide) rfl (fun ls hl => ?_)
          refine lv_goto (tgt := 6) X.1.1 X.1.2.1 dX6_launchToAll_49 (by decide) ?_
          refine W.widen (k := cq) (n := sq) (by omega) (by omega) ?_
          exact ih S5 b0 b1 b2 x3 x4 (x5 + (1 : Int32)) h _ _ (by omega) (by omega) _ _ _ V (lv_sub hl [1, 2, 3, 4, 5, 0] rfl)
        · have h := h.2 c8
          refine lv_aload_n X.1.1 X.1.2.1 dX6_launchToAll_34 rfl (lv_at hl 0 rfl) ?_
          refine lv_aload_n X.1.1 X.1.2.1 dX6_launchToAll_35 rfl (lv_at hl 1 rfl) ?_
          refine lv_iload_n X.1.1 X.1.2.1 dX6_launchToAll_36 rfl (lv_at hl 3 rfl) ?_
          refine lv_aload_n X.1.1 X.1.2.1 dX6_launchToAll_37 rfl (lv_at hl 2 rfl) ?_
          refine lv_iload X.1.1 X.1.2.1 dX6_launchToAll_38 (lv_at hl 5 rfl) ?_
          refine r_callV (k := 7) (n := 4) (As := [.ref b1, .int x3, .ref b2, .int x5]) X V (sd_X6_launch l D ka _ S5 _ b0 b1 x3 b2 x5 h) k1 (by decide) (by decide) rfl wd_328 wd_329 wd_249 wd_330 wd_331 rfl rfl (by decide +kernel) ⟨Nat.le_of_ble_eq_true rfl, Nat.le_of_ble_eq_true rfl⟩ rfl hl.1 rfl (Nat.le_of_ble_eq_true rfl) dX6_launchToAll_40 ⟨show cq + 4 ≤ 40 by omega, show sq + 204 ≤ 2040 by omega⟩ (fun r10 S9 H locs h m11 V => ?_)
          have k1 := m11.k k1 (by decide)
          have k3 := m11.k k3 (by decide)
          refine W.widen (k := cq + 4) (n := sq + 204) (by omega) (by omega) ?_
          refine lv_iinc (v := (x4 + (1 : Int32))) (lv' := [(4, .int (x4 + (1 : Int32))), (0, .ref b0), (1, .ref b1), (2, .ref b2), (3, .int x3), (5, .int x5)]) X.1.1 X.1.2.1 dX6_launchToAll_43 hl (k := 4) rfl (congrArg (HAdd.hAdd _) (by decide)) (by decide) rfl (fun ls hl => ?_)
          refine lv_iinc (v := (x5 + (1 : Int32))) (lv' := [(5, .int (x5 + (1 : Int32))), (4, .int (x4 + (1 : Int32))), (0, .ref b0), (1, .ref b1), (2, .ref b2), (3, .int x3)]) X.1.1 X.1.2.1 dX6_launchToAll_46 hl (k := 5) rfl (congrArg (HAdd.hAdd _) (by decide)) (by decide) rfl (fun ls hl => ?_)
          refine lv_goto (tgt := 6) X.1.1 X.1.2.1 dX6_launchToAll_49 (by decide) ?_
          refine W.widen (k := cq + 4) (n := sq + 204) (by omega) (by omega) ?_
          exact ih S9 b0 b1 b2 x3 (x4 + (1 : Int32)) (x5 + (1 : Int32)) h _ _ (by omega) (by omega) _ _ _ V (lv_sub hl [2, 3, 4, 5, 1, 0] rfl)
def wp_X6_launchToAll (post : Int32 → HS → Prop) (S : HS) (a0 : Nat) (a1 : Nat) (a2 : Nat) (v3 : Int32) : Prop := ∃ n9, n9 ≤ 9 ∧ wp_X6_launchToAll_6 n9 post S a0 a1 a2 v3 (0 : Int32) (0 : Int32)
set_option maxHeartbeats 400000 in
set_option maxRecDepth 100000 in
theorem sd_X6_launchToAll (l : Launch) (D : va_G) (ka : Nat → ClassId) (sz : Nat) (Z : HS) (post : Int32 → HS → Prop) (a0 : Nat) (a1 : Nat) (a2 : Nat) (v3 : Int32) (h : wp_X6_launchToAll post Z a0 a1 a2 v3) : Met l yX6_launchToAll [Cond.code yX6_launchToAll cX6_launchToAll 6 (some .int)] rm_X6_launchToAll (Px D ka Z sz [.ref a0, .ref a1, .ref a2, .int v3]) (Qx eI post D ka Z sz) 40 2040 (fA Z sz) := by
  refine Met.ofW (cc := cX6_launchToAll) (maxL := 6) (ret := (some .int)) (by decide) rfl ?_
  intro p e s m args below meth c s₁ B hml hv
  obtain ⟨rfl, X, V, hsz⟩ := Cx.entry B hml hv
  have hr : meth.sig.returnType = (some .int) := B.returns
  have hl := lv_entry ([.ref a0, .ref a1, .ref a2, .int v3]) (n := 6) (Nat.le_of_ble_eq_true rfl)
  rw [lg_entry_eq]
  generalize (lg_sl ([.ref a0, .ref a1, .ref a2, .int v3]) ++ List.replicate (6 - (lg_sl ([.ref a0, .ref a1, .ref a2, .int v3])).length) Slot.unset).toArray = ls at hl ⊢
  have hl : lv_has ls 6 [(0, .ref a0), (1, .ref a1), (2, .ref a2), (3, .int v3)] := hl
  have h : wp_X6_launchToAll post Z a0 a1 a2 v3 := h
  refine lv_iconst (v := (0 : Int32)) X.1.1 X.1.2.1 dX6_launchToAll_0 (by decide) ?_
  refine lv_istore (lv' := [(4, .int (0 : Int32)), (0, .ref a0), (1, .ref a1), (2, .ref a2), (3, .int v3)]) X.1.1 X.1.2.1 dX6_launchToAll_1 hl (by decide) rfl (fun ls hl => ?_)
  refine lv_iconst (v := (0 : Int32)) X.1.1 X.1.2.1 dX6_launchToAll_3 (by decide) ?_
  refine lv_istore (lv' := [(5, .int (0 : Int32)), (4, .int (0 : Int32)), (0, .ref a0), (1, .ref a1), (2, .ref a2), (3, .int v3)]) X.1.1 X.1.2.1 dX6_launchToAll_4 hl (by decide) rfl (fun ls hl => ?_)
  obtain ⟨n9, hn9, h⟩ := h
  exact sl_X6_launchToAll_6 l D ka sz Z post X hr n9 Z a0 a1 a2 v3 (0 : Int32) (0 : Int32) h _ _ (by have := hn9; omega) (by have := hn9; omega) _ _ _ V (lv_sub hl [2, 3, 4, 5, 1, 0] rfl)
abbrev rm_X6_comeToOne : Room := { frames := 4, cells := 0, slots := 0, locals := 85 }
def wp_X6_comeToOne (post : Unit → HS → Prop) (S : HS) (a0 : Nat) (a1 : Nat) (v2 : Int32) (v3 : Int32) : Prop := kd S a0 = 7 ∧ (wp_X6_stationAt (fun r3 S2 => ((r3 = none → post () S2) ∧ (∀ o5 : Nat, r3 = some o5 → kd S2 o5 = 6 ∧ (((¬ (fi S2 19 o5) = v2 → post () S2) ∧ ((fi S2 19 o5) = v2 → wp_X4_take (fun _ S9 => post () S9) S2 o5 a1)))))) S a0 v3)
set_option maxHeartbeats 400000 in
set_option maxRecDepth 100000 in
theorem sd_X6_comeToOne (l : Launch) (D : va_G) (ka : Nat → ClassId) (sz : Nat) (Z : HS) (post : Unit → HS → Prop) (a0 : Nat) (a1 : Nat) (v2 : Int32) (v3 : Int32) (h : wp_X6_comeToOne post Z a0 a1 v2 v3) : Met l yX6_comeToOne [Cond.code yX6_comeToOne cX6_comeToOne 5 none] rm_X6_comeToOne (Px D ka Z sz [.ref a0, .ref a1, .int v2, .int v3]) (Qx eV post D ka Z sz) 0 0 (fA Z sz) := by
  refine Met.ofW (cc := cX6_comeToOne) (maxL := 5) (ret := none) (by decide) rfl ?_
  intro p e s m args below meth c s₁ B hml hv
  obtain ⟨rfl, X, V, hsz⟩ := Cx.entry B hml hv
  have hr : meth.sig.returnType = none := B.returns
  have hl := lv_entry ([.ref a0, .ref a1, .int v2, .int v3]) (n := 5) (Nat.le_of_ble_eq_true rfl)
  rw [lg_entry_eq]
  generalize (lg_sl ([.ref a0, .ref a1, .int v2, .int v3]) ++ List.replicate (5 - (lg_sl ([.ref a0, .ref a1, .int v2, .int v3])).length) Slot.unset).toArray = ls at hl ⊢
  have hl : lv_has ls 5 [(0, .ref a0), (1, .ref a1), (2, .int v2), (3, .int v3)] := hl
  have h : wp_X6_comeToOne post Z a0 a1 v2 v3 := h
  refine lv_aload_n X.1.1 X.1.2.1 dX6_comeToOne_0 rfl (lv_at hl 0 rfl) ?_
  refine lv_iload_n X.1.1 X.1.2.1 dX6_comeToOne_1 rfl (lv_at hl 3 rfl) ?_
  obtain ⟨k1, h⟩ := h
  refine r_callV (k := 7) (n := 1) (As := [.int v3]) X V (sd_X6_stationAt l D ka _ Z _ a0 v3 h) k1 (by decide) (by decide) rfl wd_265 wd_266 wd_249 wd_267 wd_268 rfl rfl (by decide +kernel) ⟨Nat.le_of_ble_eq_true rfl, Nat.le_of_ble_eq_true rfl⟩ rfl hl.1 rfl (Nat.le_of_ble_eq_true rfl) dX6_comeToOne_2 ⟨show 0 ≤ 0 by omega, show 0 ≤ 0 by omega⟩ (fun r3 S2 H locs h m4 V => ?_)
  have k1 := m4.k k1 (by decide)
  cases r3 with
  | none =>
    have h := h.1 rfl
    refine lv_astoreN (lv' := [(4, .null), (0, .ref a0), (1, .ref a1), (2, .int v2), (3, .int v3)]) X.1.1 X.1.2.1 dX6_comeToOne_5 hl (by decide) rfl (fun ls hl => ?_)
    refine lv_aloadN X.1.1 X.1.2.1 dX6_comeToOne_7 (lv_at hl 0 rfl) ?_
    refine lv_ifnullN (tgt := 27) X.1.1 X.1.2.1 dX6_comeToOne_9 (by decide) ?_
    exact W.vret X.1.1 X.1.2.1 hr (fun t ht _ => V.q (r := ()) h ht) V.2.1.2.2 dX6_comeToOne_27 X.1.2.2.2.2
  | some o5 =>
    have h := h.2 o5 rfl
    refine lv_astore (lv' := [(4, .ref o5), (0, .ref a0), (1, .ref a1), (2, .int v2), (3, .int v3)]) X.1.1 X.1.2.1 dX6_comeToOne_5 hl (by decide) rfl (fun ls hl => ?_)
    refine lv_aload X.1.1 X.1.2.1 dX6_comeToOne_7 (lv_at hl 0 rfl) ?_
    refine lv_ifnull X.1.1 X.1.2.1 dX6_comeToOne_9 ?_
    refine lv_aload X.1.1 X.1.2.1 dX6_comeToOne_12 (lv_at hl 0 rfl) ?_
    obtain ⟨k7, h⟩ := h
    refine gf_X6_71 X V k7 dX6_comeToOne_14 ?_
    refine lv_iload_n X.1.1 X.1.2.1 dX6_comeToOne_17 rfl (lv_at hl 3 rfl) ?_
    refine lv_icmp_ne (tgt := 27) X.1.1 X.1.2.1 dX6_comeToOne_18 (by decide) (fun c8 => ?_) (fun c8 => ?_)
    · have h := h.1 c8
      exact W.vret X.1.1 X.1.2.1 hr (fun t ht _ => V.q (r := ()) h ht) V.2.1.2.2 dX6_comeToOne_27 X.1.2.2.2.2
    · have h := h.2 c8
      refine lv_aload X.1.1 X.1.2.1 dX6_comeToOne_21 (lv_at hl 0 rfl) ?_
      refine lv_aload_n X.1.1 X.1.2.1 dX6_comeToOne_23 rfl (lv_at hl 2 rfl) ?_
      refine r_callV (k := 6) (n := 1) (As := [.ref a1]) X V (sd_X4_take l D ka _ S2 _ o5 a1 h) k7 (by decide) (by decide) rfl wd_304 wd_305 wd_256 wd_306 wd_307 rfl rfl (by decide +kernel) ⟨Nat.le_of_ble_eq_true rfl, Nat.le_of_ble_eq_true rfl⟩ rfl hl.1 rfl (Nat.le_of_ble_eq_true rfl) dX6_comeToOne_24 ⟨show 0 ≤ 0 by omega, show 0 ≤ 0 by omega⟩ (fun r10 S9 H locs h m11 V => ?_)
      have k1 := m11.k k1 (by decide)
      have k7 := m11.k k7 (by decide)
      exact W.vret X.1.1 X.1.2.1 hr (fun t ht _ => V.q (r := ()) h ht) V.2.1.2.2 dX6_comeToOne_27 X.1.2.2.2.2
abbrev rm_X6_send : Room := { frames := 9, cells := 44, slots := 2247, locals := 221 }
def wp_X6_send (post : Int32 → HS → Prop) (S : HS) (a0 : Nat) (v1 : Int32) (w2 : Int64) (v4 : Int32) : Prop := kd S a0 = 7 ∧ (wp_X6_stationAt (fun r3 S2 => ((r3 = none → post (-1 : Int32) S2) ∧ (∀ o5 : Nat, r3 = some o5 → (((lg_cmp w2 (0 : Int64)) < 0 → post (-1 : Int32) S2) ∧ (¬ (lg_cmp w2 (0 : Int64)) < 0 → ((0 < (lg_cmp w2 (281474976710655 : Int64)) → post (-1 : Int32) S2) ∧ (¬ 0 < (lg_cmp w2 (281474976710655 : Int64)) → ((v4 < 0 → post (-1 : Int32) S2) ∧ (¬ v4 < 0 → ((v4 ≤ (65535 : Int32) → kd S2 o5 = 6 ∧ (wp_X6_endpointAt (fun r13 S12 => ((r13 = none → post (-1 : Int32) S12) ∧ (∀ o15 : Nat, r13 = some o15 → ∃ o17 : Nat, fr S12 24 a0 = some o17 ∧ (kd S12 o17 = 5 ∧ ((((fi S12 15 o17) ≤ (40 : Int32) → ∃ o21 : Nat, fr S12 24 a0 = some o21 ∧ (wp_X5_frameOf (fun r24 S23 => ∃ o26 : Nat, r24 = some o26 ∧ (∃ o28 : Nat, fr S23 24 a0 = some o28 ∧ (kd S23 o28 = 5 ∧ (wp_X3_clear (fun _ S31 => ∀ o34 : Nat, kd S31 o34 = 0 → (wp_X1_init (fun _ S37 => wp_X6_learn (fun _ S40 => kd S40 o15 = 2 ∧ (wp_X0_whereIs (fun r45 S44 => ((r45 = none → wp_X6_comeToAll (fun _ S49 => wp_X6_launchToAll (fun r53 S52 => post r53 S52) S49 a0 o26 o15 (fi S49 16 o5)) S44 a0 o26 (fi S44 3 o15) (fi S44 16 o5) v1) ∧ (∀ o47 : Nat, r45 = some o47 → kd S44 o47 = 3 ∧ (((¬ (fi S44 10 o47) = (-1 : Int32) → (((fi S44 10 o47) = v1 → post (0 : Int32) S44) ∧ (¬ (fi S44 10 o47) = v1 → wp_X6_comeToOne (fun _ S58 => post (0 : Int32) S58) S44 a0 o26 (fi S44 3 o15) (fi S44 10 o47)))) ∧ ((fi S44 10 o47) = (-1 : Int32) → wp_X6_launch (fun _ S61 => post (1 : Int32) S61) S44 a0 o26 (fi S44 16 o5) o15 (fi S44 9 o47))))))) S40 o15 (fi S40 16 o5) w2)) S37 a0 o15 o34) (snw S31 o34 3 0) o34 (fi (snw S31 o34 3 0) 16 o5) (fl (snw S31 o34 3 0) 17 o5) (-1 : Int32) v1)) S23 o28)))) S12 w2 (fl S12 17 o5) v4 o21)) ∧ (¬ (fi S12 15 o17) ≤ (40 : Int32) → post (-1 : Int32) S12))))))) S2 a0 (fi S2 19 o5))) ∧ (¬ v4 ≤ (65535 : Int32) → post (-1 : Int32) S2))))))))))) S a0 v1)
set_option maxHeartbeats 400000 in
set_option maxRecDepth 100000 in
theorem sd_X6_send (l : Launch) (D : va_G) (ka : Nat → ClassId) (sz : Nat) (Z : HS) (post : Int32 → HS → Prop) (a0 : Nat) (v1 : Int32) (w2 : Int64) (v4 : Int32) (h : wp_X6_send post Z a0 v1 w2 v4) : Met l yX6_send [Cond.code yX6_send cX6_send 9 (some .int)] rm_X6_send (Px D ka Z sz [.ref a0, .int v1, .long w2, .int v4]) (Qx eI post D ka Z sz) 44 2247 (fA Z sz) := by
  refine Met.ofW (cc := cX6_send) (maxL := 9) (ret := (some .int)) (by decide) rfl ?_
  intro p e s m args below meth c s₁ B hml hv
  obtain ⟨rfl, X, V, hsz⟩ := Cx.entry B hml hv
  have hr : meth.sig.returnType = (some .int) := B.returns
  have hl := lv_entry ([.ref a0, .int v1, .long w2, .int v4]) (n := 9) (Nat.le_of_ble_eq_true rfl)
  rw [lg_entry_eq]
  generalize (lg_sl ([.ref a0, .int v1, .long w2, .int v4]) ++ List.replicate (9 - (lg_sl ([.ref a0, .int v1, .long w2, .int v4])).length) Slot.unset).toArray = ls at hl ⊢
  have hl : lv_has ls 9 [(0, .ref a0), (1, .int v1), (2, .long w2), (4, .int v4)] := hl
  have h : wp_X6_send post Z a0 v1 w2 v4 := h
  refine lv_aload_n X.1.1 X.1.2.1 dX6_send_0 rfl (lv_at hl 0 rfl) ?_
  refine lv_iload_n X.1.1 X.1.2.1 dX6_send_1 rfl (lv_at hl 1 rfl) ?_
  obtain ⟨k1, h⟩ := h
  refine r_callV (k := 7) (n := 1) (As := [.int v1]) X V (sd_X6_stationAt l D ka _ Z _ a0 v1 h) k1 (by decide) (by decide) rfl wd_265 wd_266 wd_249 wd_267 wd_268 rfl rfl (by decide +kernel) ⟨Nat.le_of_ble_eq_true rfl, Nat.le_of_ble_eq_true rfl⟩ rfl hl.1 rfl (Nat.le_of_ble_eq_true rfl) dX6_send_2 ⟨show 0 ≤ 44 by omega, show 0 ≤ 2247 by omega⟩ (fun r3 S2 H locs h m4 V => ?_)
  have k1 := m4.k k1 (by decide)
  cases r3 with
  | none =>
    have h := h.1 rfl
    refine lv_astoreN (lv' := [(5, .null), (0, .ref a0), (1, .int v1), (2, .long w2), (4, .int v4)]) X.1.1 X.1.2.1 dX6_send_5 hl (by decide) rfl (fun ls hl => ?_)
    refine lv_aloadN X.1.1 X.1.2.1 dX6_send_7 (lv_at hl 0 rfl) ?_
    refine lv_ifnullN (tgt := 38) X.1.1 X.1.2.1 dX6_send_9 (by decide) ?_
    refine lv_iconst (v := (-1 : Int32)) X.1.1 X.1.2.1 dX6_send_38 (by decide) ?_
    refine W.widen (k := 44) (n := 2247) (by omega) (by omega) ?_
    exact W.iret X.1.1 X.1.2.1 hr (fun t ht _ => V.q (r := (-1 : Int32)) h ht) V.2.1.2.2 dX6_send_39 X.1.2.2.2.2
  | some o5 =>
    have h := h.2 o5 rfl
    refine lv_astore (lv' := [(5, .ref o5), (0, .ref a0), (1, .int v1), (2, .long w2), (4, .int v4)]) X.1.1 X.1.2.1 dX6_send_5 hl (by decide) rfl (fun ls hl => ?_)
    refine lv_aload X.1.1 X.1.2.1 dX6_send_7 (lv_at hl 0 rfl) ?_
    refine lv_ifnull X.1.1 X.1.2.1 dX6_send_9 ?_
    refine lv_lload_n X.1.1 X.1.2.1 dX6_send_12 rfl (lv_at hl 3 rfl) ?_
    refine lv_lconst (v := (0 : Int64)) X.1.1 X.1.2.1 dX6_send_13 (by decide) ?_
    refine W.lcmp X.1.1 X.1.2.1 dX6_send_14 ?_
    refine lv_if_lt (tgt := 38) X.1.1 X.1.2.1 dX6_send_15 (by decide) (fun c7 => ?_) (fun c7 => ?_)
    · have h := h.1 c7
      refine lv_iconst (v := (-1 : Int32)) X.1.1 X.1.2.1 dX6_send_38 (by decide) ?_
      refine W.widen (k := 44) (n := 2247) (by omega) (by omega) ?_
      exact W.iret X.1.1 X.1.2.1 hr (fun t ht _ => V.q (r := (-1 : Int32)) h ht) V.2.1.2.2 dX6_send_39 X.1.2.2.2.2
    · have h := h.2 c7
      refine lv_lload_n X.1.1 X.1.2.1 dX6_send_18 rfl (lv_at hl 3 rfl) ?_
      refine lv_ldc2 (v := (281474976710655 : Int64)) X.1.1 X.1.2.1 X.1.2.2.2.1 (X.w wd_332 rfl _) dX6_send_19 ?_
      refine W.lcmp X.1.1 X.1.2.1 dX6_send_22 ?_
      refine lv_if_gt (tgt := 38) X.1.1 X.1.2.1 dX6_send_23 (by decide) (fun c8 => ?_) (fun c8 => ?_)
      · have h := h.1 c8
        refine lv_iconst (v := (-1 : Int32)) X.1.1 X.1.2.1 dX6_send_38 (by decide) ?_
        refine W.widen (k := 44) (n := 2247) (by omega) (by omega) ?_
        exact W.iret X.1.1 X.1.2.1 hr (fun t ht _ => V.q (r := (-1 : Int32)) h ht) V.2.1.2.2 dX6_send_39 X.1.2.2.2.2
      · have h := h.2 c8
        refine lv_iload X.1.1 X.1.2.1 dX6_send_26 (lv_at hl 4 rfl) ?_
        refine lv_if_lt (tgt := 38) X.1.1 X.1.2.1 dX6_send_28 (by decide) (fun c9 => ?_) (fun c9 => ?_)
        · have h := h.1 c9
          refine lv_iconst (v := (-1 : Int32)) X.1.1 X.1.2.1 dX6_send_38 (by decide) ?_
          refine W.widen (k := 44) (n := 2247) (by omega) (by omega) ?_
          exact W.iret X.1.1 X.1.2.1 hr (fun t ht _ => V.q (r := (-1 : Int32)) h ht) V.2.1.2.2 dX6_send_39 X.1.2.2.2.2
        · have h := h.2 c9
          refine lv_iload X.1.1 X.1.2.1 dX6_send_31 (lv_at hl 4 rfl) ?_
          refine lv_ldc (v := (65535 : Int32)) X.1.1 X.1.2.1 X.1.2.2.2.1 (X.w wd_333 rfl _) dX6_send_33 ?_
          refine lv_icmp_le (tgt := 40) X.1.1 X.1.2.1 dX6_send_35 (by decide) (fun c10 => ?_) (fun c10 => ?_)
          · have h := h.1 c10
            refine lv_aload_n X.1.1 X.1.2.1 dX6_send_40 rfl (lv_at hl 1 rfl) ?_
            refine lv_aload X.1.1 X.1.2.1 dX6_send_41 (lv_at hl 0 rfl) ?_
            obtain ⟨k11, h⟩ := h
            refine gf_X6_71 X V k11 dX6_send_43 ?_
            refine r_callV (k := 7) (n := 1) (As := [.int (fi S2 19 o5)]) X V (sd_X6_endpointAt l D ka _ S2 _ a0 (fi S2 19 o5) h) k1 (by decide) (by decide) rfl wd_247 wd_248 wd_249 wd_250 wd_251 rfl rfl (by decide +kernel) ⟨Nat.le_of_ble_eq_true rfl, Nat.le_of_ble_eq_true rfl⟩ rfl hl.1 rfl (Nat.le_of_ble_eq_true rfl) dX6_send_46 ⟨show 0 ≤ 44 by omega, show 0 ≤ 2247 by omega⟩ (fun r13 S12 H locs h m14 V => ?_)
            have k1 := m14.k k1 (by decide)
            have k11 := m14.k k11 (by decide)
            cases r13 with
            | none =>
              have h := h.1 rfl
              refine lv_astoreN (lv' := [(6, .null), (5, .ref o5), (0, .ref a0), (1, .int v1), (2, .long w2), (4, .int v4)]) X.1.1 X.1.2.1 dX6_send_49 hl (by decide) rfl (fun ls hl => ?_)
              refine lv_aloadN X.1.1 X.1.2.1 dX6_send_51 (lv_at hl 0 rfl) ?_
              refine lv_ifnullN (tgt := 68) X.1.1 X.1.2.1 dX6_send_53 (by decide) ?_
              refine lv_iconst (v := (-1 : Int32)) X.1.1 X.1.2.1 dX6_send_68 (by decide) ?_
              refine W.widen (k := 44) (n := 2247) (by omega) (by omega) ?_
              exact W.iret X.1.1 X.1.2.1 hr (fun t ht _ => V.q (r := (-1 : Int32)) h ht) V.2.1.2.2 dX6_send_69 X.1.2.2.2.2
            | some o15 =>
              have h := h.2 o15 rfl
              refine lv_astore (lv' := [(6, .ref o15), (5, .ref o5), (0, .ref a0), (1, .int v1), (2, .long w2), (4, .int v4)]) X.1.1 X.1.2.1 dX6_send_49 hl (by decide) rfl (fun ls hl => ?_)
              refine lv_aload X.1.1 X.1.2.1 dX6_send_51 (lv_at hl 0 rfl) ?_
              refine lv_ifnull X.1.1 X.1.2.1 dX6_send_53 ?_
              refine lv_aload_n X.1.1 X.1.2.1 dX6_send_56 rfl (lv_at hl 2 rfl) ?_
              obtain ⟨o17, e18, h⟩ := h
              refine gf_X6_30 X V k1 e18 dX6_send_57 ?_
              obtain ⟨k19, h⟩ := h
              refine gf_X6_80 X V k19 dX6_send_60 ?_
              refine lv_bipush (v := (40 : Int32)) X.1.1 X.1.2.1 dX6_send_63 (by decide) ?_
              refine lv_icmp_le (tgt := 70) X.1.1 X.1.2.1 dX6_send_65 (by decide) (fun c20 => ?_) (fun c20 => ?_)
              · have h := h.1 c20
                refine lv_lload_n X.1.1 X.1.2.1 dX6_send_70 rfl (lv_at hl 4 rfl) ?_
                refine lv_aload X.1.1 X.1.2.1 dX6_send_71 (lv_at hl 1 rfl) ?_
                refine gf_X6_89 X V k11 dX6_send_73 ?_
                refine lv_iload X.1.1 X.1.2.1 dX6_send_76 (lv_at hl 5 rfl) ?_
                refine lv_aload_n X.1.1 X.1.2.1 dX6_send_78 rfl (lv_at hl 2 rfl) ?_
                obtain ⟨o21, e22, h⟩ := h
                refine gf_X6_30 X V k1 e22 dX6_send_79 ?_
                refine r_callS (n := 4) (As := [.long w2, .long (fl S12 17 o5), .int v4, .ref o21]) X V (sd_X5_frameOf l D ka _ S12 _ w2 (fl S12 17 o5) v4 o21 h) wd_335 wd_336 wd_126 wd_337 rfl rfl (by decide +kernel) ⟨Nat.le_of_ble_eq_true rfl, Nat.le_of_ble_eq_true rfl⟩ rfl hl.1 rfl (Nat.le_of_ble_eq_true rfl) dX6_send_82 ⟨show 2 ≤ 44 by omega, show 122 ≤ 2247 by omega⟩ (fun r24 S23 H locs h m25 V => ?_)
                have k1 := m25.k k1 (by decide)
                have k11 := m25.k k11 (by decide)
                have k19 := m25.k k19 (by decide)
                refine W.widen (k := 2) (n := 122) (by omega) (by omega) ?_
                obtain ⟨o26, e27, h⟩ := h
                subst e27
                refine lv_astore (lv' := [(7, .ref o26), (6, .ref o15), (5, .ref o5), (0, .ref a0), (1, .int v1), (2, .long w2), (4, .int v4)]) X.1.1 X.1.2.1 dX6_send_85 hl (by decide) rfl (fun ls hl => ?_)
                refine lv_aload_n X.1.1 X.1.2.1 dX6_send_87 rfl (lv_at hl 3 rfl) ?_
                obtain ⟨o28, e29, h⟩ := h
                refine gf_X6_30 X V k1 e29 dX6_send_88 ?_
                obtain ⟨k30, h⟩ := h
                refine r_callV (k := 5) (n := 0) (As := []) X V (sd_X3_clear l D ka _ S23 _ o28 h) k30 (by decide) (by decide) rfl wd_338 wd_339 wd_8 wd_340 wd_341 rfl rfl (by decide +kernel) ⟨Nat.le_of_ble_eq_true rfl, Nat.le_of_ble_eq_true rfl⟩ rfl hl.1 rfl (Nat.le_of_ble_eq_true rfl) dX6_send_91 ⟨show 2 ≤ 44 by omega, show 122 ≤ 2247 by omega⟩ (fun r32 S31 H locs h m33 V => ?_)
                have k1 := m33.k k1 (by decide)
                have k11 := m33.k k11 (by decide)
                have k19 := m33.k k19 (by decide)
                have k30 := m33.k k30 (by decide)
                refine lv_aload_n X.1.1 X.1.2.1 dX6_send_94 rfl (lv_at hl 3 rfl) ?_
                refine lv_aload X.1.1 X.1.2.1 dX6_send_95 (lv_at hl 1 rfl) ?_
                refine nw_X6_98 X V (show 3 ≤ 44 by omega) (show 127 ≤ 2247 by omega) dX6_send_97 (fun o34 H z35 V => ?_)
                have h := h o34 z35
                have k1 := (mono.snw (k := 3) (n := 0) z35).k k1 (by decide)
                have k11 := (mono.snw (k := 3) (n := 0) z35).k k11 (by decide)
                have k19 := (mono.snw (k := 3) (n := 0) z35).k k19 (by decide)
                have k30 := (mono.snw (k := 3) (n := 0) z35).k k30 (by decide)
                refine W.widen (k := 3) (n := 127) (by omega) (by omega) ?_
                have k36 : kd (snw S31 o34 3 0) o34 = 3 := va_up_self _ _ _
                refine lv_dup X.1.1 X.1.2.1 dX6_send_100 rfl ?_
                refine lv_aload X.1.1 X.1.2.1 dX6_send_101 (lv_at hl 2 rfl) ?_
                refine gf_X6_100 X V k11 dX6_send_103 ?_
                refine lv_aload X.1.1 X.1.2.1 dX6_send_106 (lv_at hl 2 rfl) ?_
                refine gf_X6_89 X V k11 dX6_send_108 ?_
                refine lv_iconst (v := (-1 : Int32)) X.1.1 X.1.2.1 dX6_send_111 (by decide) ?_
                refine lv_iload_n X.1.1 X.1.2.1 dX6_send_112 rfl (lv_at hl 4 rfl) ?_
                refine r_callI (n := 4) (As := [.int (fi (snw S31 o34 3 0) 16 o5), .long (fl (snw S31 o34 3 0) 17 o5), .int (-1 : Int32), .int v1]) X V (sd_X1_init l D ka _ (snw S31 o34 3 0) _ o34 (fi (snw S31 o34 3 0) 16 o5) (fl (snw S31 o34 3 0) 17 o5) (-1 : Int32) v1 h) wd_345 wd_346 wd_296 wd_347 rfl rfl rfl (by decide +kernel) ⟨Nat.le_of_ble_eq_true rfl, Nat.le_of_ble_eq_true rfl⟩ rfl hl.1 rfl (Nat.le_of_ble_eq_true rfl) dX6_send_113 ⟨show 3 ≤ 44 by omega, show 127 ≤ 2247 by omega⟩ (fun r38 S37 H locs h m39 V => ?_)
                have k1 := m39.k k1 (by decide)
                have k11 := m39.k k11 (by decide)
                have k19 := m39.k k19 (by decide)
                have k30 := m39.k k30 (by decide)
                have k36 := m39.k k36 (by decide)
                refine r_callV (k := 7) (n := 2) (As := [.ref o15, .ref o34]) X V (sd_X6_learn l D ka _ S37 _ a0 o15 o34 h) k1 (by decide) (by decide) rfl wd_348 wd_349 wd_249 wd_350 wd_351 rfl rfl (by decide +kernel) ⟨Nat.le_of_ble_eq_true rfl, Nat.le_of_ble_eq_true rfl⟩ rfl hl.1 rfl (Nat.le_of_ble_eq_true rfl) dX6_send_116 ⟨show 4 ≤ 44 by omega, show 207 ≤ 2247 by omega⟩ (fun r41 S40 H locs h m42 V => ?_)
                have k1 := m42.k k1 (by decide)
                have k11 := m42.k k11 (by decide)
                have k19 := m42.k k19 (by decide)
                have k30 := m42.k k30 (by decide)
                have k36 := m42.k k36 (by decide)
                refine W.widen (k := 4) (n := 207) (by omega) (by omega) ?_
                refine lv_aload X.1.1 X.1.2.1 dX6_send_119 (lv_at hl 1 rfl) ?_
                refine lv_aload X.1.1 X.1.2.1 dX6_send_121 (lv_at hl 2 rfl) ?_
                refine gf_X6_100 X V k11 dX6_send_123 ?_
                refine lv_lload_n X.1.1 X.1.2.1 dX6_send_126 rfl (lv_at hl 5 rfl) ?_
                obtain ⟨k43, h⟩ := h
                refine r_callV (k := 2) (n := 2) (As := [.int (fi S40 16 o5), .long w2]) X V (sd_X0_whereIs l D ka _ S40 _ o15 (fi S40 16 o5) w2 h) k43 (by decide) (by decide) rfl wd_352 wd_353 wd_119 wd_354 wd_355 rfl rfl (by decide +kernel) ⟨Nat.le_of_ble_eq_true rfl, Nat.le_of_ble_eq_true rfl⟩ rfl hl.1 rfl (Nat.le_of_ble_eq_true rfl) dX6_send_127 ⟨show 4 ≤ 44 by omega, show 207 ≤ 2247 by omega⟩ (fun r45 S44 H locs h m46 V => ?_)
                have k1 := m46.k k1 (by decide)
                have k11 := m46.k k11 (by decide)
                have k19 := m46.k k19 (by decide)
                have k30 := m46.k k30 (by decide)
                have k36 := m46.k k36 (by decide)
                have k43 := m46.k k43 (by decide)
                cases r45 with
                | none =>
                  have h := h.1 rfl
                  refine lv_astoreN (lv' := [(8, .null), (7, .ref o26), (6, .ref o15), (5, .ref o5), (0, .ref a0), (1, .int v1), (2, .long w2), (4, .int v4)]) X.1.1 X.1.2.1 dX6_send_130 hl (by decide) rfl (fun ls hl => ?_)
                  refine lv_aloadN X.1.1 X.1.2.1 dX6_send_132 (lv_at hl 0 rfl) ?_
                  refine lv_ifnonnullN X.1.1 X.1.2.1 dX6_send_134 ?_
                  refine lv_aload_n X.1.1 X.1.2.1 dX6_send_137 rfl (lv_at hl 4 rfl) ?_
                  refine lv_aload X.1.1 X.1.2.1 dX6_send_138 (lv_at hl 1 rfl) ?_
                  refine lv_aload X.1.1 X.1.2.1 dX6_send_140 (lv_at hl 2 rfl) ?_
                  refine gf_X6_114 X V k43 dX6_send_142 ?_
                  refine lv_aload X.1.1 X.1.2.1 dX6_send_145 (lv_at hl 3 rfl) ?_
                  refine gf_X6_100 X V k11 dX6_send_147 ?_
                  refine lv_iload_n X.1.1 X.1.2.1 dX6_send_150 rfl (lv_at hl 5 rfl) ?_
                  refine r_callV (k := 7) (n := 4) (As := [.ref o26, .int (fi S44 3 o15), .int (fi S44 16 o5), .int v1]) X V (sd_X6_comeToAll l D ka _ S44 _ a0 o26 (fi S44 3 o15) (fi S44 16 o5) v1 h) k1 (by decide) (by decide) rfl wd_356 wd_357 wd_249 wd_358 wd_359 rfl rfl (by decide +kernel) ⟨Nat.le_of_ble_eq_true rfl, Nat.le_of_ble_eq_true rfl⟩ rfl hl.1 rfl (Nat.le_of_ble_eq_true rfl) dX6_send_151 ⟨show 4 ≤ 44 by omega, show 207 ≤ 2247 by omega⟩ (fun r50 S49 H locs h m51 V => ?_)
                  have k1 := m51.k k1 (by decide)
                  have k11 := m51.k k11 (by decide)
                  have k19 := m51.k k19 (by decide)
                  have k30 := m51.k k30 (by decide)
                  have k36 := m51.k k36 (by decide)
                  have k43 := m51.k k43 (by decide)
                  refine lv_aload_n X.1.1 X.1.2.1 dX6_send_154 rfl (lv_at hl 4 rfl) ?_
                  refine lv_aload X.1.1 X.1.2.1 dX6_send_155 (lv_at hl 1 rfl) ?_
                  refine lv_aload X.1.1 X.1.2.1 dX6_send_157 (lv_at hl 2 rfl) ?_
                  refine lv_aload X.1.1 X.1.2.1 dX6_send_159 (lv_at hl 3 rfl) ?_
                  refine gf_X6_100 X V k11 dX6_send_161 ?_
                  refine r_callV (k := 7) (n := 3) (As := [.ref o26, .ref o15, .int (fi S49 16 o5)]) X V (sd_X6_launchToAll l D ka _ S49 _ a0 o26 o15 (fi S49 16 o5) h) k1 (by decide) (by decide) rfl wd_360 wd_361 wd_249 wd_362 wd_363 rfl rfl (by decide +kernel) ⟨Nat.le_of_ble_eq_true rfl, Nat.le_of_ble_eq_true rfl⟩ rfl hl.1 rfl (Nat.le_of_ble_eq_true rfl) dX6_send_164 ⟨show 44 ≤ 44 by omega, show 2247 ≤ 2247 by omega⟩ (fun r53 S52 H locs h m54 V => ?_)
                  have k1 := m54.k k1 (by decide)
                  have k11 := m54.k k11 (by decide)
                  have k19 := m54.k k19 (by decide)
                  have k30 := m54.k k30 (by decide)
                  have k36 := m54.k k36 (by decide)
                  have k43 := m54.k k43 (by decide)
                  refine W.widen (k := 44) (n := 2247) (by omega) (by omega) ?_
                  refine W.widen (k := 44) (n := 2247) (by omega) (by omega) ?_
                  exact W.iret X.1.1 X.1.2.1 hr (fun t ht _ => V.q (r := r53) h ht) V.2.1.2.2 dX6_send_167 X.1.2.2.2.2
                | some o47 =>
                  have h := h.2 o47 rfl
                  refine lv_astore (lv' := [(8, .ref o47), (7, .ref o26), (6, .ref o15), (5, .ref o5), (0, .ref a0), (1, .int v1), (2, .long w2), (4, .int v4)]) X.1.1 X.1.2.1 dX6_send_130 hl (by decide) rfl (fun ls hl => ?_)
                  refine lv_aload X.1.1 X.1.2.1 dX6_send_132 (lv_at hl 0 rfl) ?_
                  refine lv_ifnonnull (tgt := 168) X.1.1 X.1.2.1 dX6_send_134 (by decide) ?_
                  refine lv_aload X.1.1 X.1.2.1 dX6_send_168 (lv_at hl 0 rfl) ?_
                  obtain ⟨k55, h⟩ := h
                  refine gf_X6_125 X V k55 dX6_send_170 ?_
                  refine lv_iconst (v := (-1 : Int32)) X.1.1 X.1.2.1 dX6_send_173 (by decide) ?_
                  refine lv_icmp_ne (tgt := 197) X.1.1 X.1.2.1 dX6_send_174 (by decide) (fun c56 => ?_) (fun c56 => ?_)
                  · have h := h.1 c56
                    refine lv_aload X.1.1 X.1.2.1 dX6_send_197 (lv_at hl 0 rfl) ?_
                    refine gf_X6_125 X V k55 dX6_send_199 ?_
                    refine lv_iload_n X.1.1 X.1.2.1 dX6_send_202 rfl (lv_at hl 5 rfl) ?_
                    refine lv_icmp_eq (tgt := 222) X.1.1 X.1.2.1 dX6_send_203 (by decide) (fun c57 => ?_) (fun c57 => ?_)
                    · have h := h.1 c57
                      refine lv_iconst (v := (0 : Int32)) X.1.1 X.1.2.1 dX6_send_222 (by decide) ?_
                      refine W.widen (k := 44) (n := 2247) (by omega) (by omega) ?_
                      exact W.iret X.1.1 X.1.2.1 hr (fun t ht _ => V.q (r := (0 : Int32)) h ht) V.2.1.2.2 dX6_send_223 X.1.2.2.2.2
                    · have h := h.2 c57
                      refine lv_aload_n X.1.1 X.1.2.1 dX6_send_206 rfl (lv_at hl 4 rfl) ?_
                      refine lv_aload X.1.1 X.1.2.1 dX6_send_207 (lv_at hl 1 rfl) ?_
                      refine lv_aload X.1.1 X.1.2.1 dX6_send_209 (lv_at hl 2 rfl) ?_
                      refine gf_X6_114 X V k43 dX6_send_211 ?_
                      refine lv_aload X.1.1 X.1.2.1 dX6_send_214 (lv_at hl 0 rfl) ?_
                      refine gf_X6_125 X V k55 dX6_send_216 ?_
                      refine r_callV (k := 7) (n := 3) (As := [.ref o26, .int (fi S44 3 o15), .int (fi S44 10 o47)]) X V (sd_X6_comeToOne l D ka _ S44 _ a0 o26 (fi S44 3 o15) (fi S44 10 o47) h) k1 (by decide) (by decide) rfl wd_365 wd_366 wd_249 wd_367 wd_368 rfl rfl (by decide +kernel) ⟨Nat.le_of_ble_eq_true rfl, Nat.le_of_ble_eq_true rfl⟩ rfl hl.1 rfl (Nat.le_of_ble_eq_true rfl) dX6_send_219 ⟨show 4 ≤ 44 by omega, show 207 ≤ 2247 by omega⟩ (fun r59 S58 H locs h m60 V => ?_)
                      have k1 := m60.k k1 (by decide)
                      have k11 := m60.k k11 (by decide)
                      have k19 := m60.k k19 (by decide)
                      have k30 := m60.k k30 (by decide)
                      have k36 := m60.k k36 (by decide)
                      have k43 := m60.k k43 (by decide)
                      have k55 := m60.k k55 (by decide)
                      refine lv_iconst (v := (0 : Int32)) X.1.1 X.1.2.1 dX6_send_222 (by decide) ?_
                      refine W.widen (k := 44) (n := 2247) (by omega) (by omega) ?_
                      exact W.iret X.1.1 X.1.2.1 hr (fun t ht _ => V.q (r := (0 : Int32)) h ht) V.2.1.2.2 dX6_send_223 X.1.2.2.2.2
                  · have h := h.2 c56
                    refine lv_aload_n X.1.1 X.1.2.1 dX6_send_177 rfl (lv_at hl 4 rfl) ?_
                    refine lv_aload X.1.1 X.1.2.1 dX6_send_178 (lv_at hl 1 rfl) ?_
                    refine lv_aload X.1.1 X.1.2.1 dX6_send_180 (lv_at hl 3 rfl) ?_
                    refine gf_X6_100 X V k11 dX6_send_182 ?_
                    refine lv_aload X.1.1 X.1.2.1 dX6_send_185 (lv_at hl 2 rfl) ?_
                    refine lv_aload X.1.1 X.1.2.1 dX6_send_187 (lv_at hl 0 rfl) ?_
                    refine gf_X6_128 X V k55 dX6_send_189 ?_
                    refine r_callV (k := 7) (n := 4) (As := [.ref o26, .int (fi S44 16 o5), .ref o15, .int (fi S44 9 o47)]) X V (sd_X6_launch l D ka _ S44 _ a0 o26 (fi S44 16 o5) o15 (fi S44 9 o47) h) k1 (by decide) (by decide) rfl wd_328 wd_329 wd_249 wd_330 wd_331 rfl rfl (by decide +kernel) ⟨Nat.le_of_ble_eq_true rfl, Nat.le_of_ble_eq_true rfl⟩ rfl hl.1 rfl (Nat.le_of_ble_eq_true rfl) dX6_send_192 ⟨show 8 ≤ 44 by omega, show 411 ≤ 2247 by omega⟩ (fun r62 S61 H locs h m63 V => ?_)
                    have k1 := m63.k k1 (by decide)
                    have k11 := m63.k k11 (by decide)
                    have k19 := m63.k k19 (by decide)
                    have k30 := m63.k k30 (by decide)
                    have k36 := m63.k k36 (by decide)
                    have k43 := m63.k k43 (by decide)
                    have k55 := m63.k k55 (by decide)
                    refine W.widen (k := 8) (n := 411) (by omega) (by omega) ?_
                    refine lv_iconst (v := (1 : Int32)) X.1.1 X.1.2.1 dX6_send_195 (by decide) ?_
                    refine W.widen (k := 44) (n := 2247) (by omega) (by omega) ?_
                    exact W.iret X.1.1 X.1.2.1 hr (fun t ht _ => V.q (r := (1 : Int32)) h ht) V.2.1.2.2 dX6_send_196 X.1.2.2.2.2
              · have h := h.2 c20
                refine lv_iconst (v := (-1 : Int32)) X.1.1 X.1.2.1 dX6_send_68 (by decide) ?_
                refine W.widen (k := 44) (n := 2247) (by omega) (by omega) ?_
                exact W.iret X.1.1 X.1.2.1 hr (fun t ht _ => V.q (r := (-1 : Int32)) h ht) V.2.1.2.2 dX6_send_69 X.1.2.2.2.2
          · have h := h.2 c10
            refine lv_iconst (v := (-1 : Int32)) X.1.1 X.1.2.1 dX6_send_38 (by decide) ?_
            refine W.widen (k := 44) (n := 2247) (by omega) (by omega) ?_
            exact W.iret X.1.1 X.1.2.1 hr (fun t ht _ => V.q (r := (-1 : Int32)) h ht) V.2.1.2.2 dX6_send_39 X.1.2.2.2.2
abbrev rm_X6_packetAt : Room := { frames := 3, cells := 0, slots := 0, locals := 64 }
def wp_X6_packetAt (post : (Option Nat) → HS → Prop) (S : HS) (a0 : Nat) (v1 : Int32) : Prop := ((v1 < 0 → post none S) ∧ (¬ v1 < 0 → kd S a0 = 7 ∧ (∃ o3 : Nat, fr S 23 a0 = some o3 ∧ (kd S o3 = 1 ∧ (wp_Jx4a65c_size_8abf5 (fun r7 S6 => ((v1 < r7 → ∃ o10 : Nat, fr S6 23 a0 = some o10 ∧ (kd S6 o10 = 1 ∧ (wp_Jx4a65c_get_915e3 (fun r14 S13 => ∃ o16 : Nat, r14 = some o16 ∧ (kd S13 o16 = 4 ∧ (post (some o16) S13))) S6 o10 v1))) ∧ (¬ v1 < r7 → post none S6))) S o3)))))
set_option maxHeartbeats 400000 in
set_option maxRecDepth 100000 in
theorem sd_X6_packetAt (l : Launch) (D : va_G) (ka : Nat → ClassId) (sz : Nat) (Z : HS) (post : (Option Nat) → HS → Prop) (a0 : Nat) (v1 : Int32) (h : wp_X6_packetAt post Z a0 v1) : Met l yX6_packetAt [Cond.code yX6_packetAt cX6_packetAt 2 (some (.object "OverlayFabric$Packet"))] rm_X6_packetAt (Px D ka Z sz [.ref a0, .int v1]) (Qx eR post D ka Z sz) 0 0 (fA Z sz) := by
  refine Met.ofW (cc := cX6_packetAt) (maxL := 2) (ret := (some (.object "OverlayFabric$Packet"))) (by decide) rfl ?_
  intro p e s m args below meth c s₁ B hml hv
  obtain ⟨rfl, X, V, hsz⟩ := Cx.entry B hml hv
  have hr : meth.sig.returnType = (some (.object "OverlayFabric$Packet")) := B.returns
  have hl := lv_entry ([.ref a0, .int v1]) (n := 2) (Nat.le_of_ble_eq_true rfl)
  rw [lg_entry_eq]
  generalize (lg_sl ([.ref a0, .int v1]) ++ List.replicate (2 - (lg_sl ([.ref a0, .int v1])).length) Slot.unset).toArray = ls at hl ⊢
  have hl : lv_has ls 2 [(0, .ref a0), (1, .int v1)] := hl
  have h : wp_X6_packetAt post Z a0 v1 := h
  refine lv_iload_n X.1.1 X.1.2.1 dX6_packetAt_0 rfl (lv_at hl 1 rfl) ?_
  refine lv_if_lt (tgt := 15) X.1.1 X.1.2.1 dX6_packetAt_1 (by decide) (fun c1 => ?_) (fun c1 => ?_)
  · have h := h.1 c1
    refine lv_null X.1.1 X.1.2.1 dX6_packetAt_15 ?_
    refine lv_goto (tgt := 30) X.1.1 X.1.2.1 dX6_packetAt_16 (by decide) ?_
    exact W.aret X.1.1 X.1.2.1 hr (Or.inl ⟨_, rfl⟩) (Or.inl rfl) (fun t ht _ => V.q (r := none) h ht) V.2.1.2.2 dX6_packetAt_30 X.1.2.2.2.2
  · have h := h.2 c1
    refine lv_iload_n X.1.1 X.1.2.1 dX6_packetAt_4 rfl (lv_at hl 1 rfl) ?_
    refine lv_aload_n X.1.1 X.1.2.1 dX6_packetAt_5 rfl (lv_at hl 0 rfl) ?_
    obtain ⟨k2, h⟩ := h
    obtain ⟨o3, e4, h⟩ := h
    refine gf_X6_22 X V k2 e4 dX6_packetAt_6 ?_
    obtain ⟨k5, h⟩ := h
    refine r_callV (k := 1) (n := 0) (As := []) X V (sd_Jx4a65c_size_8abf5 l D ka _ Z _ o3 h) k5 (by decide) (by decide) rfl wd_108 wd_253 wd_39 wd_110 wd_111 rfl rfl (by decide +kernel) ⟨Nat.le_of_ble_eq_true rfl, Nat.le_of_ble_eq_true rfl⟩ rfl hl.1 rfl (Nat.le_of_ble_eq_true rfl) dX6_packetAt_9 ⟨show 0 ≤ 0 by omega, show 0 ≤ 0 by omega⟩ (fun r7 S6 H locs h m8 V => ?_)
    have k2 := m8.k k2 (by decide)
    have k5 := m8.k k5 (by decide)
    refine lv_icmp_lt (tgt := 19) X.1.1 X.1.2.1 dX6_packetAt_12 (by decide) (fun c9 => ?_) (fun c9 => ?_)
    · have h := h.1 c9
      refine lv_aload_n X.1.1 X.1.2.1 dX6_packetAt_19 rfl (lv_at hl 0 rfl) ?_
      obtain ⟨o10, e11, h⟩ := h
      refine gf_X6_22 X V k2 e11 dX6_packetAt_20 ?_
      refine lv_iload_n X.1.1 X.1.2.1 dX6_packetAt_23 rfl (lv_at hl 1 rfl) ?_
      obtain ⟨k12, h⟩ := h
      refine r_callV (k := 1) (n := 1) (As := [.int v1]) X V (sd_Jx4a65c_get_915e3 l D ka _ S6 _ o10 v1 h) k12 (by decide) (by decide) rfl wd_112 wd_264 wd_39 wd_114 wd_115 rfl rfl (by decide +kernel) ⟨Nat.le_of_ble_eq_true rfl, Nat.le_of_ble_eq_true rfl⟩ rfl hl.1 rfl (Nat.le_of_ble_eq_true rfl) dX6_packetAt_24 ⟨show 0 ≤ 0 by omega, show 0 ≤ 0 by omega⟩ (fun r14 S13 H locs h m15 V => ?_)
      have k2 := m15.k k2 (by decide)
      have k5 := m15.k k5 (by decide)
      have k12 := m15.k k12 (by decide)
      obtain ⟨o16, e17, h⟩ := h
      subst e17
      obtain ⟨k18, h⟩ := h
      refine r_cast X V k18 (by decide) (by decide) wd_317 dX6_packetAt_27 ?_
      exact W.aret X.1.1 X.1.2.1 hr (Or.inl ⟨_, rfl⟩) (Or.inr ⟨_, rfl⟩) (fun t ht _ => V.q (r := (some o16)) h ht) V.2.1.2.2 dX6_packetAt_30 X.1.2.2.2.2
    · have h := h.2 c9
      refine lv_null X.1.1 X.1.2.1 dX6_packetAt_15 ?_
      refine lv_goto (tgt := 30) X.1.1 X.1.2.1 dX6_packetAt_16 (by decide) ?_
      exact W.aret X.1.1 X.1.2.1 hr (Or.inl ⟨_, rfl⟩) (Or.inl rfl) (fun t ht _ => V.q (r := none) h ht) V.2.1.2.2 dX6_packetAt_30 X.1.2.2.2.2
abbrev rm_X6_misfitOf : Room := { frames := 5, cells := 0, slots := 0, locals := 109 }
def wp_X6_misfitOf (post : Int32 → HS → Prop) (S : HS) (a0 : Nat) (a1 : Nat) (v2 : Int32) : Prop := wp_X5_netOf (fun r2 S1 => kd S1 a0 = 7 ∧ (wp_X6_hasNet (fun r6 S5 => ((¬ r6 = 0 → wp_X5_senderOf (fun r10 S9 => wp_X6_endpointAt (fun r13 S12 => ((r13 = none → post (7 : Int32) S12) ∧ (∀ o15 : Nat, r13 = some o15 → ((r10 = v2 → post (7 : Int32) S12) ∧ (¬ r10 = v2 → wp_X6_hasNet (fun r19 S18 => ((¬ r19 = 0 → wp_X5_macFrom (fun r23 S22 => wp_X5_isGroup (fun r26 S25 => ((r26 = 0 → post (0 : Int32) S25) ∧ (¬ r26 = 0 → post (8 : Int32) S25))) S22 r23) S18 a1) ∧ (r19 = 0 → post (7 : Int32) S18))) S12 a0 r10 r2))))) S9 a0 r10) S5 a1) ∧ (r6 = 0 → post (6 : Int32) S5))) S1 a0 v2 r2)) S a1
set_option maxHeartbeats 400000 in
set_option maxRecDepth 100000 in
theorem sd_X6_misfitOf (l : Launch) (D : va_G) (ka : Nat → ClassId) (sz : Nat) (Z : HS) (post : Int32 → HS → Prop) (a0 : Nat) (a1 : Nat) (v2 : Int32) (h : wp_X6_misfitOf post Z a0 a1 v2) : Met l yX6_misfitOf [Cond.code yX6_misfitOf cX6_misfitOf 5 (some .int)] rm_X6_misfitOf (Px D ka Z sz [.ref a0, .ref a1, .int v2]) (Qx eI post D ka Z sz) 0 0 (fA Z sz) := by
  refine Met.ofW (cc := cX6_misfitOf) (maxL := 5) (ret := (some .int)) (by decide) rfl ?_
  intro p e s m args below meth c s₁ B hml hv
  obtain ⟨rfl, X, V, hsz⟩ := Cx.entry B hml hv
  have hr : meth.sig.returnType = (some .int) := B.returns
  have hl := lv_entry ([.ref a0, .ref a1, .int v2]) (n := 5) (Nat.le_of_ble_eq_true rfl)
  rw [lg_entry_eq]
  generalize (lg_sl ([.ref a0, .ref a1, .int v2]) ++ List.replicate (5 - (lg_sl ([.ref a0, .ref a1, .int v2])).length) Slot.unset).toArray = ls at hl ⊢
  have hl : lv_has ls 5 [(0, .ref a0), (1, .ref a1), (2, .int v2)] := hl
  have h : wp_X6_misfitOf post Z a0 a1 v2 := h
  refine lv_aload_n X.1.1 X.1.2.1 dX6_misfitOf_0 rfl (lv_at hl 1 rfl) ?_
  refine r_callS (n := 1) (As := [.ref a1]) X V (sd_X5_netOf l D ka _ Z _ a1 h) wd_370 wd_371 wd_126 wd_372 rfl rfl (by decide +kernel) ⟨Nat.le_of_ble_eq_true rfl, Nat.le_of_ble_eq_true rfl⟩ rfl hl.1 rfl (Nat.le_of_ble_eq_true rfl) dX6_misfitOf_1 ⟨show 0 ≤ 0 by omega, show 0 ≤ 0 by omega⟩ (fun r2 S1 H locs h m3 V => ?_)
  refine lv_istore_n (lv' := [(3, .int r2), (0, .ref a0), (1, .ref a1), (2, .int v2)]) X.1.1 X.1.2.1 dX6_misfitOf_4 rfl hl (by decide) rfl (fun ls hl => ?_)
  refine lv_aload_n X.1.1 X.1.2.1 dX6_misfitOf_5 rfl (lv_at hl 1 rfl) ?_
  refine lv_iload_n X.1.1 X.1.2.1 dX6_misfitOf_6 rfl (lv_at hl 3 rfl) ?_
  refine lv_iload_n X.1.1 X.1.2.1 dX6_misfitOf_7 rfl (lv_at hl 0 rfl) ?_
  obtain ⟨k4, h⟩ := h
  refine r_callV (k := 7) (n := 2) (As := [.int v2, .int r2]) X V (sd_X6_hasNet l D ka _ S1 _ a0 v2 r2 h) k4 (by decide) (by decide) rfl wd_324 wd_325 wd_249 wd_326 wd_327 rfl rfl (by decide +kernel) ⟨Nat.le_of_ble_eq_true rfl, Nat.le_of_ble_eq_true rfl⟩ rfl hl.1 rfl (Nat.le_of_ble_eq_true rfl) dX6_misfitOf_8 ⟨show 0 ≤ 0 by omega, show 0 ≤ 0 by omega⟩ (fun r6 S5 H locs h m7 V => ?_)
  have k4 := m7.k k4 (by decide)
  refine lv_if_ne (tgt := 17) X.1.1 X.1.2.1 dX6_misfitOf_11 (by decide) (fun c8 => ?_) (fun c8 => ?_)
  · have h := h.1 c8
    refine lv_aload_n X.1.1 X.1.2.1 dX6_misfitOf_17 rfl (lv_at hl 2 rfl) ?_
    refine r_callS (n := 1) (As := [.ref a1]) X V (sd_X5_senderOf l D ka _ S5 _ a1 h) wd_373 wd_374 wd_126 wd_375 rfl rfl (by decide +kernel) ⟨Nat.le_of_ble_eq_true rfl, Nat.le_of_ble_eq_true rfl⟩ rfl hl.1 rfl (Nat.le_of_ble_eq_true rfl) dX6_misfitOf_18 ⟨show 0 ≤ 0 by omega, show 0 ≤ 0 by omega⟩ (fun r10 S9 H locs h m11 V => ?_)
    have k4 := m11.k k4 (by decide)
    refine lv_istore (lv' := [(4, .int r10), (3, .int r2), (0, .ref a0), (1, .ref a1), (2, .int v2)]) X.1.1 X.1.2.1 dX6_misfitOf_21 hl (by decide) rfl (fun ls hl => ?_)
    refine lv_aload_n X.1.1 X.1.2.1 dX6_misfitOf_23 rfl (lv_at hl 2 rfl) ?_
    refine lv_iload X.1.1 X.1.2.1 dX6_misfitOf_24 (lv_at hl 0 rfl) ?_
    refine r_callV (k := 7) (n := 1) (As := [.int r10]) X V (sd_X6_endpointAt l D ka _ S9 _ a0 r10 h) k4 (by decide) (by decide) rfl wd_247 wd_248 wd_249 wd_250 wd_251 rfl rfl (by decide +kernel) ⟨Nat.le_of_ble_eq_true rfl, Nat.le_of_ble_eq_true rfl⟩ rfl hl.1 rfl (Nat.le_of_ble_eq_true rfl) dX6_misfitOf_26 ⟨show 0 ≤ 0 by omega, show 0 ≤ 0 by omega⟩ (fun r13 S12 H locs h m14 V => ?_)
    have k4 := m14.k k4 (by decide)
    cases r13 with
    | none =>
      have h := h.1 rfl
      refine lv_ifnullN (tgt := 48) X.1.1 X.1.2.1 dX6_misfitOf_29 (by decide) ?_
      refine lv_bipush (v := (7 : Int32)) X.1.1 X.1.2.1 dX6_misfitOf_48 (by decide) ?_
      exact W.iret X.1.1 X.1.2.1 hr (fun t ht _ => V.q (r := (7 : Int32)) h ht) V.2.1.2.2 dX6_misfitOf_50 X.1.2.2.2.2
    | some o15 =>
      have h := h.2 o15 rfl
      refine lv_ifnull X.1.1 X.1.2.1 dX6_misfitOf_29 ?_
      refine lv_iload X.1.1 X.1.2.1 dX6_misfitOf_32 (lv_at hl 0 rfl) ?_
      refine lv_iload_n X.1.1 X.1.2.1 dX6_misfitOf_34 rfl (lv_at hl 4 rfl) ?_
      refine lv_icmp_eq (tgt := 48) X.1.1 X.1.2.1 dX6_misfitOf_35 (by decide) (fun c17 => ?_) (fun c17 => ?_)
      · have h := h.1 c17
        refine lv_bipush (v := (7 : Int32)) X.1.1 X.1.2.1 dX6_misfitOf_48 (by decide) ?_
        exact W.iret X.1.1 X.1.2.1 hr (fun t ht _ => V.q (r := (7 : Int32)) h ht) V.2.1.2.2 dX6_misfitOf_50 X.1.2.2.2.2
      · have h := h.2 c17
        refine lv_aload_n X.1.1 X.1.2.1 dX6_misfitOf_38 rfl (lv_at hl 2 rfl) ?_
        refine lv_iload X.1.1 X.1.2.1 dX6_misfitOf_39 (lv_at hl 0 rfl) ?_
        refine lv_iload_n X.1.1 X.1.2.1 dX6_misfitOf_41 rfl (lv_at hl 1 rfl) ?_
        refine r_callV (k := 7) (n := 2) (As := [.int r10, .int r2]) X V (sd_X6_hasNet l D ka _ S12 _ a0 r10 r2 h) k4 (by decide) (by decide) rfl wd_324 wd_325 wd_249 wd_326 wd_327 rfl rfl (by decide +kernel) ⟨Nat.le_of_ble_eq_true rfl, Nat.le_of_ble_eq_true rfl⟩ rfl hl.1 rfl (Nat.le_of_ble_eq_true rfl) dX6_misfitOf_42 ⟨show 0 ≤ 0 by omega, show 0 ≤ 0 by omega⟩ (fun r19 S18 H locs h m20 V => ?_)
        have k4 := m20.k k4 (by decide)
        refine lv_if_ne (tgt := 51) X.1.1 X.1.2.1 dX6_misfitOf_45 (by decide) (fun c21 => ?_) (fun c21 => ?_)
        · have h := h.1 c21
          refine lv_aload_n X.1.1 X.1.2.1 dX6_misfitOf_51 rfl (lv_at hl 3 rfl) ?_
          refine r_callS (n := 1) (As := [.ref a1]) X V (sd_X5_macFrom l D ka _ S18 _ a1 h) wd_376 wd_377 wd_126 wd_378 rfl rfl (by decide +kernel) ⟨Nat.le_of_ble_eq_true rfl, Nat.le_of_ble_eq_true rfl⟩ rfl hl.1 rfl (Nat.le_of_ble_eq_true rfl) dX6_misfitOf_52 ⟨show 0 ≤ 0 by omega, show 0 ≤ 0 by omega⟩ (fun r23 S22 H locs h m24 V => ?_)
          have k4 := m24.k k4 (by decide)
          refine r_callS (n := 1) (As := [.long r23]) X V (sd_X5_isGroup l D ka _ S22 _ r23 h) wd_124 wd_379 wd_126 wd_127 rfl rfl (by decide +kernel) ⟨Nat.le_of_ble_eq_true rfl, Nat.le_of_ble_eq_true rfl⟩ rfl hl.1 rfl (Nat.le_of_ble_eq_true rfl) dX6_misfitOf_55 ⟨show 0 ≤ 0 by omega, show 0 ≤ 0 by omega⟩ (fun r26 S25 H locs h m27 V => ?_)
          have k4 := m27.k k4 (by decide)
          refine lv_if_eq (tgt := 66) X.1.1 X.1.2.1 dX6_misfitOf_58 (by decide) (fun c28 => ?_) (fun c28 => ?_)
          · have h := h.1 c28
            refine lv_iconst (v := (0 : Int32)) X.1.1 X.1.2.1 dX6_misfitOf_66 (by decide) ?_
            exact W.iret X.1.1 X.1.2.1 hr (fun t ht _ => V.q (r := (0 : Int32)) h ht) V.2.1.2.2 dX6_misfitOf_67 X.1.2.2.2.2
          · have h := h.2 c28
            refine lv_bipush (v := (8 : Int32)) X.1.1 X.1.2.1 dX6_misfitOf_61 (by decide) ?_
            refine lv_goto (tgt := 67) X.1.1 X.1.2.1 dX6_misfitOf_63 (by decide) ?_
            exact W.iret X.1.1 X.1.2.1 hr (fun t ht _ => V.q (r := (8 : Int32)) h ht) V.2.1.2.2 dX6_misfitOf_67 X.1.2.2.2.2
        · have h := h.2 c21
          refine lv_bipush (v := (7 : Int32)) X.1.1 X.1.2.1 dX6_misfitOf_48 (by decide) ?_
          exact W.iret X.1.1 X.1.2.1 hr (fun t ht _ => V.q (r := (7 : Int32)) h ht) V.2.1.2.2 dX6_misfitOf_50 X.1.2.2.2.2
  · have h := h.2 c8
    refine lv_bipush (v := (6 : Int32)) X.1.1 X.1.2.1 dX6_misfitOf_14 (by decide) ?_
    exact W.iret X.1.1 X.1.2.1 hr (fun t ht _ => V.q (r := (6 : Int32)) h ht) V.2.1.2.2 dX6_misfitOf_16 X.1.2.2.2.2
abbrev rm_X6_letIn : Room := { frames := 8, cells := 4, slots := 207, locals := 195 }
def wp_X6_letIn_55a (post : Int32 → HS → Prop) (S : HS) (b0 : Nat) (b1 : Nat) (b2 : Nat) (x3 : Int32) : Prop := wp_X5_unwrap (fun r30 S29 => ∃ o32 : Nat, r30 = some o32 ∧ (kd S29 b2 = 2 ∧ (kd S29 b0 = 7 ∧ (wp_X6_comeToAll (fun _ S36 => post (0 : Int32) S36) S29 b0 o32 (fi S29 3 b2) x3 (-1 : Int32))))) S b1
set_option maxHeartbeats 400000 in
set_option maxRecDepth 100000 in
theorem sl_X6_letIn_55a (l : Launch) (D : va_G) (ka : Nat → ClassId) (sz : Nat) (Z : HS) (post : Int32 → HS → Prop) {p : Program} {e : Env} {s : State} {m : MethodId} {args : Array Value} {below : List Frame} {meth : Method} {c : Code} (X : Cx p s m meth c cX6_letIn 6 RX6 D ka Z (fA Z sz)) (hr : meth.sig.returnType = (some .int))  : ∀ (S : HS) (b0 : Nat) (b1 : Nat) (b2 : Nat) (x3 : Int32), wp_X6_letIn_55a post S b0 b1 b2 x3 → ∀ (H : Heap) (locs : List Loc) (ls : Array Slot), Hv D ka Z s (fA Z sz) S H locs → lv_has ls 6 [(0, .ref b0), (1, .ref b1), (2, .ref b2), (3, .int x3), (4, .null)] → W p l e rm_X6_letIn s m args below meth c H locs 2 85 (MQ below (Qx eI post D ka Z sz) args s 4 207 (fA Z sz)) (F0 m 55 ls []) := by
  intro S b0 b1 b2 x3 h H locs ls V hl
  refine lv_aload_n X.1.1 X.1.2.1 dX6_letIn_55 rfl (lv_at hl 1 rfl) ?_
  refine r_callS (n := 1) (As := [.ref b1]) X V (sd_X5_unwrap l D ka _ S _ b1 h) wd_383 wd_384 wd_126 wd_385 rfl rfl (by decide +kernel) ⟨Nat.le_of_ble_eq_true rfl, Nat.le_of_ble_eq_true rfl⟩ rfl hl.1 rfl (Nat.le_of_ble_eq_true rfl) dX6_letIn_56 ⟨show 4 ≤ 4 by omega, show 207 ≤ 207 by omega⟩ (fun r30 S29 H locs h m31 V => ?_)
  refine W.widen (k := 4) (n := 207) (by omega) (by omega) ?_
  obtain ⟨o32, e33, h⟩ := h
  subst e33
  refine lv_astore (lv' := [(5, .ref o32), (0, .ref b0), (1, .ref b1), (2, .ref b2), (3, .int x3), (4, .null)]) X.1.1 X.1.2.1 dX6_letIn_59 hl (by decide) rfl (fun ls hl => ?_)
  refine lv_aloadN X.1.1 X.1.2.1 dX6_letIn_61 (lv_at hl 5 rfl) ?_
  refine lv_ifnonnullN X.1.1 X.1.2.1 dX6_letIn_63 ?_
  refine lv_aload_n X.1.1 X.1.2.1 dX6_letIn_66 rfl (lv_at hl 1 rfl) ?_
  refine lv_aload X.1.1 X.1.2.1 dX6_letIn_67 (lv_at hl 0 rfl) ?_
  refine lv_aload_n X.1.1 X.1.2.1 dX6_letIn_69 rfl (lv_at hl 3 rfl) ?_
  obtain ⟨k34, h⟩ := h
  refine gf_X6_114 X V k34 dX6_letIn_70 ?_
  refine lv_iload_n X.1.1 X.1.2.1 dX6_letIn_73 rfl (lv_at hl 4 rfl) ?_
  refine lv_iconst (v := (-1 : Int32)) X.1.1 X.1.2.1 dX6_letIn_74 (by decide) ?_
  obtain ⟨k35, h⟩ := h
  refine r_callV (k := 7) (n := 4) (As := [.ref o32, .int (fi S29 3 b2), .int x3, .int (-1 : Int32)]) X V (sd_X6_comeToAll l D ka _ S29 _ b0 o32 (fi S29 3 b2) x3 (-1 : Int32) h) k35 (by decide) (by decide) rfl wd_356 wd_357 wd_249 wd_358 wd_359 rfl rfl (by decide +kernel) ⟨Nat.le_of_ble_eq_true rfl, Nat.le_of_ble_eq_true rfl⟩ rfl hl.1 rfl (Nat.le_of_ble_eq_true rfl) dX6_letIn_75 ⟨show 4 ≤ 4 by omega, show 207 ≤ 207 by omega⟩ (fun r37 S36 H locs h m38 V => ?_)
  have k34 := m38.k k34 (by decide)
  have k35 := m38.k k35 (by decide)
  refine lv_goto (tgt := 96) X.1.1 X.1.2.1 dX6_letIn_78 (by decide) ?_
  refine lv_iconst (v := (0 : Int32)) X.1.1 X.1.2.1 dX6_letIn_96 (by decide) ?_
  refine W.widen (k := 4) (n := 207) (by omega) (by omega) ?_
  exact W.iret X.1.1 X.1.2.1 hr (fun t ht _ => V.q (r := (0 : Int32)) h ht) V.2.1.2.2 dX6_letIn_97 X.1.2.2.2.2
def wp_X6_letIn_55b (post : Int32 → HS → Prop) (S : HS) (b0 : Nat) (b1 : Nat) (b2 : Nat) (x3 : Int32) (b4 : Nat) : Prop := wp_X5_unwrap (fun r42 S41 => ∃ o44 : Nat, r42 = some o44 ∧ (kd S41 b2 = 2 ∧ (kd S41 b4 = 3 ∧ (kd S41 b0 = 7 ∧ (wp_X6_comeToOne (fun _ S49 => post (0 : Int32) S49) S41 b0 o44 (fi S41 3 b2) (fi S41 10 b4)))))) S b1
set_option maxHeartbeats 400000 in
set_option maxRecDepth 100000 in
theorem sl_X6_letIn_55b (l : Launch) (D : va_G) (ka : Nat → ClassId) (sz : Nat) (Z : HS) (post : Int32 → HS → Prop) {p : Program} {e : Env} {s : State} {m : MethodId} {args : Array Value} {below : List Frame} {meth : Method} {c : Code} (X : Cx p s m meth c cX6_letIn 6 RX6 D ka Z (fA Z sz)) (hr : meth.sig.returnType = (some .int))  : ∀ (S : HS) (b0 : Nat) (b1 : Nat) (b2 : Nat) (x3 : Int32) (b4 : Nat), wp_X6_letIn_55b post S b0 b1 b2 x3 b4 → ∀ (H : Heap) (locs : List Loc) (ls : Array Slot), Hv D ka Z s (fA Z sz) S H locs → lv_has ls 6 [(0, .ref b0), (1, .ref b1), (2, .ref b2), (3, .int x3), (4, .ref b4)] → W p l e rm_X6_letIn s m args below meth c H locs 2 85 (MQ below (Qx eI post D ka Z sz) args s 4 207 (fA Z sz)) (F0 m 55 ls []) := by
  intro S b0 b1 b2 x3 b4 h H locs ls V hl
  refine lv_aload_n X.1.1 X.1.2.1 dX6_letIn_55 rfl (lv_at hl 1 rfl) ?_
  refine r_callS (n := 1) (As := [.ref b1]) X V (sd_X5_unwrap l D ka _ S _ b1 h) wd_383 wd_384 wd_126 wd_385 rfl rfl (by decide +kernel) ⟨Nat.le_of_ble_eq_true rfl, Nat.le_of_ble_eq_true rfl⟩ rfl hl.1 rfl (Nat.le_of_ble_eq_true rfl) dX6_letIn_56 ⟨show 4 ≤ 4 by omega, show 207 ≤ 207 by omega⟩ (fun r42 S41 H locs h m43 V => ?_)
  refine W.widen (k := 4) (n := 207) (by omega) (by omega) ?_
  obtain ⟨o44, e45, h⟩ := h
  subst e45
  refine lv_astore (lv' := [(5, .ref o44), (0, .ref b0), (1, .ref b1), (2, .ref b2), (3, .int x3), (4, .ref b4)]) X.1.1 X.1.2.1 dX6_letIn_59 hl (by decide) rfl (fun ls hl => ?_)
  refine lv_aload X.1.1 X.1.2.1 dX6_letIn_61 (lv_at hl 5 rfl) ?_
  refine lv_ifnonnull (tgt := 81) X.1.1 X.1.2.1 dX6_letIn_63 (by decide) ?_
  refine lv_aload_n X.1.1 X.1.2.1 dX6_letIn_81 rfl (lv_at hl 1 rfl) ?_
  refine lv_aload X.1.1 X.1.2.1 dX6_letIn_82 (lv_at hl 0 rfl) ?_
  refine lv_aload_n X.1.1 X.1.2.1 dX6_letIn_84 rfl (lv_at hl 3 rfl) ?_
  obtain ⟨k46, h⟩ := h
  refine gf_X6_114 X V k46 dX6_letIn_85 ?_
  refine lv_aload X.1.1 X.1.2.1 dX6_letIn_88 (lv_at hl 5 rfl) ?_
  obtain ⟨k47, h⟩ := h
  refine gf_X6_125 X V k47 dX6_letIn_90 ?_
  obtain ⟨k48, h⟩ := h
  refine r_callV (k := 7) (n := 3) (As := [.ref o44, .int (fi S41 3 b2), .int (fi S41 10 b4)]) X V (sd_X6_comeToOne l D ka _ S41 _ b0 o44 (fi S41 3 b2) (fi S41 10 b4) h) k48 (by decide) (by decide) rfl wd_365 wd_366 wd_249 wd_367 wd_368 rfl rfl (by decide +kernel) ⟨Nat.le_of_ble_eq_true rfl, Nat.le_of_ble_eq_true rfl⟩ rfl hl.1 rfl (Nat.le_of_ble_eq_true rfl) dX6_letIn_93 ⟨show 4 ≤ 4 by omega, show 207 ≤ 207 by omega⟩ (fun r50 S49 H locs h m51 V => ?_)
  have k46 := m51.k k46 (by decide)
  have k47 := m51.k k47 (by decide)
  have k48 := m51.k k48 (by decide)
  refine lv_iconst (v := (0 : Int32)) X.1.1 X.1.2.1 dX6_letIn_96 (by decide) ?_
  refine W.widen (k := 4) (n := 207) (by omega) (by omega) ?_
  exact W.iret X.1.1 X.1.2.1 hr (fun t ht _ => V.q (r := (0 : Int32)) h ht) V.2.1.2.2 dX6_letIn_97 X.1.2.2.2.2
def wp_X6_letIn (post : Int32 → HS → Prop) (S : HS) (a0 : Nat) (a1 : Nat) (a2 : Nat) : Prop := wp_X5_netOf (fun r2 S1 => ∀ o4 : Nat, kd S1 o4 = 0 → (wp_X5_macFrom (fun r8 S7 => wp_X5_senderOf (fun r11 S10 => wp_X1_init (fun _ S13 => kd S13 a0 = 7 ∧ (wp_X6_learn (fun _ S17 => wp_X5_macTo (fun r21 S20 => kd S20 a2 = 2 ∧ (wp_X0_whereIs (fun r25 S24 => ((r25 = none → wp_X6_letIn_55a post S24 a0 a1 a2 r2) ∧ (∀ o27 : Nat, r25 = some o27 → kd S24 o27 = 3 ∧ (((¬ (fi S24 10 o27) = (-1 : Int32) → wp_X6_letIn_55b post S24 a0 a1 a2 r2 o27) ∧ ((fi S24 10 o27) = (-1 : Int32) → post (9 : Int32) S24)))))) S20 a2 r2 r21)) S17 a1) S13 a0 a2 o4)) S10 o4 r2 r8 r11 (-1 : Int32)) S7 a1) (snw S1 o4 3 0) a1)) S a1
set_option maxHeartbeats 400000 in
set_option maxRecDepth 100000 in
theorem sd_X6_letIn (l : Launch) (D : va_G) (ka : Nat → ClassId) (sz : Nat) (Z : HS) (post : Int32 → HS → Prop) (a0 : Nat) (a1 : Nat) (a2 : Nat) (h : wp_X6_letIn post Z a0 a1 a2) : Met l yX6_letIn [Cond.code yX6_letIn cX6_letIn 6 (some .int)] rm_X6_letIn (Px D ka Z sz [.ref a0, .ref a1, .ref a2]) (Qx eI post D ka Z sz) 4 207 (fA Z sz) := by
  refine Met.ofW (cc := cX6_letIn) (maxL := 6) (ret := (some .int)) (by decide) rfl ?_
  intro p e s m args below meth c s₁ B hml hv
  obtain ⟨rfl, X, V, hsz⟩ := Cx.entry B hml hv
  have hr : meth.sig.returnType = (some .int) := B.returns
  have hl := lv_entry ([.ref a0, .ref a1, .ref a2]) (n := 6) (Nat.le_of_ble_eq_true rfl)
  rw [lg_entry_eq]
  generalize (lg_sl ([.ref a0, .ref a1, .ref a2]) ++ List.replicate (6 - (lg_sl ([.ref a0, .ref a1, .ref a2])).length) Slot.unset).toArray = ls at hl ⊢
  have hl : lv_has ls 6 [(0, .ref a0), (1, .ref a1), (2, .ref a2)] := hl
  have h : wp_X6_letIn post Z a0 a1 a2 := h
  refine lv_aload_n X.1.1 X.1.2.1 dX6_letIn_0 rfl (lv_at hl 1 rfl) ?_
  refine r_callS (n := 1) (As := [.ref a1]) X V (sd_X5_netOf l D ka _ Z _ a1 h) wd_370 wd_371 wd_126 wd_372 rfl rfl (by decide +kernel) ⟨Nat.le_of_ble_eq_true rfl, Nat.le_of_ble_eq_true rfl⟩ rfl hl.1 rfl (Nat.le_of_ble_eq_true rfl) dX6_letIn_1 ⟨show 0 ≤ 4 by omega, show 0 ≤ 207 by omega⟩ (fun r2 S1 H locs h m3 V => ?_)
  refine lv_istore_n (lv' := [(3, .int r2), (0, .ref a0), (1, .ref a1), (2, .ref a2)]) X.1.1 X.1.2.1 dX6_letIn_4 rfl hl (by decide) rfl (fun ls hl => ?_)
  refine lv_aload_n X.1.1 X.1.2.1 dX6_letIn_5 rfl (lv_at hl 1 rfl) ?_
  refine lv_aload_n X.1.1 X.1.2.1 dX6_letIn_6 rfl (lv_at hl 3 rfl) ?_
  refine nw_X6_98 X V (show 1 ≤ 4 by omega) (show 5 ≤ 207 by omega) dX6_letIn_7 (fun o4 H z5 V => ?_)
  have h := h o4 z5
  refine W.widen (k := 1) (n := 5) (by omega) (by omega) ?_
  have k6 : kd (snw S1 o4 3 0) o4 = 3 := va_up_self _ _ _
  refine lv_dup X.1.1 X.1.2.1 dX6_letIn_10 rfl ?_
  refine lv_iload_n X.1.1 X.1.2.1 dX6_letIn_11 rfl (lv_at hl 0 rfl) ?_
  refine lv_aload_n X.1.1 X.1.2.1 dX6_letIn_12 rfl (lv_at hl 2 rfl) ?_
  refine r_callS (n := 1) (As := [.ref a1]) X V (sd_X5_macFrom l D ka _ (snw S1 o4 3 0) _ a1 h) wd_376 wd_377 wd_126 wd_378 rfl rfl (by decide +kernel) ⟨Nat.le_of_ble_eq_true rfl, Nat.le_of_ble_eq_true rfl⟩ rfl hl.1 rfl (Nat.le_of_ble_eq_true rfl) dX6_letIn_13 ⟨show 1 ≤ 4 by omega, show 5 ≤ 207 by omega⟩ (fun r8 S7 H locs h m9 V => ?_)
  have k6 := m9.k k6 (by decide)
  refine lv_aload_n X.1.1 X.1.2.1 dX6_letIn_16 rfl (lv_at hl 2 rfl) ?_
  refine r_callS (n := 1) (As := [.ref a1]) X V (sd_X5_senderOf l D ka _ S7 _ a1 h) wd_373 wd_374 wd_126 wd_375 rfl rfl (by decide +kernel) ⟨Nat.le_of_ble_eq_true rfl, Nat.le_of_ble_eq_true rfl⟩ rfl hl.1 rfl (Nat.le_of_ble_eq_true rfl) dX6_letIn_17 ⟨show 1 ≤ 4 by omega, show 5 ≤ 207 by omega⟩ (fun r11 S10 H locs h m12 V => ?_)
  have k6 := m12.k k6 (by decide)
  refine lv_iconst (v := (-1 : Int32)) X.1.1 X.1.2.1 dX6_letIn_20 (by decide) ?_
  refine r_callI (n := 4) (As := [.int r2, .long r8, .int r11, .int (-1 : Int32)]) X V (sd_X1_init l D ka _ S10 _ o4 r2 r8 r11 (-1 : Int32) h) wd_345 wd_346 wd_296 wd_347 rfl rfl rfl (by decide +kernel) ⟨Nat.le_of_ble_eq_true rfl, Nat.le_of_ble_eq_true rfl⟩ rfl hl.1 rfl (Nat.le_of_ble_eq_true rfl) dX6_letIn_21 ⟨show 1 ≤ 4 by omega, show 5 ≤ 207 by omega⟩ (fun r14 S13 H locs h m15 V => ?_)
  have k6 := m15.k k6 (by decide)
  obtain ⟨k16, h⟩ := h
  refine r_callV (k := 7) (n := 2) (As := [.ref a2, .ref o4]) X V (sd_X6_learn l D ka _ S13 _ a0 a2 o4 h) k16 (by decide) (by decide) rfl wd_348 wd_349 wd_249 wd_350 wd_351 rfl rfl (by decide +kernel) ⟨Nat.le_of_ble_eq_true rfl, Nat.le_of_ble_eq_true rfl⟩ rfl hl.1 rfl (Nat.le_of_ble_eq_true rfl) dX6_letIn_24 ⟨show 2 ≤ 4 by omega, show 85 ≤ 207 by omega⟩ (fun r18 S17 H locs h m19 V => ?_)
  have k6 := m19.k k6 (by decide)
  have k16 := m19.k k16 (by decide)
  refine W.widen (k := 2) (n := 85) (by omega) (by omega) ?_
  refine lv_aload_n X.1.1 X.1.2.1 dX6_letIn_27 rfl (lv_at hl 3 rfl) ?_
  refine lv_iload_n X.1.1 X.1.2.1 dX6_letIn_28 rfl (lv_at hl 0 rfl) ?_
  refine lv_aload_n X.1.1 X.1.2.1 dX6_letIn_29 rfl (lv_at hl 2 rfl) ?_
  refine r_callS (n := 1) (As := [.ref a1]) X V (sd_X5_macTo l D ka _ S17 _ a1 h) wd_380 wd_381 wd_126 wd_382 rfl rfl (by decide +kernel) ⟨Nat.le_of_ble_eq_true rfl, Nat.le_of_ble_eq_true rfl⟩ rfl hl.1 rfl (Nat.le_of_ble_eq_true rfl) dX6_letIn_30 ⟨show 2 ≤ 4 by omega, show 85 ≤ 207 by omega⟩ (fun r21 S20 H locs h m22 V => ?_)
  have k6 := m22.k k6 (by decide)
  have k16 := m22.k k16 (by decide)
  obtain ⟨k23, h⟩ := h
  refine r_callV (k := 2) (n := 2) (As := [.int r2, .long r21]) X V (sd_X0_whereIs l D ka _ S20 _ a2 r2 r21 h) k23 (by decide) (by decide) rfl wd_352 wd_353 wd_119 wd_354 wd_355 rfl rfl (by decide +kernel) ⟨Nat.le_of_ble_eq_true rfl, Nat.le_of_ble_eq_true rfl⟩ rfl hl.1 rfl (Nat.le_of_ble_eq_true rfl) dX6_letIn_33 ⟨show 2 ≤ 4 by omega, show 85 ≤ 207 by omega⟩ (fun r25 S24 H locs h m26 V => ?_)
  have k6 := m26.k k6 (by decide)
  have k16 := m26.k k16 (by decide)
  have k23 := m26.k k23 (by decide)
  cases r25 with
  | none =>
    have h := h.1 rfl
    refine lv_astoreN (lv' := [(4, .null), (3, .int r2), (0, .ref a0), (1, .ref a1), (2, .ref a2)]) X.1.1 X.1.2.1 dX6_letIn_36 hl (by decide) rfl (fun ls hl => ?_)
    refine lv_aloadN X.1.1 X.1.2.1 dX6_letIn_38 (lv_at hl 0 rfl) ?_
    refine lv_ifnullN (tgt := 55) X.1.1 X.1.2.1 dX6_letIn_40 (by decide) ?_
    exact sl_X6_letIn_55a l D ka sz Z post X hr S24 a0 a1 a2 r2 h _ _ _ V (lv_sub hl [2, 3, 4, 1, 0] rfl)
  | some o27 =>
    have h := h.2 o27 rfl
    refine lv_astore (lv' := [(4, .ref o27), (3, .int r2), (0, .ref a0), (1, .ref a1), (2, .ref a2)]) X.1.1 X.1.2.1 dX6_letIn_36 hl (by decide) rfl (fun ls hl => ?_)
    refine lv_aload X.1.1 X.1.2.1 dX6_letIn_38 (lv_at hl 0 rfl) ?_
    refine lv_ifnull X.1.1 X.1.2.1 dX6_letIn_40 ?_
    refine lv_aload X.1.1 X.1.2.1 dX6_letIn_43 (lv_at hl 0 rfl) ?_
    obtain ⟨k39, h⟩ := h
    refine gf_X6_125 X V k39 dX6_letIn_45 ?_
    refine lv_iconst (v := (-1 : Int32)) X.1.1 X.1.2.1 dX6_letIn_48 (by decide) ?_
    refine lv_icmp_ne (tgt := 55) X.1.1 X.1.2.1 dX6_letIn_49 (by decide) (fun c40 => ?_) (fun c40 => ?_)
    · have h := h.1 c40
      exact sl_X6_letIn_55b l D ka sz Z post X hr S24 a0 a1 a2 r2 o27 h _ _ _ V (lv_sub hl [2, 3, 4, 1, 0] rfl)
    · have h := h.2 c40
      refine lv_bipush (v := (9 : Int32)) X.1.1 X.1.2.1 dX6_letIn_52 (by decide) ?_
      refine W.widen (k := 4) (n := 207) (by omega) (by omega) ?_
      exact W.iret X.1.1 X.1.2.1 hr (fun t ht _ => V.q (r := (9 : Int32)) h ht) V.2.1.2.2 dX6_letIn_54 X.1.2.2.2.2
abbrev rm_X6_arrive : Room := { frames := 9, cells := 4, slots := 207, locals := 220 }
def wp_X6_arrive_29a (post : Int32 → HS → Prop) (S : HS) (b0 : Nat) (b1 : Nat) (b2 : Nat) (x3 : Int32) : Prop := ((¬ x3 = 0 → ((x3 = 0 → post x3 S) ∧ (¬ x3 = 0 → kd S b0 = 7 ∧ (wp_X6_tally (fun _ S9 => post x3 S9) S b0 x3)))) ∧ (x3 = 0 → kd S b0 = 7 ∧ (wp_X6_letIn (fun r14 S13 => ((r14 = 0 → post r14 S13) ∧ (¬ r14 = 0 → wp_X6_tally (fun _ S17 => post r14 S17) S13 b0 r14))) S b0 b1 b2)))
set_option maxHeartbeats 400000 in
set_option maxRecDepth 100000 in
theorem sl_X6_arrive_29a (l : Launch) (D : va_G) (ka : Nat → ClassId) (sz : Nat) (Z : HS) (post : Int32 → HS → Prop) {p : Program} {e : Env} {s : State} {m : MethodId} {args : Array Value} {below : List Frame} {meth : Method} {c : Code} (X : Cx p s m meth c cX6_arrive 4 RX6 D ka Z (fA Z sz)) (hr : meth.sig.returnType = (some .int))  : ∀ (S : HS) (b0 : Nat) (b1 : Nat) (b2 : Nat) (x3 : Int32), wp_X6_arrive_29a post S b0 b1 b2 x3 → ∀ (H : Heap) (locs : List Loc) (ls : Array Slot), Hv D ka Z s (fA Z sz) S H locs → lv_has ls 4 [(0, .ref b0), (1, .ref b1), (2, .ref b2), (3, .int x3)] → W p l e rm_X6_arrive s m args below meth c H locs 0 0 (MQ below (Qx eI post D ka Z sz) args s 4 207 (fA Z sz)) (F0 m 29 ls []) := by
  intro S b0 b1 b2 x3 h H locs ls V hl
  refine lv_iload_n X.1.1 X.1.2.1 dX6_arrive_29 rfl (lv_at hl 3 rfl) ?_
  refine lv_if_ne (tgt := 40) X.1.1 X.1.2.1 dX6_arrive_30 (by decide) (fun c6 => ?_) (fun c6 => ?_)
  · have h := h.1 c6
    refine lv_iload_n X.1.1 X.1.2.1 dX6_arrive_40 rfl (lv_at hl 3 rfl) ?_
    refine lv_if_eq (tgt := 49) X.1.1 X.1.2.1 dX6_arrive_41 (by decide) (fun c7 => ?_) (fun c7 => ?_)
    · have h := h.1 c7
      refine lv_iload_n X.1.1 X.1.2.1 dX6_arrive_49 rfl (lv_at hl 3 rfl) ?_
      refine W.widen (k := 4) (n := 207) (by omega) (by omega) ?_
      exact W.iret X.1.1 X.1.2.1 hr (fun t ht _ => V.q (r := x3) h ht) V.2.1.2.2 dX6_arrive_50 X.1.2.2.2.2
    · have h := h.2 c7
      refine lv_aload_n X.1.1 X.1.2.1 dX6_arrive_44 rfl (lv_at hl 0 rfl) ?_
      refine lv_iload_n X.1.1 X.1.2.1 dX6_arrive_45 rfl (lv_at hl 3 rfl) ?_
      obtain ⟨k8, h⟩ := h
      refine r_callV (k := 7) (n := 1) (As := [.int x3]) X V (sd_X6_tally l D ka _ S _ b0 x3 h) k8 (by decide) (by decide) rfl wd_285 wd_286 wd_249 wd_287 wd_288 rfl rfl (by decide +kernel) ⟨Nat.le_of_ble_eq_true rfl, Nat.le_of_ble_eq_true rfl⟩ rfl hl.1 rfl (Nat.le_of_ble_eq_true rfl) dX6_arrive_46 ⟨show 0 ≤ 4 by omega, show 0 ≤ 207 by omega⟩ (fun r10 S9 H locs h m11 V => ?_)
      have k8 := m11.k k8 (by decide)
      refine lv_iload_n X.1.1 X.1.2.1 dX6_arrive_49 rfl (lv_at hl 3 rfl) ?_
      refine W.widen (k := 4) (n := 207) (by omega) (by omega) ?_
      exact W.iret X.1.1 X.1.2.1 hr (fun t ht _ => V.q (r := x3) h ht) V.2.1.2.2 dX6_arrive_50 X.1.2.2.2.2
  · have h := h.2 c6
    refine lv_aload_n X.1.1 X.1.2.1 dX6_arrive_33 rfl (lv_at hl 0 rfl) ?_
    refine lv_aload_n X.1.1 X.1.2.1 dX6_arrive_34 rfl (lv_at hl 1 rfl) ?_
    refine lv_aload_n X.1.1 X.1.2.1 dX6_arrive_35 rfl (lv_at hl 2 rfl) ?_
    obtain ⟨k12, h⟩ := h
    refine r_callV (k := 7) (n := 2) (As := [.ref b1, .ref b2]) X V (sd_X6_letIn l D ka _ S _ b0 b1 b2 h) k12 (by decide) (by decide) rfl wd_389 wd_390 wd_249 wd_391 wd_392 rfl rfl (by decide +kernel) ⟨Nat.le_of_ble_eq_true rfl, Nat.le_of_ble_eq_true rfl⟩ rfl hl.1 rfl (Nat.le_of_ble_eq_true rfl) dX6_arrive_36 ⟨show 4 ≤ 4 by omega, show 207 ≤ 207 by omega⟩ (fun r14 S13 H locs h m15 V => ?_)
    have k12 := m15.k k12 (by decide)
    refine W.widen (k := 4) (n := 207) (by omega) (by omega) ?_
    refine lv_istore_n (lv' := [(3, .int r14), (0, .ref b0), (1, .ref b1), (2, .ref b2)]) X.1.1 X.1.2.1 dX6_arrive_39 rfl hl (by decide) rfl (fun ls hl => ?_)
    refine lv_iload_n X.1.1 X.1.2.1 dX6_arrive_40 rfl (lv_at hl 0 rfl) ?_
    refine lv_if_eq (tgt := 49) X.1.1 X.1.2.1 dX6_arrive_41 (by decide) (fun c16 => ?_) (fun c16 => ?_)
    · have h := h.1 c16
      refine lv_iload_n X.1.1 X.1.2.1 dX6_arrive_49 rfl (lv_at hl 0 rfl) ?_
      refine W.widen (k := 4) (n := 207) (by omega) (by omega) ?_
      exact W.iret X.1.1 X.1.2.1 hr (fun t ht _ => V.q (r := r14) h ht) V.2.1.2.2 dX6_arrive_50 X.1.2.2.2.2
    · have h := h.2 c16
      refine lv_aload_n X.1.1 X.1.2.1 dX6_arrive_44 rfl (lv_at hl 1 rfl) ?_
      refine lv_iload_n X.1.1 X.1.2.1 dX6_arrive_45 rfl (lv_at hl 0 rfl) ?_
      refine r_callV (k := 7) (n := 1) (As := [.int r14]) X V (sd_X6_tally l D ka _ S13 _ b0 r14 h) k12 (by decide) (by decide) rfl wd_285 wd_286 wd_249 wd_287 wd_288 rfl rfl (by decide +kernel) ⟨Nat.le_of_ble_eq_true rfl, Nat.le_of_ble_eq_true rfl⟩ rfl hl.1 rfl (Nat.le_of_ble_eq_true rfl) dX6_arrive_46 ⟨show 4 ≤ 4 by omega, show 207 ≤ 207 by omega⟩ (fun r18 S17 H locs h m19 V => ?_)
      have k12 := m19.k k12 (by decide)
      refine lv_iload_n X.1.1 X.1.2.1 dX6_arrive_49 rfl (lv_at hl 0 rfl) ?_
      refine W.widen (k := 4) (n := 207) (by omega) (by omega) ?_
      exact W.iret X.1.1 X.1.2.1 hr (fun t ht _ => V.q (r := r14) h ht) V.2.1.2.2 dX6_arrive_50 X.1.2.2.2.2
def wp_X6_arrive (post : Int32 → HS → Prop) (S : HS) (a0 : Nat) (a1 : Nat) (a2 : Nat) : Prop := kd S a2 = 2 ∧ (wp_X5_faultOf (fun r3 S2 => ((¬ r3 = 0 → wp_X6_arrive_29a post S2 a0 a1 a2 r3) ∧ (r3 = 0 → kd S2 a0 = 7 ∧ (wp_X6_misfitOf (fun r22 S21 => wp_X6_arrive_29a post S21 a0 a1 a2 r22) S2 a0 a1 (fi S2 3 a2))))) S a1 (fi S 3 a2))
set_option maxHeartbeats 400000 in
set_option maxRecDepth 100000 in
theorem sd_X6_arrive (l : Launch) (D : va_G) (ka : Nat → ClassId) (sz : Nat) (Z : HS) (post : Int32 → HS → Prop) (a0 : Nat) (a1 : Nat) (a2 : Nat) (h : wp_X6_arrive post Z a0 a1 a2) : Met l yX6_arrive [Cond.code yX6_arrive cX6_arrive 4 (some .int)] rm_X6_arrive (Px D ka Z sz [.ref a0, .ref a1, .ref a2]) (Qx eI post D ka Z sz) 4 207 (fA Z sz) := by
  refine Met.ofW (cc := cX6_arrive) (maxL := 4) (ret := (some .int)) (by decide) rfl ?_
  intro p e s m args below meth c s₁ B hml hv
  obtain ⟨rfl, X, V, hsz⟩ := Cx.entry B hml hv
  have hr : meth.sig.returnType = (some .int) := B.returns
  have hl := lv_entry ([.ref a0, .ref a1, .ref a2]) (n := 4) (Nat.le_of_ble_eq_true rfl)
  rw [lg_entry_eq]
  generalize (lg_sl ([.ref a0, .ref a1, .ref a2]) ++ List.replicate (4 - (lg_sl ([.ref a0, .ref a1, .ref a2])).length) Slot.unset).toArray = ls at hl ⊢
  have hl : lv_has ls 4 [(0, .ref a0), (1, .ref a1), (2, .ref a2)] := hl
  have h : wp_X6_arrive post Z a0 a1 a2 := h
  refine lv_aload_n X.1.1 X.1.2.1 dX6_arrive_0 rfl (lv_at hl 2 rfl) ?_
  refine lv_ifnonnull (tgt := 6) X.1.1 X.1.2.1 dX6_arrive_1 (by decide) ?_
  refine lv_aload_n X.1.1 X.1.2.1 dX6_arrive_6 rfl (lv_at hl 1 rfl) ?_
  refine lv_aload_n X.1.1 X.1.2.1 dX6_arrive_7 rfl (lv_at hl 2 rfl) ?_
  obtain ⟨k1, h⟩ := h
  refine gf_X6_114 X V k1 dX6_arrive_8 ?_
  refine r_callS (n := 2) (As := [.ref a1, .int (fi Z 3 a2)]) X V (sd_X5_faultOf l D ka _ Z _ a1 (fi Z 3 a2) h) wd_386 wd_387 wd_126 wd_388 rfl rfl (by decide +kernel) ⟨Nat.le_of_ble_eq_true rfl, Nat.le_of_ble_eq_true rfl⟩ rfl hl.1 rfl (Nat.le_of_ble_eq_true rfl) dX6_arrive_11 ⟨show 0 ≤ 4 by omega, show 0 ≤ 207 by omega⟩ (fun r3 S2 H locs h m4 V => ?_)
  have k1 := m4.k k1 (by decide)
  refine lv_istore_n (lv' := [(3, .int r3), (0, .ref a0), (1, .ref a1), (2, .ref a2)]) X.1.1 X.1.2.1 dX6_arrive_14 rfl hl (by decide) rfl (fun ls hl => ?_)
  refine lv_iload_n X.1.1 X.1.2.1 dX6_arrive_15 rfl (lv_at hl 0 rfl) ?_
  refine lv_if_ne (tgt := 29) X.1.1 X.1.2.1 dX6_arrive_16 (by decide) (fun c5 => ?_) (fun c5 => ?_)
  · have h := h.1 c5
    exact sl_X6_arrive_29a l D ka sz Z post X hr S2 a0 a1 a2 r3 h _ _ _ V (lv_sub hl [1, 2, 3, 0] rfl)
  · have h := h.2 c5
    refine lv_aload_n X.1.1 X.1.2.1 dX6_arrive_19 rfl (lv_at hl 1 rfl) ?_
    refine lv_aload_n X.1.1 X.1.2.1 dX6_arrive_20 rfl (lv_at hl 2 rfl) ?_
    refine lv_aload_n X.1.1 X.1.2.1 dX6_arrive_21 rfl (lv_at hl 3 rfl) ?_
    refine gf_X6_114 X V k1 dX6_arrive_22 ?_
    obtain ⟨k20, h⟩ := h
    refine r_callV (k := 7) (n := 2) (As := [.ref a1, .int (fi S2 3 a2)]) X V (sd_X6_misfitOf l D ka _ S2 _ a0 a1 (fi S2 3 a2) h) k20 (by decide) (by decide) rfl wd_393 wd_394 wd_249 wd_395 wd_396 rfl rfl (by decide +kernel) ⟨Nat.le_of_ble_eq_true rfl, Nat.le_of_ble_eq_true rfl⟩ rfl hl.1 rfl (Nat.le_of_ble_eq_true rfl) dX6_arrive_25 ⟨show 0 ≤ 4 by omega, show 0 ≤ 207 by omega⟩ (fun r22 S21 H locs h m23 V => ?_)
    have k1 := m23.k k1 (by decide)
    have k20 := m23.k k20 (by decide)
    refine lv_istore_n (lv' := [(3, .int r22), (0, .ref a0), (1, .ref a1), (2, .ref a2)]) X.1.1 X.1.2.1 dX6_arrive_28 rfl hl (by decide) rfl (fun ls hl => ?_)
    exact sl_X6_arrive_29a l D ka sz Z post X hr S21 a0 a1 a2 r22 h _ _ _ V (lv_sub hl [1, 2, 3, 0] rfl)
abbrev rm_X6_deliver : Room := { frames := 10, cells := 4, slots := 207, locals := 243 }
def wp_X6_deliver (post : Int32 → HS → Prop) (S : HS) (a0 : Nat) (v1 : Int32) : Prop := kd S a0 = 7 ∧ (wp_X6_packetAt (fun r3 S2 => ((r3 = none → post (-1 : Int32) S2) ∧ (∀ o5 : Nat, r3 = some o5 → ∃ o7 : Nat, fr S2 23 a0 = some o7 ∧ (kd S2 o7 = 1 ∧ (wp_Jx4a65c_remove_915e3 (fun r11 S10 => ∃ o13 : Nat, r11 = some o13 ∧ (kd S10 o5 = 4 ∧ (∃ o16 : Nat, fr S10 12 o5 = some o16 ∧ (wp_X6_endpointAt (fun r19 S18 => ((r19 = none → False) ∧ (∀ o21 : Nat, r19 = some o21 → wp_X6_arrive (fun r24 S23 => post r24 S23) S18 a0 o16 o21))) S10 a0 (fi S10 13 o5))))) S2 o7 v1))))) S a0 v1)
set_option maxHeartbeats 400000 in
set_option maxRecDepth 100000 in
theorem sd_X6_deliver (l : Launch) (D : va_G) (ka : Nat → ClassId) (sz : Nat) (Z : HS) (post : Int32 → HS → Prop) (a0 : Nat) (v1 : Int32) (h : wp_X6_deliver post Z a0 v1) : Met l yX6_deliver [Cond.code yX6_deliver cX6_deliver 3 (some .int)] rm_X6_deliver (Px D ka Z sz [.ref a0, .int v1]) (Qx eI post D ka Z sz) 4 207 (fA Z sz) := by
  refine Met.ofW (cc := cX6_deliver) (maxL := 3) (ret := (some .int)) (by decide) rfl ?_
  intro p e s m args below meth c s₁ B hml hv
  obtain ⟨rfl, X, V, hsz⟩ := Cx.entry B hml hv
  have hr : meth.sig.returnType = (some .int) := B.returns
  have hl := lv_entry ([.ref a0, .int v1]) (n := 3) (Nat.le_of_ble_eq_true rfl)
  rw [lg_entry_eq]
  generalize (lg_sl ([.ref a0, .int v1]) ++ List.replicate (3 - (lg_sl ([.ref a0, .int v1])).length) Slot.unset).toArray = ls at hl ⊢
  have hl : lv_has ls 3 [(0, .ref a0), (1, .int v1)] := hl
  have h : wp_X6_deliver post Z a0 v1 := h
  refine lv_aload_n X.1.1 X.1.2.1 dX6_deliver_0 rfl (lv_at hl 0 rfl) ?_
  refine lv_iload_n X.1.1 X.1.2.1 dX6_deliver_1 rfl (lv_at hl 1 rfl) ?_
  obtain ⟨k1, h⟩ := h
  refine r_callV (k := 7) (n := 1) (As := [.int v1]) X V (sd_X6_packetAt l D ka _ Z _ a0 v1 h) k1 (by decide) (by decide) rfl wd_397 wd_398 wd_249 wd_399 wd_400 rfl rfl (by decide +kernel) ⟨Nat.le_of_ble_eq_true rfl, Nat.le_of_ble_eq_true rfl⟩ rfl hl.1 rfl (Nat.le_of_ble_eq_true rfl) dX6_deliver_2 ⟨show 0 ≤ 4 by omega, show 0 ≤ 207 by omega⟩ (fun r3 S2 H locs h m4 V => ?_)
  have k1 := m4.k k1 (by decide)
  cases r3 with
  | none =>
    have h := h.1 rfl
    refine lv_astore_nN (lv' := [(2, .null), (0, .ref a0), (1, .int v1)]) X.1.1 X.1.2.1 dX6_deliver_5 rfl hl (by decide) rfl (fun ls hl => ?_)
    refine lv_aload_nN X.1.1 X.1.2.1 dX6_deliver_6 rfl (lv_at hl 0 rfl) ?_
    refine lv_ifnonnullN X.1.1 X.1.2.1 dX6_deliver_7 ?_
    refine lv_iconst (v := (-1 : Int32)) X.1.1 X.1.2.1 dX6_deliver_10 (by decide) ?_
    refine W.widen (k := 4) (n := 207) (by omega) (by omega) ?_
    exact W.iret X.1.1 X.1.2.1 hr (fun t ht _ => V.q (r := (-1 : Int32)) h ht) V.2.1.2.2 dX6_deliver_11 X.1.2.2.2.2
  | some o5 =>
    have h := h.2 o5 rfl
    refine lv_astore_n (lv' := [(2, .ref o5), (0, .ref a0), (1, .int v1)]) X.1.1 X.1.2.1 dX6_deliver_5 rfl hl (by decide) rfl (fun ls hl => ?_)
    refine lv_aload_n X.1.1 X.1.2.1 dX6_deliver_6 rfl (lv_at hl 0 rfl) ?_
    refine lv_ifnonnull (tgt := 12) X.1.1 X.1.2.1 dX6_deliver_7 (by decide) ?_
    refine lv_aload_n X.1.1 X.1.2.1 dX6_deliver_12 rfl (lv_at hl 1 rfl) ?_
    obtain ⟨o7, e8, h⟩ := h
    refine gf_X6_22 X V k1 e8 dX6_deliver_13 ?_
    refine lv_iload_n X.1.1 X.1.2.1 dX6_deliver_16 rfl (lv_at hl 2 rfl) ?_
    obtain ⟨k9, h⟩ := h
    refine r_callV (k := 1) (n := 1) (As := [.int v1]) X V (sd_Jx4a65c_remove_915e3 l D ka _ S2 _ o7 v1 h) k9 (by decide) (by decide) rfl wd_133 wd_323 wd_39 wd_135 wd_136 rfl rfl (by decide +kernel) ⟨Nat.le_of_ble_eq_true rfl, Nat.le_of_ble_eq_true rfl⟩ rfl hl.1 rfl (Nat.le_of_ble_eq_true rfl) dX6_deliver_17 ⟨show 0 ≤ 4 by omega, show 0 ≤ 207 by omega⟩ (fun r11 S10 H locs h m12 V => ?_)
    have k1 := m12.k k1 (by decide)
    have k9 := m12.k k9 (by decide)
    obtain ⟨o13, e14, h⟩ := h
    subst e14
    refine lv_pop X.1.1 X.1.2.1 dX6_deliver_20 rfl ?_
    refine lv_aload_n X.1.1 X.1.2.1 dX6_deliver_21 rfl (lv_at hl 1 rfl) ?_
    refine lv_aload_n X.1.1 X.1.2.1 dX6_deliver_22 rfl (lv_at hl 0 rfl) ?_
    obtain ⟨k15, h⟩ := h
    obtain ⟨o16, e17, h⟩ := h
    refine gf_X6_145 X V k15 e17 dX6_deliver_23 ?_
    refine lv_aload_n X.1.1 X.1.2.1 dX6_deliver_26 rfl (lv_at hl 1 rfl) ?_
    refine lv_aload_n X.1.1 X.1.2.1 dX6_deliver_27 rfl (lv_at hl 0 rfl) ?_
    refine gf_X6_150 X V k15 dX6_deliver_28 ?_
    refine r_callV (k := 7) (n := 1) (As := [.int (fi S10 13 o5)]) X V (sd_X6_endpointAt l D ka _ S10 _ a0 (fi S10 13 o5) h) k1 (by decide) (by decide) rfl wd_247 wd_248 wd_249 wd_250 wd_251 rfl rfl (by decide +kernel) ⟨Nat.le_of_ble_eq_true rfl, Nat.le_of_ble_eq_true rfl⟩ rfl hl.1 rfl (Nat.le_of_ble_eq_true rfl) dX6_deliver_31 ⟨show 0 ≤ 4 by omega, show 0 ≤ 207 by omega⟩ (fun r19 S18 H locs h m20 V => ?_)
    have k1 := m20.k k1 (by decide)
    have k9 := m20.k k9 (by decide)
    have k15 := m20.k k15 (by decide)
    cases r19 with
    | none =>
      have h := h.1 rfl
      exact h.elim
    | some o21 =>
      have h := h.2 o21 rfl
      refine r_callV (k := 7) (n := 2) (As := [.ref o16, .ref o21]) X V (sd_X6_arrive l D ka _ S18 _ a0 o16 o21 h) k1 (by decide) (by decide) rfl wd_403 wd_404 wd_249 wd_405 wd_406 rfl rfl (by decide +kernel) ⟨Nat.le_of_ble_eq_true rfl, Nat.le_of_ble_eq_true rfl⟩ rfl hl.1 rfl (Nat.le_of_ble_eq_true rfl) dX6_deliver_34 ⟨show 4 ≤ 4 by omega, show 207 ≤ 207 by omega⟩ (fun r24 S23 H locs h m25 V => ?_)
      have k1 := m25.k k1 (by decide)
      have k9 := m25.k k9 (by decide)
      have k15 := m25.k k15 (by decide)
      refine W.widen (k := 4) (n := 207) (by omega) (by omega) ?_
      refine W.widen (k := 4) (n := 207) (by omega) (by omega) ?_
      exact W.iret X.1.1 X.1.2.1 hr (fun t ht _ => V.q (r := r24) h ht) V.2.1.2.2 dX6_deliver_37 X.1.2.2.2.2
abbrev rm_X6_twice : Room := { frames := 10, cells := 4, slots := 207, locals := 243 }
def wp_X6_twice (post : Int32 → HS → Prop) (S : HS) (a0 : Nat) (v1 : Int32) : Prop := kd S a0 = 7 ∧ (wp_X6_packetAt (fun r3 S2 => ((r3 = none → post (-1 : Int32) S2) ∧ (∀ o5 : Nat, r3 = some o5 → kd S2 o5 = 4 ∧ (∃ o8 : Nat, fr S2 12 o5 = some o8 ∧ (wp_X6_endpointAt (fun r11 S10 => ((r11 = none → False) ∧ (∀ o13 : Nat, r11 = some o13 → wp_X6_arrive (fun r16 S15 => post r16 S15) S10 a0 o8 o13))) S2 a0 (fi S2 13 o5)))))) S a0 v1)
set_option maxHeartbeats 400000 in
set_option maxRecDepth 100000 in
theorem sd_X6_twice (l : Launch) (D : va_G) (ka : Nat → ClassId) (sz : Nat) (Z : HS) (post : Int32 → HS → Prop) (a0 : Nat) (v1 : Int32) (h : wp_X6_twice post Z a0 v1) : Met l yX6_twice [Cond.code yX6_twice cX6_twice 3 (some .int)] rm_X6_twice (Px D ka Z sz [.ref a0, .int v1]) (Qx eI post D ka Z sz) 4 207 (fA Z sz) := by
  refine Met.ofW (cc := cX6_twice) (maxL := 3) (ret := (some .int)) (by decide) rfl ?_
  intro p e s m args below meth c s₁ B hml hv
  obtain ⟨rfl, X, V, hsz⟩ := Cx.entry B hml hv
  have hr : meth.sig.returnType = (some .int) := B.returns
  have hl := lv_entry ([.ref a0, .int v1]) (n := 3) (Nat.le_of_ble_eq_true rfl)
  rw [lg_entry_eq]
  generalize (lg_sl ([.ref a0, .int v1]) ++ List.replicate (3 - (lg_sl ([.ref a0, .int v1])).length) Slot.unset).toArray = ls at hl ⊢
  have hl : lv_has ls 3 [(0, .ref a0), (1, .int v1)] := hl
  have h : wp_X6_twice post Z a0 v1 := h
  refine lv_aload_n X.1.1 X.1.2.1 dX6_twice_0 rfl (lv_at hl 0 rfl) ?_
  refine lv_iload_n X.1.1 X.1.2.1 dX6_twice_1 rfl (lv_at hl 1 rfl) ?_
  obtain ⟨k1, h⟩ := h
  refine r_callV (k := 7) (n := 1) (As := [.int v1]) X V (sd_X6_packetAt l D ka _ Z _ a0 v1 h) k1 (by decide) (by decide) rfl wd_397 wd_398 wd_249 wd_399 wd_400 rfl rfl (by decide +kernel) ⟨Nat.le_of_ble_eq_true rfl, Nat.le_of_ble_eq_true rfl⟩ rfl hl.1 rfl (Nat.le_of_ble_eq_true rfl) dX6_twice_2 ⟨show 0 ≤ 4 by omega, show 0 ≤ 207 by omega⟩ (fun r3 S2 H locs h m4 V => ?_)
  have k1 := m4.k k1 (by decide)
  cases r3 with
  | none =>
    have h := h.1 rfl
    refine lv_astore_nN (lv' := [(2, .null), (0, .ref a0), (1, .int v1)]) X.1.1 X.1.2.1 dX6_twice_5 rfl hl (by decide) rfl (fun ls hl => ?_)
    refine lv_aload_nN X.1.1 X.1.2.1 dX6_twice_6 rfl (lv_at hl 0 rfl) ?_
    refine lv_ifnonnullN X.1.1 X.1.2.1 dX6_twice_7 ?_
    refine lv_iconst (v := (-1 : Int32)) X.1.1 X.1.2.1 dX6_twice_10 (by decide) ?_
    refine W.widen (k := 4) (n := 207) (by omega) (by omega) ?_
    exact W.iret X.1.1 X.1.2.1 hr (fun t ht _ => V.q (r := (-1 : Int32)) h ht) V.2.1.2.2 dX6_twice_11 X.1.2.2.2.2
  | some o5 =>
    have h := h.2 o5 rfl
    refine lv_astore_n (lv' := [(2, .ref o5), (0, .ref a0), (1, .int v1)]) X.1.1 X.1.2.1 dX6_twice_5 rfl hl (by decide) rfl (fun ls hl => ?_)
    refine lv_aload_n X.1.1 X.1.2.1 dX6_twice_6 rfl (lv_at hl 0 rfl) ?_
    refine lv_ifnonnull (tgt := 12) X.1.1 X.1.2.1 dX6_twice_7 (by decide) ?_
    refine lv_aload_n X.1.1 X.1.2.1 dX6_twice_12 rfl (lv_at hl 1 rfl) ?_
    refine lv_aload_n X.1.1 X.1.2.1 dX6_twice_13 rfl (lv_at hl 0 rfl) ?_
    obtain ⟨k7, h⟩ := h
    obtain ⟨o8, e9, h⟩ := h
    refine gf_X6_145 X V k7 e9 dX6_twice_14 ?_
    refine lv_aload_n X.1.1 X.1.2.1 dX6_twice_17 rfl (lv_at hl 1 rfl) ?_
    refine lv_aload_n X.1.1 X.1.2.1 dX6_twice_18 rfl (lv_at hl 0 rfl) ?_
    refine gf_X6_150 X V k7 dX6_twice_19 ?_
    refine r_callV (k := 7) (n := 1) (As := [.int (fi S2 13 o5)]) X V (sd_X6_endpointAt l D ka _ S2 _ a0 (fi S2 13 o5) h) k1 (by decide) (by decide) rfl wd_247 wd_248 wd_249 wd_250 wd_251 rfl rfl (by decide +kernel) ⟨Nat.le_of_ble_eq_true rfl, Nat.le_of_ble_eq_true rfl⟩ rfl hl.1 rfl (Nat.le_of_ble_eq_true rfl) dX6_twice_22 ⟨show 0 ≤ 4 by omega, show 0 ≤ 207 by omega⟩ (fun r11 S10 H locs h m12 V => ?_)
    have k1 := m12.k k1 (by decide)
    have k7 := m12.k k7 (by decide)
    cases r11 with
    | none =>
      have h := h.1 rfl
      exact h.elim
    | some o13 =>
      have h := h.2 o13 rfl
      refine r_callV (k := 7) (n := 2) (As := [.ref o8, .ref o13]) X V (sd_X6_arrive l D ka _ S10 _ a0 o8 o13 h) k1 (by decide) (by decide) rfl wd_403 wd_404 wd_249 wd_405 wd_406 rfl rfl (by decide +kernel) ⟨Nat.le_of_ble_eq_true rfl, Nat.le_of_ble_eq_true rfl⟩ rfl hl.1 rfl (Nat.le_of_ble_eq_true rfl) dX6_twice_25 ⟨show 4 ≤ 4 by omega, show 207 ≤ 207 by omega⟩ (fun r16 S15 H locs h m17 V => ?_)
      have k1 := m17.k k1 (by decide)
      have k7 := m17.k k7 (by decide)
      refine W.widen (k := 4) (n := 207) (by omega) (by omega) ?_
      refine W.widen (k := 4) (n := 207) (by omega) (by omega) ?_
      exact W.iret X.1.1 X.1.2.1 hr (fun t ht _ => V.q (r := r16) h ht) V.2.1.2.2 dX6_twice_28 X.1.2.2.2.2
abbrev rm_X6_lose : Room := { frames := 4, cells := 0, slots := 0, locals := 86 }
def wp_X6_lose (post : Int32 → HS → Prop) (S : HS) (a0 : Nat) (v1 : Int32) : Prop := kd S a0 = 7 ∧ (wp_X6_packetAt (fun r3 S2 => ((r3 = none → post (0 : Int32) S2) ∧ (∀ o5 : Nat, r3 = some o5 → ∃ o7 : Nat, fr S2 23 a0 = some o7 ∧ (kd S2 o7 = 1 ∧ (wp_Jx4a65c_remove_915e3 (fun r11 S10 => ∃ o13 : Nat, r11 = some o13 ∧ (post (1 : Int32) S10)) S2 o7 v1))))) S a0 v1)
set_option maxHeartbeats 400000 in
set_option maxRecDepth 100000 in
theorem sd_X6_lose (l : Launch) (D : va_G) (ka : Nat → ClassId) (sz : Nat) (Z : HS) (post : Int32 → HS → Prop) (a0 : Nat) (v1 : Int32) (h : wp_X6_lose post Z a0 v1) : Met l yX6_lose [Cond.code yX6_lose cX6_lose 2 (some .boolean)] rm_X6_lose (Px D ka Z sz [.ref a0, .int v1]) (Qx eI post D ka Z sz) 0 0 (fA Z sz) := by
  refine Met.ofW (cc := cX6_lose) (maxL := 2) (ret := (some .boolean)) (by decide) rfl ?_
  intro p e s m args below meth c s₁ B hml hv
  obtain ⟨rfl, X, V, hsz⟩ := Cx.entry B hml hv
  have hr : meth.sig.returnType = (some .boolean) := B.returns
  have hl := lv_entry ([.ref a0, .int v1]) (n := 2) (Nat.le_of_ble_eq_true rfl)
  rw [lg_entry_eq]
  generalize (lg_sl ([.ref a0, .int v1]) ++ List.replicate (2 - (lg_sl ([.ref a0, .int v1])).length) Slot.unset).toArray = ls at hl ⊢
  have hl : lv_has ls 2 [(0, .ref a0), (1, .int v1)] := hl
  have h : wp_X6_lose post Z a0 v1 := h
  refine lv_aload_n X.1.1 X.1.2.1 dX6_lose_0 rfl (lv_at hl 0 rfl) ?_
  refine lv_iload_n X.1.1 X.1.2.1 dX6_lose_1 rfl (lv_at hl 1 rfl) ?_
  obtain ⟨k1, h⟩ := h
  refine r_callV (k := 7) (n := 1) (As := [.int v1]) X V (sd_X6_packetAt l D ka _ Z _ a0 v1 h) k1 (by decide) (by decide) rfl wd_397 wd_398 wd_249 wd_399 wd_400 rfl rfl (by decide +kernel) ⟨Nat.le_of_ble_eq_true rfl, Nat.le_of_ble_eq_true rfl⟩ rfl hl.1 rfl (Nat.le_of_ble_eq_true rfl) dX6_lose_2 ⟨show 0 ≤ 0 by omega, show 0 ≤ 0 by omega⟩ (fun r3 S2 H locs h m4 V => ?_)
  have k1 := m4.k k1 (by decide)
  cases r3 with
  | none =>
    have h := h.1 rfl
    refine lv_ifnonnullN X.1.1 X.1.2.1 dX6_lose_5 ?_
    refine lv_iconst (v := (0 : Int32)) X.1.1 X.1.2.1 dX6_lose_8 (by decide) ?_
    exact W.zret X.1.1 X.1.2.1 hr (by decide) (fun t ht _ => V.q (r := (0 : Int32)) h ht) V.2.1.2.2 dX6_lose_9 X.1.2.2.2.2
  | some o5 =>
    have h := h.2 o5 rfl
    refine lv_ifnonnull (tgt := 10) X.1.1 X.1.2.1 dX6_lose_5 (by decide) ?_
    refine lv_aload_n X.1.1 X.1.2.1 dX6_lose_10 rfl (lv_at hl 0 rfl) ?_
    obtain ⟨o7, e8, h⟩ := h
    refine gf_X6_22 X V k1 e8 dX6_lose_11 ?_
    refine lv_iload_n X.1.1 X.1.2.1 dX6_lose_14 rfl (lv_at hl 1 rfl) ?_
    obtain ⟨k9, h⟩ := h
    refine r_callV (k := 1) (n := 1) (As := [.int v1]) X V (sd_Jx4a65c_remove_915e3 l D ka _ S2 _ o7 v1 h) k9 (by decide) (by decide) rfl wd_133 wd_323 wd_39 wd_135 wd_136 rfl rfl (by decide +kernel) ⟨Nat.le_of_ble_eq_true rfl, Nat.le_of_ble_eq_true rfl⟩ rfl hl.1 rfl (Nat.le_of_ble_eq_true rfl) dX6_lose_15 ⟨show 0 ≤ 0 by omega, show 0 ≤ 0 by omega⟩ (fun r11 S10 H locs h m12 V => ?_)
    have k1 := m12.k k1 (by decide)
    have k9 := m12.k k9 (by decide)
    obtain ⟨o13, e14, h⟩ := h
    subst e14
    refine lv_pop X.1.1 X.1.2.1 dX6_lose_18 rfl ?_
    refine lv_iconst (v := (1 : Int32)) X.1.1 X.1.2.1 dX6_lose_19 (by decide) ?_
    exact W.zret X.1.1 X.1.2.1 hr (by decide) (fun t ht _ => V.q (r := (1 : Int32)) h ht) V.2.1.2.2 dX6_lose_20 X.1.2.2.2.2
abbrev rm_X6_inject : Room := { frames := 10, cells := 4, slots := 207, locals := 243 }
def wp_X6_inject (post : Int32 → HS → Prop) (S : HS) (a0 : Nat) (v1 : Int32) : Prop := kd S a0 = 7 ∧ (wp_X6_endpointAt (fun r3 S2 => ((r3 = none → post (-1 : Int32) S2) ∧ (∀ o5 : Nat, r3 = some o5 → ∃ o7 : Nat, fr S2 24 a0 = some o7 ∧ (wp_X6_arrive (fun r10 S9 => ∃ o12 : Nat, fr S9 24 a0 = some o12 ∧ (kd S9 o12 = 5 ∧ (wp_X3_clear (fun _ S15 => post r10 S15) S9 o12))) S2 a0 o7 o5)))) S a0 v1)
set_option maxHeartbeats 400000 in
set_option maxRecDepth 100000 in
theorem sd_X6_inject (l : Launch) (D : va_G) (ka : Nat → ClassId) (sz : Nat) (Z : HS) (post : Int32 → HS → Prop) (a0 : Nat) (v1 : Int32) (h : wp_X6_inject post Z a0 v1) : Met l yX6_inject [Cond.code yX6_inject cX6_inject 4 (some .int)] rm_X6_inject (Px D ka Z sz [.ref a0, .int v1]) (Qx eI post D ka Z sz) 4 207 (fA Z sz) := by
  refine Met.ofW (cc := cX6_inject) (maxL := 4) (ret := (some .int)) (by decide) rfl ?_
  intro p e s m args below meth c s₁ B hml hv
  obtain ⟨rfl, X, V, hsz⟩ := Cx.entry B hml hv
  have hr : meth.sig.returnType = (some .int) := B.returns
  have hl := lv_entry ([.ref a0, .int v1]) (n := 4) (Nat.le_of_ble_eq_true rfl)
  rw [lg_entry_eq]
  generalize (lg_sl ([.ref a0, .int v1]) ++ List.replicate (4 - (lg_sl ([.ref a0, .int v1])).length) Slot.unset).toArray = ls at hl ⊢
  have hl : lv_has ls 4 [(0, .ref a0), (1, .int v1)] := hl
  have h : wp_X6_inject post Z a0 v1 := h
  refine lv_aload_n X.1.1 X.1.2.1 dX6_inject_0 rfl (lv_at hl 0 rfl) ?_
  refine lv_iload_n X.1.1 X.1.2.1 dX6_inject_1 rfl (lv_at hl 1 rfl) ?_
  obtain ⟨k1, h⟩ := h
  refine r_callV (k := 7) (n := 1) (As := [.int v1]) X V (sd_X6_endpointAt l D ka _ Z _ a0 v1 h) k1 (by decide) (by decide) rfl wd_247 wd_248 wd_249 wd_250 wd_251 rfl rfl (by decide +kernel) ⟨Nat.le_of_ble_eq_true rfl, Nat.le_of_ble_eq_true rfl⟩ rfl hl.1 rfl (Nat.le_of_ble_eq_true rfl) dX6_inject_2 ⟨show 0 ≤ 4 by omega, show 0 ≤ 207 by omega⟩ (fun r3 S2 H locs h m4 V => ?_)
  have k1 := m4.k k1 (by decide)
  cases r3 with
  | none =>
    have h := h.1 rfl
    refine lv_astore_nN (lv' := [(2, .null), (0, .ref a0), (1, .int v1)]) X.1.1 X.1.2.1 dX6_inject_5 rfl hl (by decide) rfl (fun ls hl => ?_)
    refine lv_aload_nN X.1.1 X.1.2.1 dX6_inject_6 rfl (lv_at hl 0 rfl) ?_
    refine lv_ifnonnullN X.1.1 X.1.2.1 dX6_inject_7 ?_
    refine lv_iconst (v := (-1 : Int32)) X.1.1 X.1.2.1 dX6_inject_10 (by decide) ?_
    refine W.widen (k := 4) (n := 207) (by omega) (by omega) ?_
    exact W.iret X.1.1 X.1.2.1 hr (fun t ht _ => V.q (r := (-1 : Int32)) h ht) V.2.1.2.2 dX6_inject_11 X.1.2.2.2.2
  | some o5 =>
    have h := h.2 o5 rfl
    refine lv_astore_n (lv' := [(2, .ref o5), (0, .ref a0), (1, .int v1)]) X.1.1 X.1.2.1 dX6_inject_5 rfl hl (by decide) rfl (fun ls hl => ?_)
    refine lv_aload_n X.1.1 X.1.2.1 dX6_inject_6 rfl (lv_at hl 0 rfl) ?_
    refine lv_ifnonnull (tgt := 12) X.1.1 X.1.2.1 dX6_inject_7 (by decide) ?_
    refine lv_aload_n X.1.1 X.1.2.1 dX6_inject_12 rfl (lv_at hl 1 rfl) ?_
    refine lv_aload_n X.1.1 X.1.2.1 dX6_inject_13 rfl (lv_at hl 1 rfl) ?_
    obtain ⟨o7, e8, h⟩ := h
    refine gf_X6_30 X V k1 e8 dX6_inject_14 ?_
    refine lv_aload_n X.1.1 X.1.2.1 dX6_inject_17 rfl (lv_at hl 0 rfl) ?_
    refine r_callV (k := 7) (n := 2) (As := [.ref o7, .ref o5]) X V (sd_X6_arrive l D ka _ S2 _ a0 o7 o5 h) k1 (by decide) (by decide) rfl wd_403 wd_404 wd_249 wd_405 wd_406 rfl rfl (by decide +kernel) ⟨Nat.le_of_ble_eq_true rfl, Nat.le_of_ble_eq_true rfl⟩ rfl hl.1 rfl (Nat.le_of_ble_eq_true rfl) dX6_inject_18 ⟨show 4 ≤ 4 by omega, show 207 ≤ 207 by omega⟩ (fun r10 S9 H locs h m11 V => ?_)
    have k1 := m11.k k1 (by decide)
    refine W.widen (k := 4) (n := 207) (by omega) (by omega) ?_
    refine lv_istore_n (lv' := [(3, .int r10), (2, .ref o5), (0, .ref a0), (1, .int v1)]) X.1.1 X.1.2.1 dX6_inject_21 rfl hl (by decide) rfl (fun ls hl => ?_)
    refine lv_aload_n X.1.1 X.1.2.1 dX6_inject_22 rfl (lv_at hl 2 rfl) ?_
    obtain ⟨o12, e13, h⟩ := h
    refine gf_X6_30 X V k1 e13 dX6_inject_23 ?_
    obtain ⟨k14, h⟩ := h
    refine r_callV (k := 5) (n := 0) (As := []) X V (sd_X3_clear l D ka _ S9 _ o12 h) k14 (by decide) (by decide) rfl wd_338 wd_339 wd_8 wd_340 wd_341 rfl rfl (by decide +kernel) ⟨Nat.le_of_ble_eq_true rfl, Nat.le_of_ble_eq_true rfl⟩ rfl hl.1 rfl (Nat.le_of_ble_eq_true rfl) dX6_inject_26 ⟨show 4 ≤ 4 by omega, show 207 ≤ 207 by omega⟩ (fun r16 S15 H locs h m17 V => ?_)
    have k1 := m17.k k1 (by decide)
    have k14 := m17.k k14 (by decide)
    refine lv_iload_n X.1.1 X.1.2.1 dX6_inject_29 rfl (lv_at hl 0 rfl) ?_
    refine W.widen (k := 4) (n := 207) (by omega) (by omega) ?_
    exact W.iret X.1.1 X.1.2.1 hr (fun t ht _ => V.q (r := r10) h ht) V.2.1.2.2 dX6_inject_30 X.1.2.2.2.2
abbrev rm_X6_poke : Room := { frames := 4, cells := 0, slots := 0, locals := 85 }
def wp_X6_poke (post : Int32 → HS → Prop) (S : HS) (a0 : Nat) (v1 : Int32) (v2 : Int32) (v3 : Int32) : Prop := kd S a0 = 7 ∧ (wp_X6_packetAt (fun r3 S2 => ((r3 = none → post (0 : Int32) S2) ∧ (∀ o5 : Nat, r3 = some o5 → kd S2 o5 = 4 ∧ (∃ o8 : Nat, fr S2 12 o5 = some o8 ∧ (kd S2 o8 = 5 ∧ (wp_X3_holds (fun r12 S11 => ((r12 = 0 → post (0 : Int32) S11) ∧ (¬ r12 = 0 → ((v3 < (1 : Int32) → post (0 : Int32) S11) ∧ (¬ v3 < (1 : Int32) → ((v3 ≤ (255 : Int32) → ∃ o17 : Nat, fr S11 12 o5 = some o17 ∧ (kd S11 o17 = 5 ∧ (wp_X3_turn (fun _ S20 => post (1 : Int32) S20) S11 o17 v2 v3))) ∧ (¬ v3 ≤ (255 : Int32) → post (0 : Int32) S11))))))) S2 o8 v2)))))) S a0 v1)
set_option maxHeartbeats 400000 in
set_option maxRecDepth 100000 in
theorem sd_X6_poke (l : Launch) (D : va_G) (ka : Nat → ClassId) (sz : Nat) (Z : HS) (post : Int32 → HS → Prop) (a0 : Nat) (v1 : Int32) (v2 : Int32) (v3 : Int32) (h : wp_X6_poke post Z a0 v1 v2 v3) : Met l yX6_poke [Cond.code yX6_poke cX6_poke 5 (some .boolean)] rm_X6_poke (Px D ka Z sz [.ref a0, .int v1, .int v2, .int v3]) (Qx eI post D ka Z sz) 0 0 (fA Z sz) := by
  refine Met.ofW (cc := cX6_poke) (maxL := 5) (ret := (some .boolean)) (by decide) rfl ?_
  intro p e s m args below meth c s₁ B hml hv
  obtain ⟨rfl, X, V, hsz⟩ := Cx.entry B hml hv
  have hr : meth.sig.returnType = (some .boolean) := B.returns
  have hl := lv_entry ([.ref a0, .int v1, .int v2, .int v3]) (n := 5) (Nat.le_of_ble_eq_true rfl)
  rw [lg_entry_eq]
  generalize (lg_sl ([.ref a0, .int v1, .int v2, .int v3]) ++ List.replicate (5 - (lg_sl ([.ref a0, .int v1, .int v2, .int v3])).length) Slot.unset).toArray = ls at hl ⊢
  have hl : lv_has ls 5 [(0, .ref a0), (1, .int v1), (2, .int v2), (3, .int v3)] := hl
  have h : wp_X6_poke post Z a0 v1 v2 v3 := h
  refine lv_aload_n X.1.1 X.1.2.1 dX6_poke_0 rfl (lv_at hl 0 rfl) ?_
  refine lv_iload_n X.1.1 X.1.2.1 dX6_poke_1 rfl (lv_at hl 1 rfl) ?_
  obtain ⟨k1, h⟩ := h
  refine r_callV (k := 7) (n := 1) (As := [.int v1]) X V (sd_X6_packetAt l D ka _ Z _ a0 v1 h) k1 (by decide) (by decide) rfl wd_397 wd_398 wd_249 wd_399 wd_400 rfl rfl (by decide +kernel) ⟨Nat.le_of_ble_eq_true rfl, Nat.le_of_ble_eq_true rfl⟩ rfl hl.1 rfl (Nat.le_of_ble_eq_true rfl) dX6_poke_2 ⟨show 0 ≤ 0 by omega, show 0 ≤ 0 by omega⟩ (fun r3 S2 H locs h m4 V => ?_)
  have k1 := m4.k k1 (by decide)
  cases r3 with
  | none =>
    have h := h.1 rfl
    refine lv_astoreN (lv' := [(4, .null), (0, .ref a0), (1, .int v1), (2, .int v2), (3, .int v3)]) X.1.1 X.1.2.1 dX6_poke_5 hl (by decide) rfl (fun ls hl => ?_)
    refine lv_aloadN X.1.1 X.1.2.1 dX6_poke_7 (lv_at hl 0 rfl) ?_
    refine lv_ifnullN (tgt := 36) X.1.1 X.1.2.1 dX6_poke_9 (by decide) ?_
    refine lv_iconst (v := (0 : Int32)) X.1.1 X.1.2.1 dX6_poke_36 (by decide) ?_
    exact W.zret X.1.1 X.1.2.1 hr (by decide) (fun t ht _ => V.q (r := (0 : Int32)) h ht) V.2.1.2.2 dX6_poke_37 X.1.2.2.2.2
  | some o5 =>
    have h := h.2 o5 rfl
    refine lv_astore (lv' := [(4, .ref o5), (0, .ref a0), (1, .int v1), (2, .int v2), (3, .int v3)]) X.1.1 X.1.2.1 dX6_poke_5 hl (by decide) rfl (fun ls hl => ?_)
    refine lv_aload X.1.1 X.1.2.1 dX6_poke_7 (lv_at hl 0 rfl) ?_
    refine lv_ifnull X.1.1 X.1.2.1 dX6_poke_9 ?_
    refine lv_aload X.1.1 X.1.2.1 dX6_poke_12 (lv_at hl 0 rfl) ?_
    obtain ⟨k7, h⟩ := h
    obtain ⟨o8, e9, h⟩ := h
    refine gf_X6_145 X V k7 e9 dX6_poke_14 ?_
    refine lv_iload_n X.1.1 X.1.2.1 dX6_poke_17 rfl (lv_at hl 3 rfl) ?_
    obtain ⟨k10, h⟩ := h
    refine r_callV (k := 5) (n := 1) (As := [.int v2]) X V (sd_X3_holds l D ka _ S2 _ o8 v2 h) k10 (by decide) (by decide) rfl wd_407 wd_408 wd_8 wd_409 wd_410 rfl rfl (by decide +kernel) ⟨Nat.le_of_ble_eq_true rfl, Nat.le_of_ble_eq_true rfl⟩ rfl hl.1 rfl (Nat.le_of_ble_eq_true rfl) dX6_poke_18 ⟨show 0 ≤ 0 by omega, show 0 ≤ 0 by omega⟩ (fun r12 S11 H locs h m13 V => ?_)
    have k1 := m13.k k1 (by decide)
    have k7 := m13.k k7 (by decide)
    have k10 := m13.k k10 (by decide)
    refine lv_if_eq (tgt := 36) X.1.1 X.1.2.1 dX6_poke_21 (by decide) (fun c14 => ?_) (fun c14 => ?_)
    · have h := h.1 c14
      refine lv_iconst (v := (0 : Int32)) X.1.1 X.1.2.1 dX6_poke_36 (by decide) ?_
      exact W.zret X.1.1 X.1.2.1 hr (by decide) (fun t ht _ => V.q (r := (0 : Int32)) h ht) V.2.1.2.2 dX6_poke_37 X.1.2.2.2.2
    · have h := h.2 c14
      refine lv_iload_n X.1.1 X.1.2.1 dX6_poke_24 rfl (lv_at hl 4 rfl) ?_
      refine lv_iconst (v := (1 : Int32)) X.1.1 X.1.2.1 dX6_poke_25 (by decide) ?_
      refine lv_icmp_lt (tgt := 36) X.1.1 X.1.2.1 dX6_poke_26 (by decide) (fun c15 => ?_) (fun c15 => ?_)
      · have h := h.1 c15
        refine lv_iconst (v := (0 : Int32)) X.1.1 X.1.2.1 dX6_poke_36 (by decide) ?_
        exact W.zret X.1.1 X.1.2.1 hr (by decide) (fun t ht _ => V.q (r := (0 : Int32)) h ht) V.2.1.2.2 dX6_poke_37 X.1.2.2.2.2
      · have h := h.2 c15
        refine lv_iload_n X.1.1 X.1.2.1 dX6_poke_29 rfl (lv_at hl 4 rfl) ?_
        refine lv_sipush (v := (255 : Int32)) X.1.1 X.1.2.1 dX6_poke_30 (by decide) ?_
        refine lv_icmp_le (tgt := 38) X.1.1 X.1.2.1 dX6_poke_33 (by decide) (fun c16 => ?_) (fun c16 => ?_)
        · have h := h.1 c16
          refine lv_aload X.1.1 X.1.2.1 dX6_poke_38 (lv_at hl 0 rfl) ?_
          obtain ⟨o17, e18, h⟩ := h
          refine gf_X6_145 X V k7 e18 dX6_poke_40 ?_
          refine lv_iload_n X.1.1 X.1.2.1 dX6_poke_43 rfl (lv_at hl 3 rfl) ?_
          refine lv_iload_n X.1.1 X.1.2.1 dX6_poke_44 rfl (lv_at hl 4 rfl) ?_
          obtain ⟨k19, h⟩ := h
          refine r_callV (k := 5) (n := 2) (As := [.int v2, .int v3]) X V (sd_X3_turn l D ka _ S11 _ o17 v2 v3 h) k19 (by decide) (by decide) rfl wd_411 wd_412 wd_8 wd_413 wd_414 rfl rfl (by decide +kernel) ⟨Nat.le_of_ble_eq_true rfl, Nat.le_of_ble_eq_true rfl⟩ rfl hl.1 rfl (Nat.le_of_ble_eq_true rfl) dX6_poke_45 ⟨show 0 ≤ 0 by omega, show 0 ≤ 0 by omega⟩ (fun r21 S20 H locs h m22 V => ?_)
          have k1 := m22.k k1 (by decide)
          have k7 := m22.k k7 (by decide)
          have k10 := m22.k k10 (by decide)
          have k19 := m22.k k19 (by decide)
          refine lv_iconst (v := (1 : Int32)) X.1.1 X.1.2.1 dX6_poke_48 (by decide) ?_
          exact W.zret X.1.1 X.1.2.1 hr (by decide) (fun t ht _ => V.q (r := (1 : Int32)) h ht) V.2.1.2.2 dX6_poke_49 X.1.2.2.2.2
        · have h := h.2 c16
          refine lv_iconst (v := (0 : Int32)) X.1.1 X.1.2.1 dX6_poke_36 (by decide) ?_
          exact W.zret X.1.1 X.1.2.1 hr (by decide) (fun t ht _ => V.q (r := (0 : Int32)) h ht) V.2.1.2.2 dX6_poke_37 X.1.2.2.2.2
abbrev rm_X6_flying : Room := { frames := 1, cells := 0, slots := 0, locals := 20 }
def wp_X6_flying (post : Int32 → HS → Prop) (S : HS) (a0 : Nat) : Prop := kd S a0 = 7 ∧ (∃ o2 : Nat, fr S 23 a0 = some o2 ∧ (kd S o2 = 1 ∧ (wp_Jx4a65c_size_8abf5 (fun r6 S5 => post r6 S5) S o2)))
set_option maxHeartbeats 400000 in
set_option maxRecDepth 100000 in
theorem sd_X6_flying (l : Launch) (D : va_G) (ka : Nat → ClassId) (sz : Nat) (Z : HS) (post : Int32 → HS → Prop) (a0 : Nat) (h : wp_X6_flying post Z a0) : Met l yX6_flying [Cond.code yX6_flying cX6_flying 1 (some .int)] rm_X6_flying (Px D ka Z sz [.ref a0]) (Qx eI post D ka Z sz) 0 0 (fA Z sz) := by
  refine Met.ofW (cc := cX6_flying) (maxL := 1) (ret := (some .int)) (by decide) rfl ?_
  intro p e s m args below meth c s₁ B hml hv
  obtain ⟨rfl, X, V, hsz⟩ := Cx.entry B hml hv
  have hr : meth.sig.returnType = (some .int) := B.returns
  have hl := lv_entry ([.ref a0]) (n := 1) (Nat.le_of_ble_eq_true rfl)
  rw [lg_entry_eq]
  generalize (lg_sl ([.ref a0]) ++ List.replicate (1 - (lg_sl ([.ref a0])).length) Slot.unset).toArray = ls at hl ⊢
  have hl : lv_has ls 1 [(0, .ref a0)] := hl
  have h : wp_X6_flying post Z a0 := h
  refine lv_aload_n X.1.1 X.1.2.1 dX6_flying_0 rfl (lv_at hl 0 rfl) ?_
  obtain ⟨k1, h⟩ := h
  obtain ⟨o2, e3, h⟩ := h
  refine gf_X6_22 X V k1 e3 dX6_flying_1 ?_
  obtain ⟨k4, h⟩ := h
  refine r_callV (k := 1) (n := 0) (As := []) X V (sd_Jx4a65c_size_8abf5 l D ka _ Z _ o2 h) k4 (by decide) (by decide) rfl wd_108 wd_253 wd_39 wd_110 wd_111 rfl rfl (by decide +kernel) ⟨Nat.le_of_ble_eq_true rfl, Nat.le_of_ble_eq_true rfl⟩ rfl hl.1 rfl (Nat.le_of_ble_eq_true rfl) dX6_flying_4 ⟨show 0 ≤ 0 by omega, show 0 ≤ 0 by omega⟩ (fun r6 S5 H locs h m7 V => ?_)
  have k1 := m7.k k1 (by decide)
  have k4 := m7.k k4 (by decide)
  exact W.iret X.1.1 X.1.2.1 hr (fun t ht _ => V.q (r := r6) h ht) V.2.1.2.2 dX6_flying_7 X.1.2.2.2.2
abbrev rm_X6_packet : Room := { frames := 4, cells := 0, slots := 0, locals := 85 }
def wp_X6_packet (post : Int32 → HS → Prop) (S : HS) (a0 : Nat) (v1 : Int32) (v2 : Int32) : Prop := kd S a0 = 7 ∧ (wp_X6_packetAt (fun r3 S2 => ((r3 = none → post (-1 : Int32) S2) ∧ (∀ o5 : Nat, r3 = some o5 → kd S2 o5 = 4 ∧ (∃ o8 : Nat, fr S2 12 o5 = some o8 ∧ (kd S2 o8 = 5 ∧ (wp_X3_at (fun r12 S11 => post r12 S11) S2 o8 v2)))))) S a0 v1)
set_option maxHeartbeats 400000 in
set_option maxRecDepth 100000 in
theorem sd_X6_packet (l : Launch) (D : va_G) (ka : Nat → ClassId) (sz : Nat) (Z : HS) (post : Int32 → HS → Prop) (a0 : Nat) (v1 : Int32) (v2 : Int32) (h : wp_X6_packet post Z a0 v1 v2) : Met l yX6_packet [Cond.code yX6_packet cX6_packet 4 (some .int)] rm_X6_packet (Px D ka Z sz [.ref a0, .int v1, .int v2]) (Qx eI post D ka Z sz) 0 0 (fA Z sz) := by
  refine Met.ofW (cc := cX6_packet) (maxL := 4) (ret := (some .int)) (by decide) rfl ?_
  intro p e s m args below meth c s₁ B hml hv
  obtain ⟨rfl, X, V, hsz⟩ := Cx.entry B hml hv
  have hr : meth.sig.returnType = (some .int) := B.returns
  have hl := lv_entry ([.ref a0, .int v1, .int v2]) (n := 4) (Nat.le_of_ble_eq_true rfl)
  rw [lg_entry_eq]
  generalize (lg_sl ([.ref a0, .int v1, .int v2]) ++ List.replicate (4 - (lg_sl ([.ref a0, .int v1, .int v2])).length) Slot.unset).toArray = ls at hl ⊢
  have hl : lv_has ls 4 [(0, .ref a0), (1, .int v1), (2, .int v2)] := hl
  have h : wp_X6_packet post Z a0 v1 v2 := h
  refine lv_aload_n X.1.1 X.1.2.1 dX6_packet_0 rfl (lv_at hl 0 rfl) ?_
  refine lv_iload_n X.1.1 X.1.2.1 dX6_packet_1 rfl (lv_at hl 1 rfl) ?_
  obtain ⟨k1, h⟩ := h
  refine r_callV (k := 7) (n := 1) (As := [.int v1]) X V (sd_X6_packetAt l D ka _ Z _ a0 v1 h) k1 (by decide) (by decide) rfl wd_397 wd_398 wd_249 wd_399 wd_400 rfl rfl (by decide +kernel) ⟨Nat.le_of_ble_eq_true rfl, Nat.le_of_ble_eq_true rfl⟩ rfl hl.1 rfl (Nat.le_of_ble_eq_true rfl) dX6_packet_2 ⟨show 0 ≤ 0 by omega, show 0 ≤ 0 by omega⟩ (fun r3 S2 H locs h m4 V => ?_)
  have k1 := m4.k k1 (by decide)
  cases r3 with
  | none =>
    have h := h.1 rfl
    refine lv_astore_nN (lv' := [(3, .null), (0, .ref a0), (1, .int v1), (2, .int v2)]) X.1.1 X.1.2.1 dX6_packet_5 rfl hl (by decide) rfl (fun ls hl => ?_)
    refine lv_aload_nN X.1.1 X.1.2.1 dX6_packet_6 rfl (lv_at hl 0 rfl) ?_
    refine lv_ifnonnullN X.1.1 X.1.2.1 dX6_packet_7 ?_
    refine lv_iconst (v := (-1 : Int32)) X.1.1 X.1.2.1 dX6_packet_10 (by decide) ?_
    refine lv_goto (tgt := 22) X.1.1 X.1.2.1 dX6_packet_11 (by decide) ?_
    exact W.iret X.1.1 X.1.2.1 hr (fun t ht _ => V.q (r := (-1 : Int32)) h ht) V.2.1.2.2 dX6_packet_22 X.1.2.2.2.2
  | some o5 =>
    have h := h.2 o5 rfl
    refine lv_astore_n (lv' := [(3, .ref o5), (0, .ref a0), (1, .int v1), (2, .int v2)]) X.1.1 X.1.2.1 dX6_packet_5 rfl hl (by decide) rfl (fun ls hl => ?_)
    refine lv_aload_n X.1.1 X.1.2.1 dX6_packet_6 rfl (lv_at hl 0 rfl) ?_
    refine lv_ifnonnull (tgt := 14) X.1.1 X.1.2.1 dX6_packet_7 (by decide) ?_
    refine lv_aload_n X.1.1 X.1.2.1 dX6_packet_14 rfl (lv_at hl 0 rfl) ?_
    obtain ⟨k7, h⟩ := h
    obtain ⟨o8, e9, h⟩ := h
    refine gf_X6_145 X V k7 e9 dX6_packet_15 ?_
    refine lv_iload_n X.1.1 X.1.2.1 dX6_packet_18 rfl (lv_at hl 3 rfl) ?_
    obtain ⟨k10, h⟩ := h
    refine r_callV (k := 5) (n := 1) (As := [.int v2]) X V (sd_X3_at l D ka _ S2 _ o8 v2 h) k10 (by decide) (by decide) rfl wd_11 wd_415 wd_8 wd_13 wd_14 rfl rfl (by decide +kernel) ⟨Nat.le_of_ble_eq_true rfl, Nat.le_of_ble_eq_true rfl⟩ rfl hl.1 rfl (Nat.le_of_ble_eq_true rfl) dX6_packet_19 ⟨show 0 ≤ 0 by omega, show 0 ≤ 0 by omega⟩ (fun r12 S11 H locs h m13 V => ?_)
    have k1 := m13.k k1 (by decide)
    have k7 := m13.k k7 (by decide)
    have k10 := m13.k k10 (by decide)
    exact W.iret X.1.1 X.1.2.1 hr (fun t ht _ => V.q (r := r12) h ht) V.2.1.2.2 dX6_packet_22 X.1.2.2.2.2
abbrev rm_X6_size : Room := { frames := 4, cells := 0, slots := 0, locals := 85 }
def wp_X6_size (post : Int32 → HS → Prop) (S : HS) (a0 : Nat) (v1 : Int32) : Prop := kd S a0 = 7 ∧ (wp_X6_packetAt (fun r3 S2 => ((r3 = none → post (-1 : Int32) S2) ∧ (∀ o5 : Nat, r3 = some o5 → kd S2 o5 = 4 ∧ (∃ o8 : Nat, fr S2 12 o5 = some o8 ∧ (kd S2 o8 = 5 ∧ (post (fi S2 15 o8) S2)))))) S a0 v1)
set_option maxHeartbeats 400000 in
set_option maxRecDepth 100000 in
theorem sd_X6_size (l : Launch) (D : va_G) (ka : Nat → ClassId) (sz : Nat) (Z : HS) (post : Int32 → HS → Prop) (a0 : Nat) (v1 : Int32) (h : wp_X6_size post Z a0 v1) : Met l yX6_size [Cond.code yX6_size cX6_size 3 (some .int)] rm_X6_size (Px D ka Z sz [.ref a0, .int v1]) (Qx eI post D ka Z sz) 0 0 (fA Z sz) := by
  refine Met.ofW (cc := cX6_size) (maxL := 3) (ret := (some .int)) (by decide) rfl ?_
  intro p e s m args below meth c s₁ B hml hv
  obtain ⟨rfl, X, V, hsz⟩ := Cx.entry B hml hv
  have hr : meth.sig.returnType = (some .int) := B.returns
  have hl := lv_entry ([.ref a0, .int v1]) (n := 3) (Nat.le_of_ble_eq_true rfl)
  rw [lg_entry_eq]
  generalize (lg_sl ([.ref a0, .int v1]) ++ List.replicate (3 - (lg_sl ([.ref a0, .int v1])).length) Slot.unset).toArray = ls at hl ⊢
  have hl : lv_has ls 3 [(0, .ref a0), (1, .int v1)] := hl
  have h : wp_X6_size post Z a0 v1 := h
  refine lv_aload_n X.1.1 X.1.2.1 dX6_size_0 rfl (lv_at hl 0 rfl) ?_
  refine lv_iload_n X.1.1 X.1.2.1 dX6_size_1 rfl (lv_at hl 1 rfl) ?_
  obtain ⟨k1, h⟩ := h
  refine r_callV (k := 7) (n := 1) (As := [.int v1]) X V (sd_X6_packetAt l D ka _ Z _ a0 v1 h) k1 (by decide) (by decide) rfl wd_397 wd_398 wd_249 wd_399 wd_400 rfl rfl (by decide +kernel) ⟨Nat.le_of_ble_eq_true rfl, Nat.le_of_ble_eq_true rfl⟩ rfl hl.1 rfl (Nat.le_of_ble_eq_true rfl) dX6_size_2 ⟨show 0 ≤ 0 by omega, show 0 ≤ 0 by omega⟩ (fun r3 S2 H locs h m4 V => ?_)
  have k1 := m4.k k1 (by decide)
  cases r3 with
  | none =>
    have h := h.1 rfl
    refine lv_astore_nN (lv' := [(2, .null), (0, .ref a0), (1, .int v1)]) X.1.1 X.1.2.1 dX6_size_5 rfl hl (by decide) rfl (fun ls hl => ?_)
    refine lv_aload_nN X.1.1 X.1.2.1 dX6_size_6 rfl (lv_at hl 0 rfl) ?_
    refine lv_ifnonnullN X.1.1 X.1.2.1 dX6_size_7 ?_
    refine lv_iconst (v := (-1 : Int32)) X.1.1 X.1.2.1 dX6_size_10 (by decide) ?_
    refine lv_goto (tgt := 21) X.1.1 X.1.2.1 dX6_size_11 (by decide) ?_
    exact W.iret X.1.1 X.1.2.1 hr (fun t ht _ => V.q (r := (-1 : Int32)) h ht) V.2.1.2.2 dX6_size_21 X.1.2.2.2.2
  | some o5 =>
    have h := h.2 o5 rfl
    refine lv_astore_n (lv' := [(2, .ref o5), (0, .ref a0), (1, .int v1)]) X.1.1 X.1.2.1 dX6_size_5 rfl hl (by decide) rfl (fun ls hl => ?_)
    refine lv_aload_n X.1.1 X.1.2.1 dX6_size_6 rfl (lv_at hl 0 rfl) ?_
    refine lv_ifnonnull (tgt := 14) X.1.1 X.1.2.1 dX6_size_7 (by decide) ?_
    refine lv_aload_n X.1.1 X.1.2.1 dX6_size_14 rfl (lv_at hl 0 rfl) ?_
    obtain ⟨k7, h⟩ := h
    obtain ⟨o8, e9, h⟩ := h
    refine gf_X6_145 X V k7 e9 dX6_size_15 ?_
    obtain ⟨k10, h⟩ := h
    refine gf_X6_80 X V k10 dX6_size_18 ?_
    exact W.iret X.1.1 X.1.2.1 hr (fun t ht _ => V.q (r := (fi S2 15 o8)) h ht) V.2.1.2.2 dX6_size_21 X.1.2.2.2.2
abbrev rm_X6_tick : Room := { frames := 5, cells := 0, slots := 0, locals := 131 }
def wp_X6_tick_18 : Nat → (Int32 → HS → Prop) → HS → Nat → Int32 → Int32 → Int32 → Prop
  | 0, _, _, _, _, _, _ => False
  | n + 1, post, S, b0, x1, x2, x3 => kd S b0 = 7 ∧ ((((fi S 26 b0) ≤ x3 → post x2 S) ∧ (¬ (fi S 26 b0) ≤ x3 → wp_X6_endpointAt (fun r6 S5 => ((r6 = none → wp_X6_tick_18 n post S5 b0 x1 (x2 + (0 : Int32)) (x3 + (1 : Int32))) ∧ (∀ o8 : Nat, r6 = some o8 → kd S5 o8 = 2 ∧ (wp_X0_growOlder (fun r12 S11 => wp_X6_tick_18 n post S11 b0 x1 (x2 + r12) (x3 + (1 : Int32))) S5 o8 x1)))) S b0 x3)))
set_option maxHeartbeats 400000 in
set_option maxRecDepth 100000 in
theorem sl_X6_tick_18 (l : Launch) (D : va_G) (ka : Nat → ClassId) (sz : Nat) (Z : HS) (post : Int32 → HS → Prop) {p : Program} {e : Env} {s : State} {m : MethodId} {args : Array Value} {below : List Frame} {meth : Method} {c : Code} (X : Cx p s m meth c cX6_tick 5 RX6 D ka Z (fA Z sz)) (hr : meth.sig.returnType = (some .int))  : ∀ (n : Nat), ∀ (S : HS) (b0 : Nat) (x1 : Int32) (x2 : Int32) (x3 : Int32), wp_X6_tick_18 n post S b0 x1 x2 x3 → ∀ (H : Heap) (locs : List Loc) (ls : Array Slot), Hv D ka Z s (fA Z sz) S H locs → lv_has ls 5 [(0, .ref b0), (1, .int x1), (2, .int x2), (3, .int x3)] → W p l e rm_X6_tick s m args below meth c H locs 0 0 (MQ below (Qx eI post D ka Z sz) args s 0 0 (fA Z sz)) (F0 m 18 ls []) := by
  intro n
  induction n with
  | zero => intro S b0 x1 x2 x3 h; exact h.elim
  | succ n ih =>
    intro S b0 x1 x2 x3 h H locs ls V hl
    refine lv_iload_n X.1.1 X.1.2.1 dX6_tick_18 rfl (lv_at hl 3 rfl) ?_
    refine lv_aload_n X.1.1 X.1.2.1 dX6_tick_19 rfl (lv_at hl 0 rfl) ?_
    obtain ⟨k3, h⟩ := h
    refine gf_X6_38 X V k3 dX6_tick_20 ?_
    refine lv_icmp_ge (tgt := 57) X.1.1 X.1.2.1 dX6_tick_23 (by decide) (fun c4 => ?_) (fun c4 => ?_)
    · have h := h.1 c4
      refine lv_iload_n X.1.1 X.1.2.1 dX6_tick_57 rfl (lv_at hl 2 rfl) ?_
      exact W.iret X.1.1 X.1.2.1 hr (fun t ht _ => V.q (r := x2) h ht) V.2.1.2.2 dX6_tick_58 X.1.2.2.2.2
    · have h := h.2 c4
      refine lv_aload_n X.1.1 X.1.2.1 dX6_tick_26 rfl (lv_at hl 0 rfl) ?_
      refine lv_iload_n X.1.1 X.1.2.1 dX6_tick_27 rfl (lv_at hl 3 rfl) ?_
      refine r_callV (k := 7) (n := 1) (As := [.int x3]) X V (sd_X6_endpointAt l D ka _ S _ b0 x3 h) k3 (by decide) (by decide) rfl wd_247 wd_248 wd_249 wd_250 wd_251 rfl rfl (by decide +kernel) ⟨Nat.le_of_ble_eq_true rfl, Nat.le_of_ble_eq_true rfl⟩ rfl hl.1 rfl (Nat.le_of_ble_eq_true rfl) dX6_tick_28 ⟨show 0 ≤ 0 by omega, show 0 ≤ 0 by omega⟩ (fun r6 S5 H locs h m7 V => ?_)
      have k3 := m7.k k3 (by decide)
      cases r6 with
      | none =>
        have h := h.1 rfl
        refine lv_astoreN (lv' := [(4, .null), (0, .ref b0), (1, .int x1), (2, .int x2), (3, .int x3)]) X.1.1 X.1.2.1 dX6_tick_31 hl (by decide) rfl (fun ls hl => ?_)
        refine lv_iload_n X.1.1 X.1.2.1 dX6_tick_33 rfl (lv_at hl 3 rfl) ?_
        refine lv_aloadN X.1.1 X.1.2.1 dX6_tick_34 (lv_at hl 0 rfl) ?_
        refine lv_ifnonnullN X.1.1 X.1.2.1 dX6_tick_36 ?_
        refine lv_iconst (v := (0 : Int32)) X.1.1 X.1.2.1 dX6_tick_39 (by decide) ?_
        refine lv_goto (tgt := 49) X.1.1 X.1.2.1 dX6_tick_40 (by decide) ?_
        refine lv_iadd X.1.1 X.1.2.1 dX6_tick_49 ?_
        refine lv_istore_n (lv' := [(2, .int (x2 + (0 : Int32))), (4, .null), (0, .ref b0), (1, .int x1), (3, .int x3)]) X.1.1 X.1.2.1 dX6_tick_50 rfl hl (by decide) rfl (fun ls hl => ?_)
        refine lv_iinc (v := (x3 + (1 : Int32))) (lv' := [(3, .int (x3 + (1 : Int32))), (2, .int (x2 + (0 : Int32))), (4, .null), (0, .ref b0), (1, .int x1)]) X.1.1 X.1.2.1 dX6_tick_51 hl (k := 4) rfl (congrArg (HAdd.hAdd _) (by decide)) (by decide) rfl (fun ls hl => ?_)
        refine lv_goto (tgt := 18) X.1.1 X.1.2.1 dX6_tick_54 (by decide) ?_
        exact ih S5 b0 x1 (x2 + (0 : Int32)) (x3 + (1 : Int32)) h _ _ _ V (lv_sub hl [3, 4, 1, 0] rfl)
      | some o8 =>
        have h := h.2 o8 rfl
        refine lv_astore (lv' := [(4, .ref o8), (0, .ref b0), (1, .int x1), (2, .int x2), (3, .int x3)]) X.1.1 X.1.2.1 dX6_tick_31 hl (by decide) rfl (fun ls hl => ?_)
        refine lv_iload_n X.1.1 X.1.2.1 dX6_tick_33 rfl (lv_at hl 3 rfl) ?_
        refine lv_aload X.1.1 X.1.2.1 dX6_tick_34 (lv_at hl 0 rfl) ?_
        refine lv_ifnonnull (tgt := 43) X.1.1 X.1.2.1 dX6_tick_36 (by decide) ?_
        refine lv_aload X.1.1 X.1.2.1 dX6_tick_43 (lv_at hl 0 rfl) ?_
        refine lv_iload_n X.1.1 X.1.2.1 dX6_tick_45 rfl (lv_at hl 2 rfl) ?_
        obtain ⟨k10, h⟩ := h
        refine r_callV (k := 2) (n := 1) (As := [.int x1]) X V (sd_X0_growOlder l D ka _ S5 _ o8 x1 h) k10 (by decide) (by decide) rfl wd_416 wd_417 wd_119 wd_418 wd_419 rfl rfl (by decide +kernel) ⟨Nat.le_of_ble_eq_true rfl, Nat.le_of_ble_eq_true rfl⟩ rfl hl.1 rfl (Nat.le_of_ble_eq_true rfl) dX6_tick_46 ⟨show 0 ≤ 0 by omega, show 0 ≤ 0 by omega⟩ (fun r12 S11 H locs h m13 V => ?_)
        have k3 := m13.k k3 (by decide)
        have k10 := m13.k k10 (by decide)
        refine lv_iadd X.1.1 X.1.2.1 dX6_tick_49 ?_
        refine lv_istore_n (lv' := [(2, .int (x2 + r12)), (4, .ref o8), (0, .ref b0), (1, .int x1), (3, .int x3)]) X.1.1 X.1.2.1 dX6_tick_50 rfl hl (by decide) rfl (fun ls hl => ?_)
        refine lv_iinc (v := (x3 + (1 : Int32))) (lv' := [(3, .int (x3 + (1 : Int32))), (2, .int (x2 + r12)), (4, .ref o8), (0, .ref b0), (1, .int x1)]) X.1.1 X.1.2.1 dX6_tick_51 hl (k := 4) rfl (congrArg (HAdd.hAdd _) (by decide)) (by decide) rfl (fun ls hl => ?_)
        refine lv_goto (tgt := 18) X.1.1 X.1.2.1 dX6_tick_54 (by decide) ?_
        exact ih S11 b0 x1 (x2 + r12) (x3 + (1 : Int32)) h _ _ _ V (lv_sub hl [3, 4, 1, 0] rfl)
def wp_X6_tick (post : Int32 → HS → Prop) (S : HS) (a0 : Nat) (v1 : Int32) : Prop := ((v1 < (1 : Int32) → post (-1 : Int32) S) ∧ (¬ v1 < (1 : Int32) → ((v1 ≤ (1000 : Int32) → ∃ n9, wp_X6_tick_18 n9 post S a0 v1 (0 : Int32) (0 : Int32)) ∧ (¬ v1 ≤ (1000 : Int32) → post (-1 : Int32) S))))
set_option maxHeartbeats 400000 in
set_option maxRecDepth 100000 in
theorem sd_X6_tick (l : Launch) (D : va_G) (ka : Nat → ClassId) (sz : Nat) (Z : HS) (post : Int32 → HS → Prop) (a0 : Nat) (v1 : Int32) (h : wp_X6_tick post Z a0 v1) : Met l yX6_tick [Cond.code yX6_tick cX6_tick 5 (some .int)] rm_X6_tick (Px D ka Z sz [.ref a0, .int v1]) (Qx eI post D ka Z sz) 0 0 (fA Z sz) := by
  refine Met.ofW (cc := cX6_tick) (maxL := 5) (ret := (some .int)) (by decide) rfl ?_
  intro p e s m args below meth c s₁ B hml hv
  obtain ⟨rfl, X, V, hsz⟩ := Cx.entry B hml hv
  have hr : meth.sig.returnType = (some .int) := B.returns
  have hl := lv_entry ([.ref a0, .int v1]) (n := 5) (Nat.le_of_ble_eq_true rfl)
  rw [lg_entry_eq]
  generalize (lg_sl ([.ref a0, .int v1]) ++ List.replicate (5 - (lg_sl ([.ref a0, .int v1])).length) Slot.unset).toArray = ls at hl ⊢
  have hl : lv_has ls 5 [(0, .ref a0), (1, .int v1)] := hl
  have h : wp_X6_tick post Z a0 v1 := h
  refine lv_iload_n X.1.1 X.1.2.1 dX6_tick_0 rfl (lv_at hl 1 rfl) ?_
  refine lv_iconst (v := (1 : Int32)) X.1.1 X.1.2.1 dX6_tick_1 (by decide) ?_
  refine lv_icmp_lt (tgt := 12) X.1.1 X.1.2.1 dX6_tick_2 (by decide) (fun c1 => ?_) (fun c1 => ?_)
  · have h := h.1 c1
    refine lv_iconst (v := (-1 : Int32)) X.1.1 X.1.2.1 dX6_tick_12 (by decide) ?_
    exact W.iret X.1.1 X.1.2.1 hr (fun t ht _ => V.q (r := (-1 : Int32)) h ht) V.2.1.2.2 dX6_tick_13 X.1.2.2.2.2
  · have h := h.2 c1
    refine lv_iload_n X.1.1 X.1.2.1 dX6_tick_5 rfl (lv_at hl 1 rfl) ?_
    refine lv_sipush (v := (1000 : Int32)) X.1.1 X.1.2.1 dX6_tick_6 (by decide) ?_
    refine lv_icmp_le (tgt := 14) X.1.1 X.1.2.1 dX6_tick_9 (by decide) (fun c2 => ?_) (fun c2 => ?_)
    · have h := h.1 c2
      refine lv_iconst (v := (0 : Int32)) X.1.1 X.1.2.1 dX6_tick_14 (by decide) ?_
      refine lv_istore_n (lv' := [(2, .int (0 : Int32)), (0, .ref a0), (1, .int v1)]) X.1.1 X.1.2.1 dX6_tick_15 rfl hl (by decide) rfl (fun ls hl => ?_)
      refine lv_iconst (v := (0 : Int32)) X.1.1 X.1.2.1 dX6_tick_16 (by decide) ?_
      refine lv_istore_n (lv' := [(3, .int (0 : Int32)), (2, .int (0 : Int32)), (0, .ref a0), (1, .int v1)]) X.1.1 X.1.2.1 dX6_tick_17 rfl hl (by decide) rfl (fun ls hl => ?_)
      obtain ⟨n9, h⟩ := h
      exact sl_X6_tick_18 l D ka sz Z post X hr n9 Z a0 v1 (0 : Int32) (0 : Int32) h _ _ _ V (lv_sub hl [2, 3, 1, 0] rfl)
    · have h := h.2 c2
      refine lv_iconst (v := (-1 : Int32)) X.1.1 X.1.2.1 dX6_tick_12 (by decide) ?_
      exact W.iret X.1.1 X.1.2.1 hr (fun t ht _ => V.q (r := (-1 : Int32)) h ht) V.2.1.2.2 dX6_tick_13 X.1.2.2.2.2
abbrev rm_X6_forget : Room := { frames := 2, cells := 0, slots := 0, locals := 44 }
def wp_X6_forget (post : Int32 → HS → Prop) (S : HS) (a0 : Nat) (v1 : Int32) : Prop := kd S a0 = 7 ∧ (wp_X6_endpointAt (fun r3 S2 => ((r3 = none → post (-1 : Int32) S2) ∧ (∀ o5 : Nat, r3 = some o5 → kd S2 o5 = 2 ∧ (wp_X0_forgetAll (fun r9 S8 => post r9 S8) S2 o5)))) S a0 v1)
set_option maxHeartbeats 400000 in
set_option maxRecDepth 100000 in
theorem sd_X6_forget (l : Launch) (D : va_G) (ka : Nat → ClassId) (sz : Nat) (Z : HS) (post : Int32 → HS → Prop) (a0 : Nat) (v1 : Int32) (h : wp_X6_forget post Z a0 v1) : Met l yX6_forget [Cond.code yX6_forget cX6_forget 3 (some .int)] rm_X6_forget (Px D ka Z sz [.ref a0, .int v1]) (Qx eI post D ka Z sz) 0 0 (fA Z sz) := by
  refine Met.ofW (cc := cX6_forget) (maxL := 3) (ret := (some .int)) (by decide) rfl ?_
  intro p e s m args below meth c s₁ B hml hv
  obtain ⟨rfl, X, V, hsz⟩ := Cx.entry B hml hv
  have hr : meth.sig.returnType = (some .int) := B.returns
  have hl := lv_entry ([.ref a0, .int v1]) (n := 3) (Nat.le_of_ble_eq_true rfl)
  rw [lg_entry_eq]
  generalize (lg_sl ([.ref a0, .int v1]) ++ List.replicate (3 - (lg_sl ([.ref a0, .int v1])).length) Slot.unset).toArray = ls at hl ⊢
  have hl : lv_has ls 3 [(0, .ref a0), (1, .int v1)] := hl
  have h : wp_X6_forget post Z a0 v1 := h
  refine lv_aload_n X.1.1 X.1.2.1 dX6_forget_0 rfl (lv_at hl 0 rfl) ?_
  refine lv_iload_n X.1.1 X.1.2.1 dX6_forget_1 rfl (lv_at hl 1 rfl) ?_
  obtain ⟨k1, h⟩ := h
  refine r_callV (k := 7) (n := 1) (As := [.int v1]) X V (sd_X6_endpointAt l D ka _ Z _ a0 v1 h) k1 (by decide) (by decide) rfl wd_247 wd_248 wd_249 wd_250 wd_251 rfl rfl (by decide +kernel) ⟨Nat.le_of_ble_eq_true rfl, Nat.le_of_ble_eq_true rfl⟩ rfl hl.1 rfl (Nat.le_of_ble_eq_true rfl) dX6_forget_2 ⟨show 0 ≤ 0 by omega, show 0 ≤ 0 by omega⟩ (fun r3 S2 H locs h m4 V => ?_)
  have k1 := m4.k k1 (by decide)
  cases r3 with
  | none =>
    have h := h.1 rfl
    refine lv_astore_nN (lv' := [(2, .null), (0, .ref a0), (1, .int v1)]) X.1.1 X.1.2.1 dX6_forget_5 rfl hl (by decide) rfl (fun ls hl => ?_)
    refine lv_aload_nN X.1.1 X.1.2.1 dX6_forget_6 rfl (lv_at hl 0 rfl) ?_
    refine lv_ifnonnullN X.1.1 X.1.2.1 dX6_forget_7 ?_
    refine lv_iconst (v := (-1 : Int32)) X.1.1 X.1.2.1 dX6_forget_10 (by decide) ?_
    refine lv_goto (tgt := 18) X.1.1 X.1.2.1 dX6_forget_11 (by decide) ?_
    exact W.iret X.1.1 X.1.2.1 hr (fun t ht _ => V.q (r := (-1 : Int32)) h ht) V.2.1.2.2 dX6_forget_18 X.1.2.2.2.2
  | some o5 =>
    have h := h.2 o5 rfl
    refine lv_astore_n (lv' := [(2, .ref o5), (0, .ref a0), (1, .int v1)]) X.1.1 X.1.2.1 dX6_forget_5 rfl hl (by decide) rfl (fun ls hl => ?_)
    refine lv_aload_n X.1.1 X.1.2.1 dX6_forget_6 rfl (lv_at hl 0 rfl) ?_
    refine lv_ifnonnull (tgt := 14) X.1.1 X.1.2.1 dX6_forget_7 (by decide) ?_
    refine lv_aload_n X.1.1 X.1.2.1 dX6_forget_14 rfl (lv_at hl 0 rfl) ?_
    obtain ⟨k7, h⟩ := h
    refine r_callV (k := 2) (n := 0) (As := []) X V (sd_X0_forgetAll l D ka _ S2 _ o5 h) k7 (by decide) (by decide) rfl wd_420 wd_421 wd_119 wd_422 wd_423 rfl rfl (by decide +kernel) ⟨Nat.le_of_ble_eq_true rfl, Nat.le_of_ble_eq_true rfl⟩ rfl hl.1 rfl (Nat.le_of_ble_eq_true rfl) dX6_forget_15 ⟨show 0 ≤ 0 by omega, show 0 ≤ 0 by omega⟩ (fun r9 S8 H locs h m10 V => ?_)
    have k1 := m10.k k1 (by decide)
    have k7 := m10.k k7 (by decide)
    exact W.iret X.1.1 X.1.2.1 hr (fun t ht _ => V.q (r := r9) h ht) V.2.1.2.2 dX6_forget_18 X.1.2.2.2.2
abbrev rm_X6_known : Room := { frames := 1, cells := 0, slots := 0, locals := 21 }
def wp_X6_known (post : Int32 → HS → Prop) (S : HS) (a0 : Nat) (v1 : Int32) : Prop := kd S a0 = 7 ∧ (wp_X6_endpointAt (fun r3 S2 => ((r3 = none → post (-1 : Int32) S2) ∧ (∀ o5 : Nat, r3 = some o5 → kd S2 o5 = 2 ∧ (∃ o8 : Nat, fr S2 4 o5 = some o8 ∧ (kd S2 o8 = 1 ∧ (wp_Jx4a65c_size_8abf5 (fun r12 S11 => post r12 S11) S2 o8)))))) S a0 v1)
set_option maxHeartbeats 400000 in
set_option maxRecDepth 100000 in
theorem sd_X6_known (l : Launch) (D : va_G) (ka : Nat → ClassId) (sz : Nat) (Z : HS) (post : Int32 → HS → Prop) (a0 : Nat) (v1 : Int32) (h : wp_X6_known post Z a0 v1) : Met l yX6_known [Cond.code yX6_known cX6_known 3 (some .int)] rm_X6_known (Px D ka Z sz [.ref a0, .int v1]) (Qx eI post D ka Z sz) 0 0 (fA Z sz) := by
  refine Met.ofW (cc := cX6_known) (maxL := 3) (ret := (some .int)) (by decide) rfl ?_
  intro p e s m args below meth c s₁ B hml hv
  obtain ⟨rfl, X, V, hsz⟩ := Cx.entry B hml hv
  have hr : meth.sig.returnType = (some .int) := B.returns
  have hl := lv_entry ([.ref a0, .int v1]) (n := 3) (Nat.le_of_ble_eq_true rfl)
  rw [lg_entry_eq]
  generalize (lg_sl ([.ref a0, .int v1]) ++ List.replicate (3 - (lg_sl ([.ref a0, .int v1])).length) Slot.unset).toArray = ls at hl ⊢
  have hl : lv_has ls 3 [(0, .ref a0), (1, .int v1)] := hl
  have h : wp_X6_known post Z a0 v1 := h
  refine lv_aload_n X.1.1 X.1.2.1 dX6_known_0 rfl (lv_at hl 0 rfl) ?_
  refine lv_iload_n X.1.1 X.1.2.1 dX6_known_1 rfl (lv_at hl 1 rfl) ?_
  obtain ⟨k1, h⟩ := h
  refine r_callV (k := 7) (n := 1) (As := [.int v1]) X V (sd_X6_endpointAt l D ka _ Z _ a0 v1 h) k1 (by decide) (by decide) rfl wd_247 wd_248 wd_249 wd_250 wd_251 rfl rfl (by decide +kernel) ⟨Nat.le_of_ble_eq_true rfl, Nat.le_of_ble_eq_true rfl⟩ rfl hl.1 rfl (Nat.le_of_ble_eq_true rfl) dX6_known_2 ⟨show 0 ≤ 0 by omega, show 0 ≤ 0 by omega⟩ (fun r3 S2 H locs h m4 V => ?_)
  have k1 := m4.k k1 (by decide)
  cases r3 with
  | none =>
    have h := h.1 rfl
    refine lv_astore_nN (lv' := [(2, .null), (0, .ref a0), (1, .int v1)]) X.1.1 X.1.2.1 dX6_known_5 rfl hl (by decide) rfl (fun ls hl => ?_)
    refine lv_aload_nN X.1.1 X.1.2.1 dX6_known_6 rfl (lv_at hl 0 rfl) ?_
    refine lv_ifnonnullN X.1.1 X.1.2.1 dX6_known_7 ?_
    refine lv_iconst (v := (-1 : Int32)) X.1.1 X.1.2.1 dX6_known_10 (by decide) ?_
    refine lv_goto (tgt := 21) X.1.1 X.1.2.1 dX6_known_11 (by decide) ?_
    exact W.iret X.1.1 X.1.2.1 hr (fun t ht _ => V.q (r := (-1 : Int32)) h ht) V.2.1.2.2 dX6_known_21 X.1.2.2.2.2
  | some o5 =>
    have h := h.2 o5 rfl
    refine lv_astore_n (lv' := [(2, .ref o5), (0, .ref a0), (1, .int v1)]) X.1.1 X.1.2.1 dX6_known_5 rfl hl (by decide) rfl (fun ls hl => ?_)
    refine lv_aload_n X.1.1 X.1.2.1 dX6_known_6 rfl (lv_at hl 0 rfl) ?_
    refine lv_ifnonnull (tgt := 14) X.1.1 X.1.2.1 dX6_known_7 (by decide) ?_
    refine lv_aload_n X.1.1 X.1.2.1 dX6_known_14 rfl (lv_at hl 0 rfl) ?_
    obtain ⟨k7, h⟩ := h
    obtain ⟨o8, e9, h⟩ := h
    refine gf_X6_174 X V k7 e9 dX6_known_15 ?_
    obtain ⟨k10, h⟩ := h
    refine r_callV (k := 1) (n := 0) (As := []) X V (sd_Jx4a65c_size_8abf5 l D ka _ S2 _ o8 h) k10 (by decide) (by decide) rfl wd_108 wd_253 wd_39 wd_110 wd_111 rfl rfl (by decide +kernel) ⟨Nat.le_of_ble_eq_true rfl, Nat.le_of_ble_eq_true rfl⟩ rfl hl.1 rfl (Nat.le_of_ble_eq_true rfl) dX6_known_18 ⟨show 0 ≤ 0 by omega, show 0 ≤ 0 by omega⟩ (fun r12 S11 H locs h m13 V => ?_)
    have k1 := m13.k k1 (by decide)
    have k7 := m13.k k7 (by decide)
    have k10 := m13.k k10 (by decide)
    exact W.iret X.1.1 X.1.2.1 hr (fun t ht _ => V.q (r := r12) h ht) V.2.1.2.2 dX6_known_21 X.1.2.2.2.2
abbrev rm_X6_knows : Room := { frames := 4, cells := 0, slots := 0, locals := 85 }
def wp_X6_knows (post : Int64 → HS → Prop) (S : HS) (a0 : Nat) (v1 : Int32) (v2 : Int32) (v3 : Int32) : Prop := kd S a0 = 7 ∧ (wp_X6_endpointAt (fun r3 S2 => ((r3 = none → post (-1 : Int64) S2) ∧ (∀ o5 : Nat, r3 = some o5 → kd S2 o5 = 2 ∧ (wp_X0_knownAt (fun r9 S8 => ((r9 = none → post (-1 : Int64) S8) ∧ (∀ o11 : Nat, r9 = some o11 → kd S8 o11 = 3 ∧ (wp_X1_tell (fun r15 S14 => post r15 S14) S8 o11 v3)))) S2 o5 v2)))) S a0 v1)
set_option maxHeartbeats 400000 in
set_option maxRecDepth 100000 in
theorem sd_X6_knows (l : Launch) (D : va_G) (ka : Nat → ClassId) (sz : Nat) (Z : HS) (post : Int64 → HS → Prop) (a0 : Nat) (v1 : Int32) (v2 : Int32) (v3 : Int32) (h : wp_X6_knows post Z a0 v1 v2 v3) : Met l yX6_knows [Cond.code yX6_knows cX6_knows 6 (some .long)] rm_X6_knows (Px D ka Z sz [.ref a0, .int v1, .int v2, .int v3]) (Qx eL post D ka Z sz) 0 0 (fA Z sz) := by
  refine Met.ofW (cc := cX6_knows) (maxL := 6) (ret := (some .long)) (by decide) rfl ?_
  intro p e s m args below meth c s₁ B hml hv
  obtain ⟨rfl, X, V, hsz⟩ := Cx.entry B hml hv
  have hr : meth.sig.returnType = (some .long) := B.returns
  have hl := lv_entry ([.ref a0, .int v1, .int v2, .int v3]) (n := 6) (Nat.le_of_ble_eq_true rfl)
  rw [lg_entry_eq]
  generalize (lg_sl ([.ref a0, .int v1, .int v2, .int v3]) ++ List.replicate (6 - (lg_sl ([.ref a0, .int v1, .int v2, .int v3])).length) Slot.unset).toArray = ls at hl ⊢
  have hl : lv_has ls 6 [(0, .ref a0), (1, .int v1), (2, .int v2), (3, .int v3)] := hl
  have h : wp_X6_knows post Z a0 v1 v2 v3 := h
  refine lv_aload_n X.1.1 X.1.2.1 dX6_knows_0 rfl (lv_at hl 0 rfl) ?_
  refine lv_iload_n X.1.1 X.1.2.1 dX6_knows_1 rfl (lv_at hl 1 rfl) ?_
  obtain ⟨k1, h⟩ := h
  refine r_callV (k := 7) (n := 1) (As := [.int v1]) X V (sd_X6_endpointAt l D ka _ Z _ a0 v1 h) k1 (by decide) (by decide) rfl wd_247 wd_248 wd_249 wd_250 wd_251 rfl rfl (by decide +kernel) ⟨Nat.le_of_ble_eq_true rfl, Nat.le_of_ble_eq_true rfl⟩ rfl hl.1 rfl (Nat.le_of_ble_eq_true rfl) dX6_knows_2 ⟨show 0 ≤ 0 by omega, show 0 ≤ 0 by omega⟩ (fun r3 S2 H locs h m4 V => ?_)
  have k1 := m4.k k1 (by decide)
  cases r3 with
  | none =>
    have h := h.1 rfl
    refine lv_astoreN (lv' := [(4, .null), (0, .ref a0), (1, .int v1), (2, .int v2), (3, .int v3)]) X.1.1 X.1.2.1 dX6_knows_5 hl (by decide) rfl (fun ls hl => ?_)
    refine lv_aloadN X.1.1 X.1.2.1 dX6_knows_7 (lv_at hl 0 rfl) ?_
    refine lv_ifnonnullN X.1.1 X.1.2.1 dX6_knows_9 ?_
    refine lv_null X.1.1 X.1.2.1 dX6_knows_12 ?_
    refine lv_goto (tgt := 22) X.1.1 X.1.2.1 dX6_knows_13 (by decide) ?_
    refine lv_astoreN (lv' := [(5, .null), (4, .null), (0, .ref a0), (1, .int v1), (2, .int v2), (3, .int v3)]) X.1.1 X.1.2.1 dX6_knows_22 hl (by decide) rfl (fun ls hl => ?_)
    refine lv_aloadN X.1.1 X.1.2.1 dX6_knows_24 (lv_at hl 0 rfl) ?_
    refine lv_ifnonnullN X.1.1 X.1.2.1 dX6_knows_26 ?_
    refine lv_ldc2 (v := (-1 : Int64)) X.1.1 X.1.2.1 X.1.2.2.2.1 (X.w wd_424 rfl _) dX6_knows_29 ?_
    refine lv_goto (tgt := 41) X.1.1 X.1.2.1 dX6_knows_32 (by decide) ?_
    exact W.lret X.1.1 X.1.2.1 hr (fun t ht _ => V.q (r := (-1 : Int64)) h ht) V.2.1.2.2 dX6_knows_41 X.1.2.2.2.2
  | some o5 =>
    have h := h.2 o5 rfl
    refine lv_astore (lv' := [(4, .ref o5), (0, .ref a0), (1, .int v1), (2, .int v2), (3, .int v3)]) X.1.1 X.1.2.1 dX6_knows_5 hl (by decide) rfl (fun ls hl => ?_)
    refine lv_aload X.1.1 X.1.2.1 dX6_knows_7 (lv_at hl 0 rfl) ?_
    refine lv_ifnonnull (tgt := 16) X.1.1 X.1.2.1 dX6_knows_9 (by decide) ?_
    refine lv_aload X.1.1 X.1.2.1 dX6_knows_16 (lv_at hl 0 rfl) ?_
    refine lv_iload_n X.1.1 X.1.2.1 dX6_knows_18 rfl (lv_at hl 3 rfl) ?_
    obtain ⟨k7, h⟩ := h
    refine r_callV (k := 2) (n := 1) (As := [.int v2]) X V (sd_X0_knownAt l D ka _ S2 _ o5 v2 h) k7 (by decide) (by decide) rfl wd_117 wd_279 wd_119 wd_120 wd_121 rfl rfl (by decide +kernel) ⟨Nat.le_of_ble_eq_true rfl, Nat.le_of_ble_eq_true rfl⟩ rfl hl.1 rfl (Nat.le_of_ble_eq_true rfl) dX6_knows_19 ⟨show 0 ≤ 0 by omega, show 0 ≤ 0 by omega⟩ (fun r9 S8 H locs h m10 V => ?_)
    have k1 := m10.k k1 (by decide)
    have k7 := m10.k k7 (by decide)
    cases r9 with
    | none =>
      have h := h.1 rfl
      refine lv_astoreN (lv' := [(5, .null), (4, .ref o5), (0, .ref a0), (1, .int v1), (2, .int v2), (3, .int v3)]) X.1.1 X.1.2.1 dX6_knows_22 hl (by decide) rfl (fun ls hl => ?_)
      refine lv_aloadN X.1.1 X.1.2.1 dX6_knows_24 (lv_at hl 0 rfl) ?_
      refine lv_ifnonnullN X.1.1 X.1.2.1 dX6_knows_26 ?_
      refine lv_ldc2 (v := (-1 : Int64)) X.1.1 X.1.2.1 X.1.2.2.2.1 (X.w wd_424 rfl _) dX6_knows_29 ?_
      refine lv_goto (tgt := 41) X.1.1 X.1.2.1 dX6_knows_32 (by decide) ?_
      exact W.lret X.1.1 X.1.2.1 hr (fun t ht _ => V.q (r := (-1 : Int64)) h ht) V.2.1.2.2 dX6_knows_41 X.1.2.2.2.2
    | some o11 =>
      have h := h.2 o11 rfl
      refine lv_astore (lv' := [(5, .ref o11), (4, .ref o5), (0, .ref a0), (1, .int v1), (2, .int v2), (3, .int v3)]) X.1.1 X.1.2.1 dX6_knows_22 hl (by decide) rfl (fun ls hl => ?_)
      refine lv_aload X.1.1 X.1.2.1 dX6_knows_24 (lv_at hl 0 rfl) ?_
      refine lv_ifnonnull (tgt := 35) X.1.1 X.1.2.1 dX6_knows_26 (by decide) ?_
      refine lv_aload X.1.1 X.1.2.1 dX6_knows_35 (lv_at hl 0 rfl) ?_
      refine lv_iload_n X.1.1 X.1.2.1 dX6_knows_37 rfl (lv_at hl 5 rfl) ?_
      obtain ⟨k13, h⟩ := h
      refine r_callV (k := 3) (n := 1) (As := [.int v3]) X V (sd_X1_tell l D ka _ S8 _ o11 v3 h) k13 (by decide) (by decide) rfl wd_425 wd_426 wd_296 wd_427 wd_428 rfl rfl (by decide +kernel) ⟨Nat.le_of_ble_eq_true rfl, Nat.le_of_ble_eq_true rfl⟩ rfl hl.1 rfl (Nat.le_of_ble_eq_true rfl) dX6_knows_38 ⟨show 0 ≤ 0 by omega, show 0 ≤ 0 by omega⟩ (fun r15 S14 H locs h m16 V => ?_)
      have k1 := m16.k k1 (by decide)
      have k7 := m16.k k7 (by decide)
      have k13 := m16.k k13 (by decide)
      exact W.lret X.1.1 X.1.2.1 hr (fun t ht _ => V.q (r := r15) h ht) V.2.1.2.2 dX6_knows_41 X.1.2.2.2.2
abbrev rm_X6_got : Room := { frames := 4, cells := 0, slots := 0, locals := 85 }
def wp_X6_got (post : Int32 → HS → Prop) (S : HS) (a0 : Nat) (v1 : Int32) : Prop := kd S a0 = 7 ∧ (wp_X6_stationAt (fun r3 S2 => ((r3 = none → post (-1 : Int32) S2) ∧ (∀ o5 : Nat, r3 = some o5 → kd S2 o5 = 6 ∧ (post (fi S2 20 o5) S2)))) S a0 v1)
set_option maxHeartbeats 400000 in
set_option maxRecDepth 100000 in
theorem sd_X6_got (l : Launch) (D : va_G) (ka : Nat → ClassId) (sz : Nat) (Z : HS) (post : Int32 → HS → Prop) (a0 : Nat) (v1 : Int32) (h : wp_X6_got post Z a0 v1) : Met l yX6_got [Cond.code yX6_got cX6_got 3 (some .int)] rm_X6_got (Px D ka Z sz [.ref a0, .int v1]) (Qx eI post D ka Z sz) 0 0 (fA Z sz) := by
  refine Met.ofW (cc := cX6_got) (maxL := 3) (ret := (some .int)) (by decide) rfl ?_
  intro p e s m args below meth c s₁ B hml hv
  obtain ⟨rfl, X, V, hsz⟩ := Cx.entry B hml hv
  have hr : meth.sig.returnType = (some .int) := B.returns
  have hl := lv_entry ([.ref a0, .int v1]) (n := 3) (Nat.le_of_ble_eq_true rfl)
  rw [lg_entry_eq]
  generalize (lg_sl ([.ref a0, .int v1]) ++ List.replicate (3 - (lg_sl ([.ref a0, .int v1])).length) Slot.unset).toArray = ls at hl ⊢
  have hl : lv_has ls 3 [(0, .ref a0), (1, .int v1)] := hl
  have h : wp_X6_got post Z a0 v1 := h
  refine lv_aload_n X.1.1 X.1.2.1 dX6_got_0 rfl (lv_at hl 0 rfl) ?_
  refine lv_iload_n X.1.1 X.1.2.1 dX6_got_1 rfl (lv_at hl 1 rfl) ?_
  obtain ⟨k1, h⟩ := h
  refine r_callV (k := 7) (n := 1) (As := [.int v1]) X V (sd_X6_stationAt l D ka _ Z _ a0 v1 h) k1 (by decide) (by decide) rfl wd_265 wd_266 wd_249 wd_267 wd_268 rfl rfl (by decide +kernel) ⟨Nat.le_of_ble_eq_true rfl, Nat.le_of_ble_eq_true rfl⟩ rfl hl.1 rfl (Nat.le_of_ble_eq_true rfl) dX6_got_2 ⟨show 0 ≤ 0 by omega, show 0 ≤ 0 by omega⟩ (fun r3 S2 H locs h m4 V => ?_)
  have k1 := m4.k k1 (by decide)
  cases r3 with
  | none =>
    have h := h.1 rfl
    refine lv_astore_nN (lv' := [(2, .null), (0, .ref a0), (1, .int v1)]) X.1.1 X.1.2.1 dX6_got_5 rfl hl (by decide) rfl (fun ls hl => ?_)
    refine lv_aload_nN X.1.1 X.1.2.1 dX6_got_6 rfl (lv_at hl 0 rfl) ?_
    refine lv_ifnonnullN X.1.1 X.1.2.1 dX6_got_7 ?_
    refine lv_iconst (v := (-1 : Int32)) X.1.1 X.1.2.1 dX6_got_10 (by decide) ?_
    refine lv_goto (tgt := 18) X.1.1 X.1.2.1 dX6_got_11 (by decide) ?_
    exact W.iret X.1.1 X.1.2.1 hr (fun t ht _ => V.q (r := (-1 : Int32)) h ht) V.2.1.2.2 dX6_got_18 X.1.2.2.2.2
  | some o5 =>
    have h := h.2 o5 rfl
    refine lv_astore_n (lv' := [(2, .ref o5), (0, .ref a0), (1, .int v1)]) X.1.1 X.1.2.1 dX6_got_5 rfl hl (by decide) rfl (fun ls hl => ?_)
    refine lv_aload_n X.1.1 X.1.2.1 dX6_got_6 rfl (lv_at hl 0 rfl) ?_
    refine lv_ifnonnull (tgt := 14) X.1.1 X.1.2.1 dX6_got_7 (by decide) ?_
    refine lv_aload_n X.1.1 X.1.2.1 dX6_got_14 rfl (lv_at hl 0 rfl) ?_
    obtain ⟨k7, h⟩ := h
    refine gf_X6_187 X V k7 dX6_got_15 ?_
    exact W.iret X.1.1 X.1.2.1 hr (fun t ht _ => V.q (r := (fi S2 20 o5)) h ht) V.2.1.2.2 dX6_got_18 X.1.2.2.2.2
abbrev rm_X6_frameAt : Room := { frames := 4, cells := 0, slots := 0, locals := 85 }
def wp_X6_frameAt (post : (Option Nat) → HS → Prop) (S : HS) (a0 : Nat) (v1 : Int32) (v2 : Int32) : Prop := kd S a0 = 7 ∧ (wp_X6_stationAt (fun r3 S2 => ((r3 = none → post none S2) ∧ (∀ o5 : Nat, r3 = some o5 → kd S2 o5 = 6 ∧ (wp_X4_latestFrame (fun r9 S8 => ((r9 = none → post none S8) ∧ (∀ o11 : Nat, r9 = some o11 → post (some o11) S8))) S2 o5 v2)))) S a0 v1)
set_option maxHeartbeats 400000 in
set_option maxRecDepth 100000 in
theorem sd_X6_frameAt (l : Launch) (D : va_G) (ka : Nat → ClassId) (sz : Nat) (Z : HS) (post : (Option Nat) → HS → Prop) (a0 : Nat) (v1 : Int32) (v2 : Int32) (h : wp_X6_frameAt post Z a0 v1 v2) : Met l yX6_frameAt [Cond.code yX6_frameAt cX6_frameAt 4 (some (.object "OverlayFabric$Row"))] rm_X6_frameAt (Px D ka Z sz [.ref a0, .int v1, .int v2]) (Qx eR post D ka Z sz) 0 0 (fA Z sz) := by
  refine Met.ofW (cc := cX6_frameAt) (maxL := 4) (ret := (some (.object "OverlayFabric$Row"))) (by decide) rfl ?_
  intro p e s m args below meth c s₁ B hml hv
  obtain ⟨rfl, X, V, hsz⟩ := Cx.entry B hml hv
  have hr : meth.sig.returnType = (some (.object "OverlayFabric$Row")) := B.returns
  have hl := lv_entry ([.ref a0, .int v1, .int v2]) (n := 4) (Nat.le_of_ble_eq_true rfl)
  rw [lg_entry_eq]
  generalize (lg_sl ([.ref a0, .int v1, .int v2]) ++ List.replicate (4 - (lg_sl ([.ref a0, .int v1, .int v2])).length) Slot.unset).toArray = ls at hl ⊢
  have hl : lv_has ls 4 [(0, .ref a0), (1, .int v1), (2, .int v2)] := hl
  have h : wp_X6_frameAt post Z a0 v1 v2 := h
  refine lv_aload_n X.1.1 X.1.2.1 dX6_frameAt_0 rfl (lv_at hl 0 rfl) ?_
  refine lv_iload_n X.1.1 X.1.2.1 dX6_frameAt_1 rfl (lv_at hl 1 rfl) ?_
  obtain ⟨k1, h⟩ := h
  refine r_callV (k := 7) (n := 1) (As := [.int v1]) X V (sd_X6_stationAt l D ka _ Z _ a0 v1 h) k1 (by decide) (by decide) rfl wd_265 wd_266 wd_249 wd_267 wd_268 rfl rfl (by decide +kernel) ⟨Nat.le_of_ble_eq_true rfl, Nat.le_of_ble_eq_true rfl⟩ rfl hl.1 rfl (Nat.le_of_ble_eq_true rfl) dX6_frameAt_2 ⟨show 0 ≤ 0 by omega, show 0 ≤ 0 by omega⟩ (fun r3 S2 H locs h m4 V => ?_)
  have k1 := m4.k k1 (by decide)
  cases r3 with
  | none =>
    have h := h.1 rfl
    refine lv_astore_nN (lv' := [(3, .null), (0, .ref a0), (1, .int v1), (2, .int v2)]) X.1.1 X.1.2.1 dX6_frameAt_5 rfl hl (by decide) rfl (fun ls hl => ?_)
    refine lv_aload_nN X.1.1 X.1.2.1 dX6_frameAt_6 rfl (lv_at hl 0 rfl) ?_
    refine lv_ifnonnullN X.1.1 X.1.2.1 dX6_frameAt_7 ?_
    refine lv_null X.1.1 X.1.2.1 dX6_frameAt_10 ?_
    refine lv_goto (tgt := 19) X.1.1 X.1.2.1 dX6_frameAt_11 (by decide) ?_
    exact W.aret X.1.1 X.1.2.1 hr (Or.inl ⟨_, rfl⟩) (Or.inl rfl) (fun t ht _ => V.q (r := none) h ht) V.2.1.2.2 dX6_frameAt_19 X.1.2.2.2.2
  | some o5 =>
    have h := h.2 o5 rfl
    refine lv_astore_n (lv' := [(3, .ref o5), (0, .ref a0), (1, .int v1), (2, .int v2)]) X.1.1 X.1.2.1 dX6_frameAt_5 rfl hl (by decide) rfl (fun ls hl => ?_)
    refine lv_aload_n X.1.1 X.1.2.1 dX6_frameAt_6 rfl (lv_at hl 0 rfl) ?_
    refine lv_ifnonnull (tgt := 14) X.1.1 X.1.2.1 dX6_frameAt_7 (by decide) ?_
    refine lv_aload_n X.1.1 X.1.2.1 dX6_frameAt_14 rfl (lv_at hl 0 rfl) ?_
    refine lv_iload_n X.1.1 X.1.2.1 dX6_frameAt_15 rfl (lv_at hl 3 rfl) ?_
    obtain ⟨k7, h⟩ := h
    refine r_callV (k := 6) (n := 1) (As := [.int v2]) X V (sd_X4_latestFrame l D ka _ S2 _ o5 v2 h) k7 (by decide) (by decide) rfl wd_430 wd_431 wd_256 wd_432 wd_433 rfl rfl (by decide +kernel) ⟨Nat.le_of_ble_eq_true rfl, Nat.le_of_ble_eq_true rfl⟩ rfl hl.1 rfl (Nat.le_of_ble_eq_true rfl) dX6_frameAt_16 ⟨show 0 ≤ 0 by omega, show 0 ≤ 0 by omega⟩ (fun r9 S8 H locs h m10 V => ?_)
    have k1 := m10.k k1 (by decide)
    have k7 := m10.k k7 (by decide)
    cases r9 with
    | none =>
      have h := h.1 rfl
      exact W.aret X.1.1 X.1.2.1 hr (Or.inl ⟨_, rfl⟩) (Or.inl rfl) (fun t ht _ => V.q (r := none) h ht) V.2.1.2.2 dX6_frameAt_19 X.1.2.2.2.2
    | some o11 =>
      have h := h.2 o11 rfl
      exact W.aret X.1.1 X.1.2.1 hr (Or.inl ⟨_, rfl⟩) (Or.inr ⟨_, rfl⟩) (fun t ht _ => V.q (r := (some o11)) h ht) V.2.1.2.2 dX6_frameAt_19 X.1.2.2.2.2
abbrev rm_X6_frame : Room := { frames := 5, cells := 0, slots := 0, locals := 108 }
def wp_X6_frame (post : Int32 → HS → Prop) (S : HS) (a0 : Nat) (v1 : Int32) (v2 : Int32) (v3 : Int32) : Prop := kd S a0 = 7 ∧ (wp_X6_frameAt (fun r3 S2 => ((r3 = none → post (-1 : Int32) S2) ∧ (∀ o5 : Nat, r3 = some o5 → kd S2 o5 = 5 ∧ (wp_X3_at (fun r9 S8 => post r9 S8) S2 o5 v3)))) S a0 v1 v2)
set_option maxHeartbeats 400000 in
set_option maxRecDepth 100000 in
theorem sd_X6_frame (l : Launch) (D : va_G) (ka : Nat → ClassId) (sz : Nat) (Z : HS) (post : Int32 → HS → Prop) (a0 : Nat) (v1 : Int32) (v2 : Int32) (v3 : Int32) (h : wp_X6_frame post Z a0 v1 v2 v3) : Met l yX6_frame [Cond.code yX6_frame cX6_frame 5 (some .int)] rm_X6_frame (Px D ka Z sz [.ref a0, .int v1, .int v2, .int v3]) (Qx eI post D ka Z sz) 0 0 (fA Z sz) := by
  refine Met.ofW (cc := cX6_frame) (maxL := 5) (ret := (some .int)) (by decide) rfl ?_
  intro p e s m args below meth c s₁ B hml hv
  obtain ⟨rfl, X, V, hsz⟩ := Cx.entry B hml hv
  have hr : meth.sig.returnType = (some .int) := B.returns
  have hl := lv_entry ([.ref a0, .int v1, .int v2, .int v3]) (n := 5) (Nat.le_of_ble_eq_true rfl)
  rw [lg_entry_eq]
  generalize (lg_sl ([.ref a0, .int v1, .int v2, .int v3]) ++ List.replicate (5 - (lg_sl ([.ref a0, .int v1, .int v2, .int v3])).length) Slot.unset).toArray = ls at hl ⊢
  have hl : lv_has ls 5 [(0, .ref a0), (1, .int v1), (2, .int v2), (3, .int v3)] := hl
  have h : wp_X6_frame post Z a0 v1 v2 v3 := h
  refine lv_aload_n X.1.1 X.1.2.1 dX6_frame_0 rfl (lv_at hl 0 rfl) ?_
  refine lv_iload_n X.1.1 X.1.2.1 dX6_frame_1 rfl (lv_at hl 1 rfl) ?_
  refine lv_iload_n X.1.1 X.1.2.1 dX6_frame_2 rfl (lv_at hl 2 rfl) ?_
  obtain ⟨k1, h⟩ := h
  refine r_callV (k := 7) (n := 2) (As := [.int v1, .int v2]) X V (sd_X6_frameAt l D ka _ Z _ a0 v1 v2 h) k1 (by decide) (by decide) rfl wd_434 wd_435 wd_249 wd_436 wd_437 rfl rfl (by decide +kernel) ⟨Nat.le_of_ble_eq_true rfl, Nat.le_of_ble_eq_true rfl⟩ rfl hl.1 rfl (Nat.le_of_ble_eq_true rfl) dX6_frame_3 ⟨show 0 ≤ 0 by omega, show 0 ≤ 0 by omega⟩ (fun r3 S2 H locs h m4 V => ?_)
  have k1 := m4.k k1 (by decide)
  cases r3 with
  | none =>
    have h := h.1 rfl
    refine lv_astoreN (lv' := [(4, .null), (0, .ref a0), (1, .int v1), (2, .int v2), (3, .int v3)]) X.1.1 X.1.2.1 dX6_frame_6 hl (by decide) rfl (fun ls hl => ?_)
    refine lv_aloadN X.1.1 X.1.2.1 dX6_frame_8 (lv_at hl 0 rfl) ?_
    refine lv_ifnonnullN X.1.1 X.1.2.1 dX6_frame_10 ?_
    refine lv_iconst (v := (-1 : Int32)) X.1.1 X.1.2.1 dX6_frame_13 (by decide) ?_
    refine lv_goto (tgt := 23) X.1.1 X.1.2.1 dX6_frame_14 (by decide) ?_
    exact W.iret X.1.1 X.1.2.1 hr (fun t ht _ => V.q (r := (-1 : Int32)) h ht) V.2.1.2.2 dX6_frame_23 X.1.2.2.2.2
  | some o5 =>
    have h := h.2 o5 rfl
    refine lv_astore (lv' := [(4, .ref o5), (0, .ref a0), (1, .int v1), (2, .int v2), (3, .int v3)]) X.1.1 X.1.2.1 dX6_frame_6 hl (by decide) rfl (fun ls hl => ?_)
    refine lv_aload X.1.1 X.1.2.1 dX6_frame_8 (lv_at hl 0 rfl) ?_
    refine lv_ifnonnull (tgt := 17) X.1.1 X.1.2.1 dX6_frame_10 (by decide) ?_
    refine lv_aload X.1.1 X.1.2.1 dX6_frame_17 (lv_at hl 0 rfl) ?_
    refine lv_iload_n X.1.1 X.1.2.1 dX6_frame_19 rfl (lv_at hl 4 rfl) ?_
    obtain ⟨k7, h⟩ := h
    refine r_callV (k := 5) (n := 1) (As := [.int v3]) X V (sd_X3_at l D ka _ S2 _ o5 v3 h) k7 (by decide) (by decide) rfl wd_11 wd_415 wd_8 wd_13 wd_14 rfl rfl (by decide +kernel) ⟨Nat.le_of_ble_eq_true rfl, Nat.le_of_ble_eq_true rfl⟩ rfl hl.1 rfl (Nat.le_of_ble_eq_true rfl) dX6_frame_20 ⟨show 0 ≤ 0 by omega, show 0 ≤ 0 by omega⟩ (fun r9 S8 H locs h m10 V => ?_)
    have k1 := m10.k k1 (by decide)
    have k7 := m10.k k7 (by decide)
    exact W.iret X.1.1 X.1.2.1 hr (fun t ht _ => V.q (r := r9) h ht) V.2.1.2.2 dX6_frame_23 X.1.2.2.2.2
abbrev rm_X6_length : Room := { frames := 5, cells := 0, slots := 0, locals := 108 }
def wp_X6_length (post : Int32 → HS → Prop) (S : HS) (a0 : Nat) (v1 : Int32) (v2 : Int32) : Prop := kd S a0 = 7 ∧ (wp_X6_frameAt (fun r3 S2 => ((r3 = none → post (-1 : Int32) S2) ∧ (∀ o5 : Nat, r3 = some o5 → kd S2 o5 = 5 ∧ (post (fi S2 15 o5) S2)))) S a0 v1 v2)
set_option maxHeartbeats 400000 in
set_option maxRecDepth 100000 in
theorem sd_X6_length (l : Launch) (D : va_G) (ka : Nat → ClassId) (sz : Nat) (Z : HS) (post : Int32 → HS → Prop) (a0 : Nat) (v1 : Int32) (v2 : Int32) (h : wp_X6_length post Z a0 v1 v2) : Met l yX6_length [Cond.code yX6_length cX6_length 4 (some .int)] rm_X6_length (Px D ka Z sz [.ref a0, .int v1, .int v2]) (Qx eI post D ka Z sz) 0 0 (fA Z sz) := by
  refine Met.ofW (cc := cX6_length) (maxL := 4) (ret := (some .int)) (by decide) rfl ?_
  intro p e s m args below meth c s₁ B hml hv
  obtain ⟨rfl, X, V, hsz⟩ := Cx.entry B hml hv
  have hr : meth.sig.returnType = (some .int) := B.returns
  have hl := lv_entry ([.ref a0, .int v1, .int v2]) (n := 4) (Nat.le_of_ble_eq_true rfl)
  rw [lg_entry_eq]
  generalize (lg_sl ([.ref a0, .int v1, .int v2]) ++ List.replicate (4 - (lg_sl ([.ref a0, .int v1, .int v2])).length) Slot.unset).toArray = ls at hl ⊢
  have hl : lv_has ls 4 [(0, .ref a0), (1, .int v1), (2, .int v2)] := hl
  have h : wp_X6_length post Z a0 v1 v2 := h
  refine lv_aload_n X.1.1 X.1.2.1 dX6_length_0 rfl (lv_at hl 0 rfl) ?_
  refine lv_iload_n X.1.1 X.1.2.1 dX6_length_1 rfl (lv_at hl 1 rfl) ?_
  refine lv_iload_n X.1.1 X.1.2.1 dX6_length_2 rfl (lv_at hl 2 rfl) ?_
  obtain ⟨k1, h⟩ := h
  refine r_callV (k := 7) (n := 2) (As := [.int v1, .int v2]) X V (sd_X6_frameAt l D ka _ Z _ a0 v1 v2 h) k1 (by decide) (by decide) rfl wd_434 wd_435 wd_249 wd_436 wd_437 rfl rfl (by decide +kernel) ⟨Nat.le_of_ble_eq_true rfl, Nat.le_of_ble_eq_true rfl⟩ rfl hl.1 rfl (Nat.le_of_ble_eq_true rfl) dX6_length_3 ⟨show 0 ≤ 0 by omega, show 0 ≤ 0 by omega⟩ (fun r3 S2 H locs h m4 V => ?_)
  have k1 := m4.k k1 (by decide)
  cases r3 with
  | none =>
    have h := h.1 rfl
    refine lv_astore_nN (lv' := [(3, .null), (0, .ref a0), (1, .int v1), (2, .int v2)]) X.1.1 X.1.2.1 dX6_length_6 rfl hl (by decide) rfl (fun ls hl => ?_)
    refine lv_aload_nN X.1.1 X.1.2.1 dX6_length_7 rfl (lv_at hl 0 rfl) ?_
    refine lv_ifnonnullN X.1.1 X.1.2.1 dX6_length_8 ?_
    refine lv_iconst (v := (-1 : Int32)) X.1.1 X.1.2.1 dX6_length_11 (by decide) ?_
    refine lv_goto (tgt := 19) X.1.1 X.1.2.1 dX6_length_12 (by decide) ?_
    exact W.iret X.1.1 X.1.2.1 hr (fun t ht _ => V.q (r := (-1 : Int32)) h ht) V.2.1.2.2 dX6_length_19 X.1.2.2.2.2
  | some o5 =>
    have h := h.2 o5 rfl
    refine lv_astore_n (lv' := [(3, .ref o5), (0, .ref a0), (1, .int v1), (2, .int v2)]) X.1.1 X.1.2.1 dX6_length_6 rfl hl (by decide) rfl (fun ls hl => ?_)
    refine lv_aload_n X.1.1 X.1.2.1 dX6_length_7 rfl (lv_at hl 0 rfl) ?_
    refine lv_ifnonnull (tgt := 15) X.1.1 X.1.2.1 dX6_length_8 (by decide) ?_
    refine lv_aload_n X.1.1 X.1.2.1 dX6_length_15 rfl (lv_at hl 0 rfl) ?_
    obtain ⟨k7, h⟩ := h
    refine gf_X6_80 X V k7 dX6_length_16 ?_
    exact W.iret X.1.1 X.1.2.1 hr (fun t ht _ => V.q (r := (fi S2 15 o5)) h ht) V.2.1.2.2 dX6_length_19 X.1.2.2.2.2
abbrev rm_X6_count : Room := { frames := 0, cells := 0, slots := 0, locals := 0 }
def wp_X6_count (post : Int32 → HS → Prop) (S : HS) (a0 : Nat) (v1 : Int32) : Prop := ((v1 < 0 → post (-1 : Int32) S) ∧ (¬ v1 < 0 → ((v1 < (13 : Int32) → kd S a0 = 7 ∧ (∃ o4 : Nat, fr S 25 a0 = some o4 ∧ (kd S o4 / 32 = 1 ∧ (vp_in v1 (ln S o4) ∧ (post (ai S o4 v1.toNatClampNeg) S))))) ∧ (¬ v1 < (13 : Int32) → post (-1 : Int32) S))))
set_option maxHeartbeats 400000 in
set_option maxRecDepth 100000 in
theorem sd_X6_count (l : Launch) (D : va_G) (ka : Nat → ClassId) (sz : Nat) (Z : HS) (post : Int32 → HS → Prop) (a0 : Nat) (v1 : Int32) (h : wp_X6_count post Z a0 v1) : Met l yX6_count [Cond.code yX6_count cX6_count 2 (some .int)] rm_X6_count (Px D ka Z sz [.ref a0, .int v1]) (Qx eI post D ka Z sz) 0 0 (fA Z sz) := by
  refine Met.ofW (cc := cX6_count) (maxL := 2) (ret := (some .int)) (by decide) rfl ?_
  intro p e s m args below meth c s₁ B hml hv
  obtain ⟨rfl, X, V, hsz⟩ := Cx.entry B hml hv
  have hr : meth.sig.returnType = (some .int) := B.returns
  have hl := lv_entry ([.ref a0, .int v1]) (n := 2) (Nat.le_of_ble_eq_true rfl)
  rw [lg_entry_eq]
  generalize (lg_sl ([.ref a0, .int v1]) ++ List.replicate (2 - (lg_sl ([.ref a0, .int v1])).length) Slot.unset).toArray = ls at hl ⊢
  have hl : lv_has ls 2 [(0, .ref a0), (1, .int v1)] := hl
  have h : wp_X6_count post Z a0 v1 := h
  refine lv_iload_n X.1.1 X.1.2.1 dX6_count_0 rfl (lv_at hl 1 rfl) ?_
  refine lv_if_lt (tgt := 10) X.1.1 X.1.2.1 dX6_count_1 (by decide) (fun c1 => ?_) (fun c1 => ?_)
  · have h := h.1 c1
    refine lv_iconst (v := (-1 : Int32)) X.1.1 X.1.2.1 dX6_count_10 (by decide) ?_
    refine lv_goto (tgt := 20) X.1.1 X.1.2.1 dX6_count_11 (by decide) ?_
    exact W.iret X.1.1 X.1.2.1 hr (fun t ht _ => V.q (r := (-1 : Int32)) h ht) V.2.1.2.2 dX6_count_20 X.1.2.2.2.2
  · have h := h.2 c1
    refine lv_iload_n X.1.1 X.1.2.1 dX6_count_4 rfl (lv_at hl 1 rfl) ?_
    refine lv_bipush (v := (13 : Int32)) X.1.1 X.1.2.1 dX6_count_5 (by decide) ?_
    refine lv_icmp_lt (tgt := 14) X.1.1 X.1.2.1 dX6_count_7 (by decide) (fun c2 => ?_) (fun c2 => ?_)
    · have h := h.1 c2
      refine lv_aload_n X.1.1 X.1.2.1 dX6_count_14 rfl (lv_at hl 0 rfl) ?_
      obtain ⟨k3, h⟩ := h
      obtain ⟨o4, e5, h⟩ := h
      refine gf_X6_34 X V k3 e5 dX6_count_15 ?_
      refine lv_iload_n X.1.1 X.1.2.1 dX6_count_18 rfl (lv_at hl 1 rfl) ?_
      obtain ⟨k6, h⟩ := h
      obtain ⟨i7, h⟩ := h
      refine r_iald X V k6 i7 dX6_count_19 ?_
      exact W.iret X.1.1 X.1.2.1 hr (fun t ht _ => V.q (r := (ai Z o4 v1.toNatClampNeg)) h ht) V.2.1.2.2 dX6_count_20 X.1.2.2.2.2
    · have h := h.2 c2
      refine lv_iconst (v := (-1 : Int32)) X.1.1 X.1.2.1 dX6_count_10 (by decide) ?_
      refine lv_goto (tgt := 20) X.1.1 X.1.2.1 dX6_count_11 (by decide) ?_
      exact W.iret X.1.1 X.1.2.1 hr (fun t ht _ => V.q (r := (-1 : Int32)) h ht) V.2.1.2.2 dX6_count_20 X.1.2.2.2.2
