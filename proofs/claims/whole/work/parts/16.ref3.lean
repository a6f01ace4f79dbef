abbrev rm_X7_init : Room := { frames := 1, cells := 20, slots := 30681, locals := 22 }
def wp_X7_init_155a (post : Unit → HS → Prop) (S : HS) (b0 : Nat) : Prop := ∀ o61 : Nat, kd S o61 = 0 → (kd (snw S o61 67 120) b0 = 8 ∧ (∀ o65 : Nat, kd (sfr (snw S o61 67 120) 49 b0 (some o61)) o65 = 0 → (wp_X7_begin (fun r69 S68 => post () S68) (sfr (snw (sfr (snw S o61 67 120) 49 b0 (some o61)) o65 68 120) 51 b0 (some o65)) b0 (4 : Int32))))
set_option maxHeartbeats 400000 in
set_option maxRecDepth 100000 in
theorem sl_X7_init_155a (l : Launch) (D : va_G) (ka : Nat → ClassId) (sz : Nat) (Z : HS) (post : Unit → HS → Prop) {p : Program} {e : Env} {s : State} {m : MethodId} {args : Array Value} {below : List Frame} {meth : Method} {c : Code} (X : Cx p s m meth c cX7_init 1 RX7 D ka Z (fA Z sz)) (hr : meth.sig.returnType = none) (hin2 : meth.name = "<init>")  : ∀ (S : HS) (b0 : Nat), wp_X7_init_155a post S b0 → ∀ (H : Heap) (locs : List Loc) (ls : Array Slot), Hv D ka Z s (fA Z sz) S H locs → lv_has ls 1 [(0, .ref b0)] → W p l e rm_X7_init s m args below meth c H locs 18 30441 (MQ below (Qx eV post D ka Z sz) args s 20 30681 (fA Z sz)) (F0 m 155 ls []) := by
  intro S b0 h H locs ls V hl
  refine lv_aload_n X.1.1 X.1.2.1 dX7_init_155 rfl (lv_at hl 0 rfl) ?_
  refine lv_bipush (v := (120 : Int32)) X.1.1 X.1.2.1 dX7_init_156 (by decide) ?_
  refine r_newa (t := 1) (k := 67) (ty := .byte) (N' := 120) (a0 := (120, .inl (fun _ => 0))) X V wd_510 rfl rfl (fun _ => rfl) (by decide) (by decide) (fun q => na_67) (by decide) (by decide) (by decide) (show 19 ≤ 20 by omega) (show 30561 ≤ 30681 by omega) dX7_init_158 (fun o61 H z62 V => ?_)
  have h := h o61 z62
  refine W.widen (k := 19) (n := 30561) (by omega) (by omega) ?_
  have k63 : kd (snw S o61 67 120) o61 / 32 = 2 := by show va_up (kd _) _ _ _ / 32 = _; rw [va_up_self]
  obtain ⟨k64, h⟩ := h
  refine pf_X7_66 X V k64 hin2 dX7_init_160 (fun H locs V => ?_)
  refine lv_aload_n X.1.1 X.1.2.1 dX7_init_163 rfl (lv_at hl 0 rfl) ?_
  refine lv_bipush (v := (120 : Int32)) X.1.1 X.1.2.1 dX7_init_164 (by decide) ?_
  refine r_newa (t := 1) (k := 68) (ty := .byte) (N' := 120) (a0 := (120, .inl (fun _ => 0))) X V wd_510 rfl rfl (fun _ => rfl) (by decide) (by decide) (fun q => na_68) (by decide) (by decide) (by decide) (show 20 ≤ 20 by omega) (show 30681 ≤ 30681 by omega) dX7_init_166 (fun o65 H z66 V => ?_)
  have h := h o65 z66
  have k63 := (mono.snw (k := 68) (n := 120) z66).t k63 (by decide)
  have k64 := (mono.snw (k := 68) (n := 120) z66).k k64 (by decide)
  refine W.widen (k := 20) (n := 30681) (by omega) (by omega) ?_
  have k67 : kd (snw (sfr (snw S o61 67 120) 49 b0 (some o61)) o65 68 120) o65 / 32 = 2 := by show va_up (kd _) _ _ _ / 32 = _; rw [va_up_self]
  refine pf_X7_69 X V k64 hin2 dX7_init_168 (fun H locs V => ?_)
  refine lv_aload_n X.1.1 X.1.2.1 dX7_init_171 rfl (lv_at hl 0 rfl) ?_
  refine lv_iconst (v := (4 : Int32)) X.1.1 X.1.2.1 dX7_init_172 (by decide) ?_
  refine r_callV (k := 8) (n := 1) (As := [.int (4 : Int32)]) X V (sd_X7_begin l D ka _ (sfr (snw (sfr (snw S o61 67 120) 49 b0 (some o61)) o65 68 120) 51 b0 (some o65)) _ b0 (4 : Int32) h) k64 (by decide) (by decide) rfl wd_512 wd_513 wd_447 wd_514 wd_515 rfl rfl (by decide +kernel) ⟨Nat.le_of_ble_eq_true rfl, Nat.le_of_ble_eq_true rfl⟩ rfl hl.1 rfl (Nat.le_of_ble_eq_true rfl) dX7_init_173 ⟨show 20 ≤ 20 by omega, show 30681 ≤ 30681 by omega⟩ (fun r69 S68 H locs h m70 V => ?_)
  have k63 := m70.t k63 (by decide)
  have k64 := m70.k k64 (by decide)
  have k67 := m70.t k67 (by decide)
  refine lv_pop X.1.1 X.1.2.1 dX7_init_176 rfl ?_
  refine W.widen (k := 20) (n := 30681) (by omega) (by omega) ?_
  exact W.vret X.1.1 X.1.2.1 hr (fun t ht _ => V.q (r := ()) h ht) V.2.1.2.2 dX7_init_177 X.1.2.2.2.2
def wp_X7_init_131a (post : Unit → HS → Prop) (S : HS) (b0 : Nat) : Prop := ∀ o51 : Nat, kd S o51 = 0 → (kd (snw S o51 46 50) b0 = 8 ∧ (∀ o55 : Nat, kd (sfr (snw S o51 46 50) 45 b0 (some o51)) o55 = 0 → (∀ o58 : Nat, kd (sfr (snw (sfr (snw S o51 46 50) 45 b0 (some o51)) o55 47 50) 46 b0 (some o55)) o58 = 0 → (wp_X7_init_155a post (sfr (snw (sfr (snw (sfr (snw S o51 46 50) 45 b0 (some o51)) o55 47 50) 46 b0 (some o55)) o58 48 13) 48 b0 (some o58)) b0))))
set_option maxHeartbeats 400000 in
set_option maxRecDepth 100000 in
theorem sl_X7_init_131a (l : Launch) (D : va_G) (ka : Nat → ClassId) (sz : Nat) (Z : HS) (post : Unit → HS → Prop) {p : Program} {e : Env} {s : State} {m : MethodId} {args : Array Value} {below : List Frame} {meth : Method} {c : Code} (X : Cx p s m meth c cX7_init 1 RX7 D ka Z (fA Z sz)) (hr : meth.sig.returnType = none) (hin2 : meth.name = "<init>")  : ∀ (S : HS) (b0 : Nat), wp_X7_init_131a post S b0 → ∀ (H : Heap) (locs : List Loc) (ls : Array Slot), Hv D ka Z s (fA Z sz) S H locs → lv_has ls 1 [(0, .ref b0)] → W p l e rm_X7_init s m args below meth c H locs 15 30328 (MQ below (Qx eV post D ka Z sz) args s 20 30681 (fA Z sz)) (F0 m 131 ls []) := by
  intro S b0 h H locs ls V hl
  refine lv_aload_n X.1.1 X.1.2.1 dX7_init_131 rfl (lv_at hl 0 rfl) ?_
  refine lv_bipush (v := (50 : Int32)) X.1.1 X.1.2.1 dX7_init_132 (by decide) ?_
  refine r_newa (t := 0) (k := 46) (ty := .int) (N' := 50) (a0 := (50, .inl (fun _ => 0))) X V wd_3 rfl rfl (fun _ => rfl) (by decide) (by decide) (fun q => na_46) (by decide) (by decide) (by decide) (show 16 ≤ 20 by omega) (show 30378 ≤ 30681 by omega) dX7_init_134 (fun o51 H z52 V => ?_)
  have h := h o51 z52
  refine W.widen (k := 16) (n := 30378) (by omega) (by omega) ?_
  have k53 : kd (snw S o51 46 50) o51 / 32 = 1 := by show va_up (kd _) _ _ _ / 32 = _; rw [va_up_self]
  obtain ⟨k54, h⟩ := h
  refine pf_X7_57 X V k54 hin2 dX7_init_136 (fun H locs V => ?_)
  refine lv_aload_n X.1.1 X.1.2.1 dX7_init_139 rfl (lv_at hl 0 rfl) ?_
  refine lv_bipush (v := (50 : Int32)) X.1.1 X.1.2.1 dX7_init_140 (by decide) ?_
  refine r_newa (t := 0) (k := 47) (ty := .int) (N' := 50) (a0 := (50, .inl (fun _ => 0))) X V wd_3 rfl rfl (fun _ => rfl) (by decide) (by decide) (fun q => na_47) (by decide) (by decide) (by decide) (show 17 ≤ 20 by omega) (show 30428 ≤ 30681 by omega) dX7_init_142 (fun o55 H z56 V => ?_)
  have h := h o55 z56
  have k53 := (mono.snw (k := 47) (n := 50) z56).t k53 (by decide)
  have k54 := (mono.snw (k := 47) (n := 50) z56).k k54 (by decide)
  refine W.widen (k := 17) (n := 30428) (by omega) (by omega) ?_
  have k57 : kd (snw (sfr (snw S o51 46 50) 45 b0 (some o51)) o55 47 50) o55 / 32 = 1 := by show va_up (kd _) _ _ _ / 32 = _; rw [va_up_self]
  refine pf_X7_60 X V k54 hin2 dX7_init_144 (fun H locs V => ?_)
  refine lv_aload_n X.1.1 X.1.2.1 dX7_init_147 rfl (lv_at hl 0 rfl) ?_
  refine lv_bipush (v := (13 : Int32)) X.1.1 X.1.2.1 dX7_init_148 (by decide) ?_
  refine r_newa (t := 0) (k := 48) (ty := .int) (N' := 13) (a0 := (13, .inl (fun _ => 0))) X V wd_3 rfl rfl (fun _ => rfl) (by decide) (by decide) (fun q => na_48) (by decide) (by decide) (by decide) (show 18 ≤ 20 by omega) (show 30441 ≤ 30681 by omega) dX7_init_150 (fun o58 H z59 V => ?_)
  have h := h o58 z59
  have k53 := (mono.snw (k := 48) (n := 13) z59).t k53 (by decide)
  have k54 := (mono.snw (k := 48) (n := 13) z59).k k54 (by decide)
  have k57 := (mono.snw (k := 48) (n := 13) z59).t k57 (by decide)
  refine W.widen (k := 18) (n := 30441) (by omega) (by omega) ?_
  have k60 : kd (snw (sfr (snw (sfr (snw S o51 46 50) 45 b0 (some o51)) o55 47 50) 46 b0 (some o55)) o58 48 13) o58 / 32 = 1 := by show va_up (kd _) _ _ _ / 32 = _; rw [va_up_self]
  refine pf_X7_63 X V k54 hin2 dX7_init_152 (fun H locs V => ?_)
  exact sl_X7_init_155a l D ka sz Z post X hr hin2 (sfr (snw (sfr (snw (sfr (snw S o51 46 50) 45 b0 (some o51)) o55 47 50) 46 b0 (some o55)) o58 48 13) 48 b0 (some o58)) b0 h _ _ _ V (lv_sub hl [0] rfl)
def wp_X7_init_105a (post : Unit → HS → Prop) (S : HS) (b0 : Nat) : Prop := ∀ o41 : Nat, kd S o41 = 0 → (kd (snw S o41 97 192) b0 = 8 ∧ (∀ o45 : Nat, kd (sfr (snw S o41 97 192) 41 b0 (some o41)) o45 = 0 → (∀ o48 : Nat, kd (sfr (snw (sfr (snw S o41 97 192) 41 b0 (some o41)) o45 65 120) 42 b0 (some o45)) o48 = 0 → (wp_X7_init_131a post (sfr (snw (sfr (snw (sfr (snw S o41 97 192) 41 b0 (some o41)) o45 65 120) 42 b0 (some o45)) o48 66 6000) 44 b0 (some o48)) b0))))
set_option maxHeartbeats 400000 in
set_option maxRecDepth 100000 in
theorem sl_X7_init_105a (l : Launch) (D : va_G) (ka : Nat → ClassId) (sz : Nat) (Z : HS) (post : Unit → HS → Prop) {p : Program} {e : Env} {s : State} {m : MethodId} {args : Array Value} {below : List Frame} {meth : Method} {c : Code} (X : Cx p s m meth c cX7_init 1 RX7 D ka Z (fA Z sz)) (hr : meth.sig.returnType = none) (hin2 : meth.name = "<init>")  : ∀ (S : HS) (b0 : Nat), wp_X7_init_105a post S b0 → ∀ (H : Heap) (locs : List Loc) (ls : Array Slot), Hv D ka Z s (fA Z sz) S H locs → lv_has ls 1 [(0, .ref b0)] → W p l e rm_X7_init s m args below meth c H locs 12 24016 (MQ below (Qx eV post D ka Z sz) args s 20 30681 (fA Z sz)) (F0 m 105 ls []) := by
  intro S b0 h H locs ls V hl
  refine lv_aload_n X.1.1 X.1.2.1 dX7_init_105 rfl (lv_at hl 0 rfl) ?_
  refine lv_sipush (v := (192 : Int32)) X.1.1 X.1.2.1 dX7_init_106 (by decide) ?_
  refine r_newa (t := 2) (k := 97) (ty := .long) (N' := 192) (a0 := (192, .inr (.inl (fun _ => 0)))) X V wd_511 rfl rfl (fun _ => rfl) (by decide) (by decide) (fun q => na_97) (by decide) (by decide) (by decide) (show 13 ≤ 20 by omega) (show 24208 ≤ 30681 by omega) dX7_init_109 (fun o41 H z42 V => ?_)
  have h := h o41 z42
  refine W.widen (k := 13) (n := 24208) (by omega) (by omega) ?_
  have k43 : kd (snw S o41 97 192) o41 / 32 = 3 := by show va_up (kd _) _ _ _ / 32 = _; rw [va_up_self]
  obtain ⟨k44, h⟩ := h
  refine pf_X7_48 X V k44 hin2 dX7_init_111 (fun H locs V => ?_)
  refine lv_aload_n X.1.1 X.1.2.1 dX7_init_114 rfl (lv_at hl 0 rfl) ?_
  refine lv_bipush (v := (120 : Int32)) X.1.1 X.1.2.1 dX7_init_115 (by decide) ?_
  refine r_newa (t := 1) (k := 65) (ty := .byte) (N' := 120) (a0 := (120, .inl (fun _ => 0))) X V wd_510 rfl rfl (fun _ => rfl) (by decide) (by decide) (fun q => na_65) (by decide) (by decide) (by decide) (show 14 ≤ 20 by omega) (show 24328 ≤ 30681 by omega) dX7_init_117 (fun o45 H z46 V => ?_)
  have h := h o45 z46
  have k43 := (mono.snw (k := 65) (n := 120) z46).t k43 (by decide)
  have k44 := (mono.snw (k := 65) (n := 120) z46).k k44 (by decide)
  refine W.widen (k := 14) (n := 24328) (by omega) (by omega) ?_
  have k47 : kd (snw (sfr (snw S o41 97 192) 41 b0 (some o41)) o45 65 120) o45 / 32 = 2 := by show va_up (kd _) _ _ _ / 32 = _; rw [va_up_self]
  refine pf_X7_51 X V k44 hin2 dX7_init_119 (fun H locs V => ?_)
  refine lv_aload_n X.1.1 X.1.2.1 dX7_init_122 rfl (lv_at hl 0 rfl) ?_
  refine lv_sipush (v := (6000 : Int32)) X.1.1 X.1.2.1 dX7_init_123 (by decide) ?_
  refine r_newa (t := 1) (k := 66) (ty := .byte) (N' := 6000) (a0 := (6000, .inl (fun _ => 0))) X V wd_510 rfl rfl (fun _ => rfl) (by decide) (by decide) (fun q => na_66) (by decide) (by decide) (by decide) (show 15 ≤ 20 by omega) (show 30328 ≤ 30681 by omega) dX7_init_126 (fun o48 H z49 V => ?_)
  have h := h o48 z49
  have k43 := (mono.snw (k := 66) (n := 6000) z49).t k43 (by decide)
  have k44 := (mono.snw (k := 66) (n := 6000) z49).k k44 (by decide)
  have k47 := (mono.snw (k := 66) (n := 6000) z49).t k47 (by decide)
  refine W.widen (k := 15) (n := 30328) (by omega) (by omega) ?_
  have k50 : kd (snw (sfr (snw (sfr (snw S o41 97 192) 41 b0 (some o41)) o45 65 120) 42 b0 (some o45)) o48 66 6000) o48 / 32 = 2 := by show va_up (kd _) _ _ _ / 32 = _; rw [va_up_self]
  refine pf_X7_54 X V k44 hin2 dX7_init_128 (fun H locs V => ?_)
  exact sl_X7_init_131a l D ka sz Z post X hr hin2 (sfr (snw (sfr (snw (sfr (snw S o41 97 192) 41 b0 (some o41)) o45 65 120) 42 b0 (some o45)) o48 66 6000) 44 b0 (some o48)) b0 h _ _ _ V (lv_sub hl [0] rfl)
def wp_X7_init_78a (post : Unit → HS → Prop) (S : HS) (b0 : Nat) : Prop := ∀ o31 : Nat, kd S o31 = 0 → (kd (snw S o31 44 192) b0 = 8 ∧ (∀ o35 : Nat, kd (sfr (snw S o31 44 192) 38 b0 (some o31)) o35 = 0 → (∀ o38 : Nat, kd (sfr (snw (sfr (snw S o31 44 192) 38 b0 (some o31)) o35 96 192) 39 b0 (some o35)) o38 = 0 → (wp_X7_init_105a post (sfr (snw (sfr (snw (sfr (snw S o31 44 192) 38 b0 (some o31)) o35 96 192) 39 b0 (some o35)) o38 45 192) 40 b0 (some o38)) b0))))
set_option maxHeartbeats 400000 in
set_option maxRecDepth 100000 in
theorem sl_X7_init_78a (l : Launch) (D : va_G) (ka : Nat → ClassId) (sz : Nat) (Z : HS) (post : Unit → HS → Prop) {p : Program} {e : Env} {s : State} {m : MethodId} {args : Array Value} {below : List Frame} {meth : Method} {c : Code} (X : Cx p s m meth c cX7_init 1 RX7 D ka Z (fA Z sz)) (hr : meth.sig.returnType = none) (hin2 : meth.name = "<init>")  : ∀ (S : HS) (b0 : Nat), wp_X7_init_78a post S b0 → ∀ (H : Heap) (locs : List Loc) (ls : Array Slot), Hv D ka Z s (fA Z sz) S H locs → lv_has ls 1 [(0, .ref b0)] → W p l e rm_X7_init s m args below meth c H locs 9 23440 (MQ below (Qx eV post D ka Z sz) args s 20 30681 (fA Z sz)) (F0 m 78 ls []) := by
  intro S b0 h H locs ls V hl
  refine lv_aload_n X.1.1 X.1.2.1 dX7_init_78 rfl (lv_at hl 0 rfl) ?_
  refine lv_sipush (v := (192 : Int32)) X.1.1 X.1.2.1 dX7_init_79 (by decide) ?_
  refine r_newa (t := 0) (k := 44) (ty := .int) (N' := 192) (a0 := (192, .inl (fun _ => 0))) X V wd_3 rfl rfl (fun _ => rfl) (by decide) (by decide) (fun q => na_44) (by decide) (by decide) (by decide) (show 10 ≤ 20 by omega) (show 23632 ≤ 30681 by omega) dX7_init_82 (fun o31 H z32 V => ?_)
  have h := h o31 z32
  refine W.widen (k := 10) (n := 23632) (by omega) (by omega) ?_
  have k33 : kd (snw S o31 44 192) o31 / 32 = 1 := by show va_up (kd _) _ _ _ / 32 = _; rw [va_up_self]
  obtain ⟨k34, h⟩ := h
  refine pf_X7_38 X V k34 hin2 dX7_init_84 (fun H locs V => ?_)
  refine lv_aload_n X.1.1 X.1.2.1 dX7_init_87 rfl (lv_at hl 0 rfl) ?_
  refine lv_sipush (v := (192 : Int32)) X.1.1 X.1.2.1 dX7_init_88 (by decide) ?_
  refine r_newa (t := 2) (k := 96) (ty := .long) (N' := 192) (a0 := (192, .inr (.inl (fun _ => 0)))) X V wd_511 rfl rfl (fun _ => rfl) (by decide) (by decide) (fun q => na_96) (by decide) (by decide) (by decide) (show 11 ≤ 20 by omega) (show 23824 ≤ 30681 by omega) dX7_init_91 (fun o35 H z36 V => ?_)
  have h := h o35 z36
  have k33 := (mono.snw (k := 96) (n := 192) z36).t k33 (by decide)
  have k34 := (mono.snw (k := 96) (n := 192) z36).k k34 (by decide)
  refine W.widen (k := 11) (n := 23824) (by omega) (by omega) ?_
  have k37 : kd (snw (sfr (snw S o31 44 192) 38 b0 (some o31)) o35 96 192) o35 / 32 = 3 := by show va_up (kd _) _ _ _ / 32 = _; rw [va_up_self]
  refine pf_X7_41 X V k34 hin2 dX7_init_93 (fun H locs V => ?_)
  refine lv_aload_n X.1.1 X.1.2.1 dX7_init_96 rfl (lv_at hl 0 rfl) ?_
  refine lv_sipush (v := (192 : Int32)) X.1.1 X.1.2.1 dX7_init_97 (by decide) ?_
  refine r_newa (t := 0) (k := 45) (ty := .int) (N' := 192) (a0 := (192, .inl (fun _ => 0))) X V wd_3 rfl rfl (fun _ => rfl) (by decide) (by decide) (fun q => na_45) (by decide) (by decide) (by decide) (show 12 ≤ 20 by omega) (show 24016 ≤ 30681 by omega) dX7_init_100 (fun o38 H z39 V => ?_)
  have h := h o38 z39
  have k33 := (mono.snw (k := 45) (n := 192) z39).t k33 (by decide)
  have k34 := (mono.snw (k := 45) (n := 192) z39).k k34 (by decide)
  have k37 := (mono.snw (k := 45) (n := 192) z39).t k37 (by decide)
  refine W.widen (k := 12) (n := 24016) (by omega) (by omega) ?_
  have k40 : kd (snw (sfr (snw (sfr (snw S o31 44 192) 38 b0 (some o31)) o35 96 192) 39 b0 (some o35)) o38 45 192) o38 / 32 = 1 := by show va_up (kd _) _ _ _ / 32 = _; rw [va_up_self]
  refine pf_X7_45 X V k34 hin2 dX7_init_102 (fun H locs V => ?_)
  exact sl_X7_init_105a l D ka sz Z post X hr hin2 (sfr (snw (sfr (snw (sfr (snw S o31 44 192) 38 b0 (some o31)) o35 96 192) 39 b0 (some o35)) o38 45 192) 40 b0 (some o38)) b0 h _ _ _ V (lv_sub hl [0] rfl)
def wp_X7_init_54a (post : Unit → HS → Prop) (S : HS) (b0 : Nat) : Prop := ∀ o21 : Nat, kd S o21 = 0 → (kd (snw S o21 41 64) b0 = 8 ∧ (∀ o25 : Nat, kd (sfr (snw S o21 41 64) 35 b0 (some o21)) o25 = 0 → (∀ o28 : Nat, kd (sfr (snw (sfr (snw S o21 41 64) 35 b0 (some o21)) o25 42 8) 36 b0 (some o25)) o28 = 0 → (wp_X7_init_78a post (sfr (snw (sfr (snw (sfr (snw S o21 41 64) 35 b0 (some o21)) o25 42 8) 36 b0 (some o25)) o28 43 8) 37 b0 (some o28)) b0))))
set_option maxHeartbeats 400000 in
set_option maxRecDepth 100000 in
theorem sl_X7_init_54a (l : Launch) (D : va_G) (ka : Nat → ClassId) (sz : Nat) (Z : HS) (post : Unit → HS → Prop) {p : Program} {e : Env} {s : State} {m : MethodId} {args : Array Value} {below : List Frame} {meth : Method} {c : Code} (X : Cx p s m meth c cX7_init 1 RX7 D ka Z (fA Z sz)) (hr : meth.sig.returnType = none) (hin2 : meth.name = "<init>")  : ∀ (S : HS) (b0 : Nat), wp_X7_init_54a post S b0 → ∀ (H : Heap) (locs : List Loc) (ls : Array Slot), Hv D ka Z s (fA Z sz) S H locs → lv_has ls 1 [(0, .ref b0)] → W p l e rm_X7_init s m args below meth c H locs 6 23360 (MQ below (Qx eV post D ka Z sz) args s 20 30681 (fA Z sz)) (F0 m 54 ls []) := by
  intro S b0 h H locs ls V hl
  refine lv_aload_n X.1.1 X.1.2.1 dX7_init_54 rfl (lv_at hl 0 rfl) ?_
  refine lv_bipush (v := (64 : Int32)) X.1.1 X.1.2.1 dX7_init_55 (by decide) ?_
  refine r_newa (t := 0) (k := 41) (ty := .int) (N' := 64) (a0 := (64, .inl (fun _ => 0))) X V wd_3 rfl rfl (fun _ => rfl) (by decide) (by decide) (fun q => na_41) (by decide) (by decide) (by decide) (show 7 ≤ 20 by omega) (show 23424 ≤ 30681 by omega) dX7_init_57 (fun o21 H z22 V => ?_)
  have h := h o21 z22
  refine W.widen (k := 7) (n := 23424) (by omega) (by omega) ?_
  have k23 : kd (snw S o21 41 64) o21 / 32 = 1 := by show va_up (kd _) _ _ _ / 32 = _; rw [va_up_self]
  obtain ⟨k24, h⟩ := h
  refine pf_X7_29 X V k24 hin2 dX7_init_59 (fun H locs V => ?_)
  refine lv_aload_n X.1.1 X.1.2.1 dX7_init_62 rfl (lv_at hl 0 rfl) ?_
  refine lv_bipush (v := (8 : Int32)) X.1.1 X.1.2.1 dX7_init_63 (by decide) ?_
  refine r_newa (t := 0) (k := 42) (ty := .int) (N' := 8) (a0 := (8, .inl (fun _ => 0))) X V wd_3 rfl rfl (fun _ => rfl) (by decide) (by decide) (fun q => na_42) (by decide) (by decide) (by decide) (show 8 ≤ 20 by omega) (show 23432 ≤ 30681 by omega) dX7_init_65 (fun o25 H z26 V => ?_)
  have h := h o25 z26
  have k23 := (mono.snw (k := 42) (n := 8) z26).t k23 (by decide)
  have k24 := (mono.snw (k := 42) (n := 8) z26).k k24 (by decide)
  refine W.widen (k := 8) (n := 23432) (by omega) (by omega) ?_
  have k27 : kd (snw (sfr (snw S o21 41 64) 35 b0 (some o21)) o25 42 8) o25 / 32 = 1 := by show va_up (kd _) _ _ _ / 32 = _; rw [va_up_self]
  refine pf_X7_32 X V k24 hin2 dX7_init_67 (fun H locs V => ?_)
  refine lv_aload_n X.1.1 X.1.2.1 dX7_init_70 rfl (lv_at hl 0 rfl) ?_
  refine lv_bipush (v := (8 : Int32)) X.1.1 X.1.2.1 dX7_init_71 (by decide) ?_
  refine r_newa (t := 0) (k := 43) (ty := .int) (N' := 8) (a0 := (8, .inl (fun _ => 0))) X V wd_3 rfl rfl (fun _ => rfl) (by decide) (by decide) (fun q => na_43) (by decide) (by decide) (by decide) (show 9 ≤ 20 by omega) (show 23440 ≤ 30681 by omega) dX7_init_73 (fun o28 H z29 V => ?_)
  have h := h o28 z29
  have k23 := (mono.snw (k := 43) (n := 8) z29).t k23 (by decide)
  have k24 := (mono.snw (k := 43) (n := 8) z29).k k24 (by decide)
  have k27 := (mono.snw (k := 43) (n := 8) z29).t k27 (by decide)
  refine W.widen (k := 9) (n := 23440) (by omega) (by omega) ?_
  have k30 : kd (snw (sfr (snw (sfr (snw S o21 41 64) 35 b0 (some o21)) o25 42 8) 36 b0 (some o25)) o28 43 8) o28 / 32 = 1 := by show va_up (kd _) _ _ _ / 32 = _; rw [va_up_self]
  refine pf_X7_35 X V k24 hin2 dX7_init_75 (fun H locs V => ?_)
  exact sl_X7_init_78a l D ka sz Z post X hr hin2 (sfr (snw (sfr (snw (sfr (snw S o21 41 64) 35 b0 (some o21)) o25 42 8) 36 b0 (some o25)) o28 43 8) 37 b0 (some o28)) b0 h _ _ _ V (lv_sub hl [0] rfl)
def wp_X7_init_28a (post : Unit → HS → Prop) (S : HS) (b0 : Nat) : Prop := ∀ o11 : Nat, kd S o11 = 0 → (kd (snw S o11 39 32) b0 = 8 ∧ (∀ o15 : Nat, kd (sfr (snw S o11 39 32) 32 b0 (some o11)) o15 = 0 → (∀ o18 : Nat, kd (sfr (snw (sfr (snw S o11 39 32) 32 b0 (some o11)) o15 64 23040) 33 b0 (some o15)) o18 = 0 → (wp_X7_init_54a post (sfr (snw (sfr (snw (sfr (snw S o11 39 32) 32 b0 (some o11)) o15 64 23040) 33 b0 (some o15)) o18 40 192) 34 b0 (some o18)) b0))))
set_option maxHeartbeats 400000 in
set_option maxRecDepth 100000 in
theorem sl_X7_init_28a (l : Launch) (D : va_G) (ka : Nat → ClassId) (sz : Nat) (Z : HS) (post : Unit → HS → Prop) {p : Program} {e : Env} {s : State} {m : MethodId} {args : Array Value} {below : List Frame} {meth : Method} {c : Code} (X : Cx p s m meth c cX7_init 1 RX7 D ka Z (fA Z sz)) (hr : meth.sig.returnType = none) (hin2 : meth.name = "<init>")  : ∀ (S : HS) (b0 : Nat), wp_X7_init_28a post S b0 → ∀ (H : Heap) (locs : List Loc) (ls : Array Slot), Hv D ka Z s (fA Z sz) S H locs → lv_has ls 1 [(0, .ref b0)] → W p l e rm_X7_init s m args below meth c H locs 3 96 (MQ below (Qx eV post D ka Z sz) args s 20 30681 (fA Z sz)) (F0 m 28 ls []) := by
  intro S b0 h H locs ls V hl
  refine lv_aload_n X.1.1 X.1.2.1 dX7_init_28 rfl (lv_at hl 0 rfl) ?_
  refine lv_bipush (v := (32 : Int32)) X.1.1 X.1.2.1 dX7_init_29 (by decide) ?_
  refine r_newa (t := 0) (k := 39) (ty := .int) (N' := 32) (a0 := (32, .inl (fun _ => 0))) X V wd_3 rfl rfl (fun _ => rfl) (by decide) (by decide) (fun q => na_39) (by decide) (by decide) (by decide) (show 4 ≤ 20 by omega) (show 128 ≤ 30681 by omega) dX7_init_31 (fun o11 H z12 V => ?_)
  have h := h o11 z12
  refine W.widen (k := 4) (n := 128) (by omega) (by omega) ?_
  have k13 : kd (snw S o11 39 32) o11 / 32 = 1 := by show va_up (kd _) _ _ _ / 32 = _; rw [va_up_self]
  obtain ⟨k14, h⟩ := h
  refine pf_X7_19 X V k14 hin2 dX7_init_33 (fun H locs V => ?_)
  refine lv_aload_n X.1.1 X.1.2.1 dX7_init_36 rfl (lv_at hl 0 rfl) ?_
  refine lv_sipush (v := (23040 : Int32)) X.1.1 X.1.2.1 dX7_init_37 (by decide) ?_
  refine r_newa (t := 1) (k := 64) (ty := .byte) (N' := 23040) (a0 := (23040, .inl (fun _ => 0))) X V wd_510 rfl rfl (fun _ => rfl) (by decide) (by decide) (fun q => na_64) (by decide) (by decide) (by decide) (show 5 ≤ 20 by omega) (show 23168 ≤ 30681 by omega) dX7_init_40 (fun o15 H z16 V => ?_)
  have h := h o15 z16
  have k13 := (mono.snw (k := 64) (n := 23040) z16).t k13 (by decide)
  have k14 := (mono.snw (k := 64) (n := 23040) z16).k k14 (by decide)
  refine W.widen (k := 5) (n := 23168) (by omega) (by omega) ?_
  have k17 : kd (snw (sfr (snw S o11 39 32) 32 b0 (some o11)) o15 64 23040) o15 / 32 = 2 := by show va_up (kd _) _ _ _ / 32 = _; rw [va_up_self]
  refine pf_X7_22 X V k14 hin2 dX7_init_42 (fun H locs V => ?_)
  refine lv_aload_n X.1.1 X.1.2.1 dX7_init_45 rfl (lv_at hl 0 rfl) ?_
  refine lv_sipush (v := (192 : Int32)) X.1.1 X.1.2.1 dX7_init_46 (by decide) ?_
  refine r_newa (t := 0) (k := 40) (ty := .int) (N' := 192) (a0 := (192, .inl (fun _ => 0))) X V wd_3 rfl rfl (fun _ => rfl) (by decide) (by decide) (fun q => na_40) (by decide) (by decide) (by decide) (show 6 ≤ 20 by omega) (show 23360 ≤ 30681 by omega) dX7_init_49 (fun o18 H z19 V => ?_)
  have h := h o18 z19
  have k13 := (mono.snw (k := 40) (n := 192) z19).t k13 (by decide)
  have k14 := (mono.snw (k := 40) (n := 192) z19).k k14 (by decide)
  have k17 := (mono.snw (k := 40) (n := 192) z19).t k17 (by decide)
  refine W.widen (k := 6) (n := 23360) (by omega) (by omega) ?_
  have k20 : kd (snw (sfr (snw (sfr (snw S o11 39 32) 32 b0 (some o11)) o15 64 23040) 33 b0 (some o15)) o18 40 192) o18 / 32 = 1 := by show va_up (kd _) _ _ _ / 32 = _; rw [va_up_self]
  refine pf_X7_26 X V k14 hin2 dX7_init_51 (fun H locs V => ?_)
  exact sl_X7_init_54a l D ka sz Z post X hr hin2 (sfr (snw (sfr (snw (sfr (snw S o11 39 32) 32 b0 (some o11)) o15 64 23040) 33 b0 (some o15)) o18 40 192) 34 b0 (some o18)) b0 h _ _ _ V (lv_sub hl [0] rfl)
def wp_X7_init (post : Unit → HS → Prop) (S : HS) (a0 : Nat) : Prop := ∀ o1 : Nat, kd S o1 = 0 → (kd (snw S o1 36 32) a0 = 8 ∧ (∀ o5 : Nat, kd (sfr (snw S o1 36 32) 29 a0 (some o1)) o5 = 0 → (∀ o8 : Nat, kd (sfr (snw (sfr (snw S o1 36 32) 29 a0 (some o1)) o5 37 32) 30 a0 (some o5)) o8 = 0 → (wp_X7_init_28a post (sfr (snw (sfr (snw (sfr (snw S o1 36 32) 29 a0 (some o1)) o5 37 32) 30 a0 (some o5)) o8 38 32) 31 a0 (some o8)) a0))))
set_option maxHeartbeats 400000 in
set_option maxRecDepth 100000 in
theorem sd_X7_init (l : Launch) (D : va_G) (ka : Nat → ClassId) (sz : Nat) (Z : HS) (post : Unit → HS → Prop) (a0 : Nat) (h : wp_X7_init post Z a0) : Met l yX7_init [Cond.code yX7_init cX7_init 1 none] rm_X7_init (Px D ka Z sz [.ref a0]) (Qx eV post D ka Z sz) 20 30681 (fA Z sz) := by
  refine Met.ofW (cc := cX7_init) (maxL := 1) (ret := none) (by decide) rfl ?_
  intro p e s m args below meth c s₁ B hml hv
  obtain ⟨rfl, X, V, hsz⟩ := Cx.entry B hml hv
  have hr : meth.sig.returnType = none := B.returns
  have hin2 : meth.name = "<init>" := (name_of_methodNamed B.named B.method).1
  have hl := lv_entry ([.ref a0]) (n := 1) (Nat.le_of_ble_eq_true rfl)
  rw [lg_entry_eq]
  generalize (lg_sl ([.ref a0]) ++ List.replicate (1 - (lg_sl ([.ref a0])).length) Slot.unset).toArray = ls at hl ⊢
  have hl : lv_has ls 1 [(0, .ref a0)] := hl
  have h : wp_X7_init post Z a0 := h
  refine lv_aload_n X.1.1 X.1.2.1 dX7_init_0 rfl (lv_at hl 0 rfl) ?_
  refine W.objInit X.1.1 X.1.2.1 X.1.2.2.2.1 (X.w wd_509 rfl _) (X.w wd_1 rfl _) (X.w wd_2 rfl _) rfl (by rw [X.1.2.2.1]; exact hl.1) rfl dX7_init_1 (Nat.le_of_ble_eq_true rfl) (Nat.le_of_ble_eq_true rfl) ?_
  refine W.eq (g2 := F0 m 4 ls []) rfl ?_
  refine lv_aload_n X.1.1 X.1.2.1 dX7_init_4 rfl (lv_at hl 0 rfl) ?_
  refine lv_bipush (v := (32 : Int32)) X.1.1 X.1.2.1 dX7_init_5 (by decide) ?_
  refine r_newa (t := 0) (k := 36) (ty := .int) (N' := 32) (a0 := (32, .inl (fun _ => 0))) X V wd_3 rfl rfl (fun _ => rfl) (by decide) (by decide) (fun q => na_36) (by decide) (by decide) (by decide) (show 1 ≤ 20 by omega) (show 32 ≤ 30681 by omega) dX7_init_7 (fun o1 H z2 V => ?_)
  have h := h o1 z2
  refine W.widen (k := 1) (n := 32) (by omega) (by omega) ?_
  have k3 : kd (snw Z o1 36 32) o1 / 32 = 1 := by show va_up (kd _) _ _ _ / 32 = _; rw [va_up_self]
  obtain ⟨k4, h⟩ := h
  refine pf_X7_7 X V k4 hin2 dX7_init_9 (fun H locs V => ?_)
  refine lv_aload_n X.1.1 X.1.2.1 dX7_init_12 rfl (lv_at hl 0 rfl) ?_
  refine lv_bipush (v := (32 : Int32)) X.1.1 X.1.2.1 dX7_init_13 (by decide) ?_
  refine r_newa (t := 0) (k := 37) (ty := .int) (N' := 32) (a0 := (32, .inl (fun _ => 0))) X V wd_3 rfl rfl (fun _ => rfl) (by decide) (by decide) (fun q => na_37) (by decide) (by decide) (by decide) (show 2 ≤ 20 by omega) (show 64 ≤ 30681 by omega) dX7_init_15 (fun o5 H z6 V => ?_)
  have h := h o5 z6
  have k3 := (mono.snw (k := 37) (n := 32) z6).t k3 (by decide)
  have k4 := (mono.snw (k := 37) (n := 32) z6).k k4 (by decide)
  refine W.widen (k := 2) (n := 64) (by omega) (by omega) ?_
  have k7 : kd (snw (sfr (snw Z o1 36 32) 29 a0 (some o1)) o5 37 32) o5 / 32 = 1 := by show va_up (kd _) _ _ _ / 32 = _; rw [va_up_self]
  refine pf_X7_13 X V k4 hin2 dX7_init_17 (fun H locs V => ?_)
  refine lv_aload_n X.1.1 X.1.2.1 dX7_init_20 rfl (lv_at hl 0 rfl) ?_
  refine lv_bipush (v := (32 : Int32)) X.1.1 X.1.2.1 dX7_init_21 (by decide) ?_
  refine r_newa (t := 0) (k := 38) (ty := .int) (N' := 32) (a0 := (32, .inl (fun _ => 0))) X V wd_3 rfl rfl (fun _ => rfl) (by decide) (by decide) (fun q => na_38) (by decide) (by decide) (by decide) (show 3 ≤ 20 by omega) (show 96 ≤ 30681 by omega) dX7_init_23 (fun o8 H z9 V => ?_)
  have h := h o8 z9
  have k3 := (mono.snw (k := 38) (n := 32) z9).t k3 (by decide)
  have k4 := (mono.snw (k := 38) (n := 32) z9).k k4 (by decide)
  have k7 := (mono.snw (k := 38) (n := 32) z9).t k7 (by decide)
  refine W.widen (k := 3) (n := 96) (by omega) (by omega) ?_
  have k10 : kd (snw (sfr (snw (sfr (snw Z o1 36 32) 29 a0 (some o1)) o5 37 32) 30 a0 (some o5)) o8 38 32) o8 / 32 = 1 := by show va_up (kd _) _ _ _ / 32 = _; rw [va_up_self]
  refine pf_X7_16 X V k4 hin2 dX7_init_25 (fun H locs V => ?_)
  exact sl_X7_init_28a l D ka sz Z post X hr hin2 (sfr (snw (sfr (snw (sfr (snw Z o1 36 32) 29 a0 (some o1)) o5 37 32) 30 a0 (some o5)) o8 38 32) 31 a0 (some o8)) a0 h _ _ _ V (lv_sub hl [0] rfl)
abbrev rm_X7_send : Room := { frames := 2, cells := 0, slots := 0, locals := 53 }
def wp_X7_send_280 : Nat → (Int32 → HS → Prop) → HS → Nat → Int32 → Int32 → Int32 → Int32 → Prop
  | 0, _, _, _, _, _, _, _ => False
  | n + 1, post, S, b0, x5, x6, x10, x11 => kd S b0 = 8 ∧ ((((fi S 27 b0) ≤ x11 → ∃ o55 : Nat, fr S 48 b0 = some o55 ∧ (kd S o55 / 32 = 1 ∧ (vp_in (0 : Int32) (ln S o55) ∧ (post ((ai S o55 (0 : Int32).toNatClampNeg) - x10) S)))) ∧ (¬ (fi S 27 b0) ≤ x11 → ((x11 = x5 → wp_X7_send_280 n post S b0 x5 x6 x10 (x11 + (1 : Int32))) ∧ (¬ x11 = x5 → wp_X7_has (fun r61 S60 => ((r61 = 0 → wp_X7_send_280 n post S60 b0 x5 x6 x10 (x11 + (1 : Int32))) ∧ (¬ r61 = 0 → wp_X7_goes (fun _ S64 => wp_X7_send_280 n post S64 b0 x5 x6 x10 (x11 + (1 : Int32))) S60 b0 x5 x11 x6))) S b0 x11 x6)))))
set_option maxHeartbeats 400000 in
set_option maxRecDepth 100000 in
theorem sl_X7_send_280 (l : Launch) (D : va_G) (ka : Nat → ClassId) (sz : Nat) (Z : HS) (post : Int32 → HS → Prop) {p : Program} {e : Env} {s : State} {m : MethodId} {args : Array Value} {below : List Frame} {meth : Method} {c : Code} (X : Cx p s m meth c cX7_send 12 RX7 D ka Z (fA Z sz)) (hr : meth.sig.returnType = (some .int))  : ∀ (n : Nat), ∀ (S : HS) (b0 : Nat) (x5 : Int32) (x6 : Int32) (x10 : Int32) (x11 : Int32), wp_X7_send_280 n post S b0 x5 x6 x10 x11 → ∀ (H : Heap) (locs : List Loc) (ls : Array Slot), Hv D ka Z s (fA Z sz) S H locs → lv_has ls 12 [(0, .ref b0), (5, .int x5), (6, .int x6), (10, .int x10), (11, .int x11)] → W p l e rm_X7_send s m args below meth c H locs 0 0 (MQ below (Qx eI post D ka Z sz) args s 0 0 (fA Z sz)) (F0 m 280 ls []) := by
  intro n
  induction n with
  | zero => intro S b0 x5 x6 x10 x11 h; exact h.elim
  | succ n ih =>
    intro S b0 x5 x6 x10 x11 h H locs ls V hl
    refine lv_iload X.1.1 X.1.2.1 dX7_send_280 (lv_at hl 4 rfl) ?_
    refine lv_aload_n X.1.1 X.1.2.1 dX7_send_282 rfl (lv_at hl 0 rfl) ?_
    obtain ⟨k53, h⟩ := h
    refine gf_X7_76 X V k53 dX7_send_283 ?_
    refine lv_icmp_ge (tgt := 323) X.1.1 X.1.2.1 dX7_send_286 (by decide) (fun c54 => ?_) (fun c54 => ?_)
    · have h := h.1 c54
      refine lv_goto (tgt := 395) X.1.1 X.1.2.1 dX7_send_323 (by decide) ?_
      refine lv_aload_n X.1.1 X.1.2.1 dX7_send_395 rfl (lv_at hl 0 rfl) ?_
      obtain ⟨o55, e56, h⟩ := h
      refine gf_X7_63 X V k53 e56 dX7_send_396 ?_
      refine lv_iconst (v := (0 : Int32)) X.1.1 X.1.2.1 dX7_send_399 (by decide) ?_
      obtain ⟨k57, h⟩ := h
      obtain ⟨i58, h⟩ := h
      refine r_iald X V k57 i58 dX7_send_400 ?_
      refine lv_iload X.1.1 X.1.2.1 dX7_send_401 (lv_at hl 3 rfl) ?_
      refine lv_isub X.1.1 X.1.2.1 dX7_send_403 ?_
      exact W.iret X.1.1 X.1.2.1 hr (fun t ht _ => V.q (r := ((ai S o55 (0 : Int32).toNatClampNeg) - x10)) h ht) V.2.1.2.2 dX7_send_404 X.1.2.2.2.2
    · have h := h.2 c54
      refine lv_iload X.1.1 X.1.2.1 dX7_send_289 (lv_at hl 4 rfl) ?_
      refine lv_iload X.1.1 X.1.2.1 dX7_send_291 (lv_at hl 1 rfl) ?_
      refine lv_icmp_eq (tgt := 317) X.1.1 X.1.2.1 dX7_send_293 (by decide) (fun c59 => ?_) (fun c59 => ?_)
      · have h := h.1 c59
        refine lv_iinc (v := (x11 + (1 : Int32))) (lv' := [(11, .int (x11 + (1 : Int32))), (0, .ref b0), (5, .int x5), (6, .int x6), (10, .int x10)]) X.1.1 X.1.2.1 dX7_send_317 hl (k := 4) rfl (congrArg (HAdd.hAdd _) (by decide)) (by decide) rfl (fun ls hl => ?_)
        refine lv_goto (tgt := 280) X.1.1 X.1.2.1 dX7_send_320 (by decide) ?_
        exact ih S b0 x5 x6 x10 (x11 + (1 : Int32)) h _ _ _ V (lv_sub hl [1, 2, 3, 4, 0] rfl)
      · have h := h.2 c59
        refine lv_aload_n X.1.1 X.1.2.1 dX7_send_296 rfl (lv_at hl 0 rfl) ?_
        refine lv_iload X.1.1 X.1.2.1 dX7_send_297 (lv_at hl 4 rfl) ?_
        refine lv_iload X.1.1 X.1.2.1 dX7_send_299 (lv_at hl 2 rfl) ?_
        refine r_callV (k := 8) (n := 2) (As := [.int x11, .int x6]) X V (sd_X7_has l D ka _ S _ b0 x11 x6 h) k53 (by decide) (by decide) rfl wd_527 wd_528 wd_447 wd_529 wd_530 rfl rfl (by decide +kernel) ⟨Nat.le_of_ble_eq_true rfl, Nat.le_of_ble_eq_true rfl⟩ rfl hl.1 rfl (Nat.le_of_ble_eq_true rfl) dX7_send_301 ⟨show 0 ≤ 0 by omega, show 0 ≤ 0 by omega⟩ (fun r61 S60 H locs h m62 V => ?_)
        have k53 := m62.k k53 (by decide)
        refine lv_if_eq (tgt := 317) X.1.1 X.1.2.1 dX7_send_304 (by decide) (fun c63 => ?_) (fun c63 => ?_)
        · have h := h.1 c63
          refine lv_iinc (v := (x11 + (1 : Int32))) (lv' := [(11, .int (x11 + (1 : Int32))), (0, .ref b0), (5, .int x5), (6, .int x6), (10, .int x10)]) X.1.1 X.1.2.1 dX7_send_317 hl (k := 4) rfl (congrArg (HAdd.hAdd _) (by decide)) (by decide) rfl (fun ls hl => ?_)
          refine lv_goto (tgt := 280) X.1.1 X.1.2.1 dX7_send_320 (by decide) ?_
          exact ih S60 b0 x5 x6 x10 (x11 + (1 : Int32)) h _ _ _ V (lv_sub hl [1, 2, 3, 4, 0] rfl)
        · have h := h.2 c63
          refine lv_aload_n X.1.1 X.1.2.1 dX7_send_307 rfl (lv_at hl 0 rfl) ?_
          refine lv_iload X.1.1 X.1.2.1 dX7_send_308 (lv_at hl 1 rfl) ?_
          refine lv_iload X.1.1 X.1.2.1 dX7_send_310 (lv_at hl 4 rfl) ?_
          refine lv_iload X.1.1 X.1.2.1 dX7_send_312 (lv_at hl 2 rfl) ?_
          refine r_callV (k := 8) (n := 3) (As := [.int x5, .int x11, .int x6]) X V (sd_X7_goes l D ka _ S60 _ b0 x5 x11 x6 h) k53 (by decide) (by decide) rfl wd_531 wd_532 wd_447 wd_533 wd_534 rfl rfl (by decide +kernel) ⟨Nat.le_of_ble_eq_true rfl, Nat.le_of_ble_eq_true rfl⟩ rfl hl.1 rfl (Nat.le_of_ble_eq_true rfl) dX7_send_314 ⟨show 0 ≤ 0 by omega, show 0 ≤ 0 by omega⟩ (fun r65 S64 H locs h m66 V => ?_)
          have k53 := m66.k k53 (by decide)
          refine lv_iinc (v := (x11 + (1 : Int32))) (lv' := [(11, .int (x11 + (1 : Int32))), (0, .ref b0), (5, .int x5), (6, .int x6), (10, .int x10)]) X.1.1 X.1.2.1 dX7_send_317 hl (k := 4) rfl (congrArg (HAdd.hAdd _) (by decide)) (by decide) rfl (fun ls hl => ?_)
          refine lv_goto (tgt := 280) X.1.1 X.1.2.1 dX7_send_320 (by decide) ?_
          exact ih S64 b0 x5 x6 x10 (x11 + (1 : Int32)) h _ _ _ V (lv_sub hl [1, 2, 3, 4, 0] rfl)
def wp_X7_send_174 : Nat → (Int32 → HS → Prop) → HS → Nat → Int32 → Int64 → Int32 → Int32 → Int64 → Int32 → Prop
  | 0, _, _, _, _, _, _, _, _, _ => False
  | n + 1, post, S, b0, x1, y2, x5, x6, y7, x9 => kd S b0 = 8 ∧ ((((fi S 43 b0) ≤ x9 → wp_X7_learn (fun _ S35 => wp_X7_find (fun r39 S38 => ∃ o41 : Nat, fr S38 48 b0 = some o41 ∧ (kd S38 o41 / 32 = 1 ∧ (vp_in (0 : Int32) (ln S38 o41) ∧ (∃ o45 : Nat, fr S38 51 b0 = some o45 ∧ (kd S38 o45 / 32 = 2 ∧ (vp_in (0 : Int32) (ln S38 o45) ∧ (((((ai S38 o45 (0 : Int32).toNatClampNeg) &&& (1 : Int32)) = (1 : Int32) → wp_X7_comesToAll (fun _ S50 => ∃ n9, wp_X7_send_280 n9 post S50 b0 x5 x6 (ai S38 o41 (0 : Int32).toNatClampNeg) (0 : Int32)) S38 b0 x5 x6 x1) ∧ (¬ ((ai S38 o45 (0 : Int32).toNatClampNeg) &&& (1 : Int32)) = (1 : Int32) → ((¬ r39 = (-1 : Int32) → ∃ o68 : Nat, fr S38 40 b0 = some o68 ∧ (kd S38 o68 / 32 = 1 ∧ (vp_in r39 (ln S38 o68) ∧ ((((ai S38 o68 r39.toNatClampNeg) < 0 → ∃ o73 : Nat, fr S38 40 b0 = some o73 ∧ (kd S38 o73 / 32 = 1 ∧ (vp_in r39 (ln S38 o73) ∧ (wp_X7_goes (fun _ S77 => ∃ o80 : Nat, fr S77 48 b0 = some o80 ∧ (kd S77 o80 / 32 = 1 ∧ (vp_in (0 : Int32) (ln S77 o80) ∧ (post ((ai S77 o80 (0 : Int32).toNatClampNeg) - (ai S38 o41 (0 : Int32).toNatClampNeg)) S77)))) S38 b0 x5 ((-1 : Int32) - (ai S38 o73 r39.toNatClampNeg)) x6)))) ∧ (¬ (ai S38 o68 r39.toNatClampNeg) < 0 → ∃ o84 : Nat, fr S38 40 b0 = some o84 ∧ (kd S38 o84 / 32 = 1 ∧ (vp_in r39 (ln S38 o84) ∧ ((((ai S38 o84 r39.toNatClampNeg) = x1 → ∃ o89 : Nat, fr S38 48 b0 = some o89 ∧ (kd S38 o89 / 32 = 1 ∧ (vp_in (0 : Int32) (ln S38 o89) ∧ (post ((ai S38 o89 (0 : Int32).toNatClampNeg) - (ai S38 o41 (0 : Int32).toNatClampNeg)) S38)))) ∧ (¬ (ai S38 o84 r39.toNatClampNeg) = x1 → ∃ o93 : Nat, fr S38 29 b0 = some o93 ∧ (∃ o95 : Nat, fr S38 40 b0 = some o95 ∧ (kd S38 o95 / 32 = 1 ∧ (vp_in r39 (ln S38 o95) ∧ (kd S38 o93 / 32 = 1 ∧ (vp_in (ai S38 o95 r39.toNatClampNeg) (ln S38 o93) ∧ (((¬ (ai S38 o93 (ai S38 o95 r39.toNatClampNeg).toNatClampNeg) = x5 → ∃ o102 : Nat, fr S38 48 b0 = some o102 ∧ (kd S38 o102 / 32 = 1 ∧ (vp_in (0 : Int32) (ln S38 o102) ∧ (post ((ai S38 o102 (0 : Int32).toNatClampNeg) - (ai S38 o41 (0 : Int32).toNatClampNeg)) S38)))) ∧ ((ai S38 o93 (ai S38 o95 r39.toNatClampNeg).toNatClampNeg) = x5 → ∃ o106 : Nat, fr S38 40 b0 = some o106 ∧ (kd S38 o106 / 32 = 1 ∧ (vp_in r39 (ln S38 o106) ∧ (wp_X7_comesTo (fun _ S110 => ∃ o113 : Nat, fr S110 48 b0 = some o113 ∧ (kd S110 o113 / 32 = 1 ∧ (vp_in (0 : Int32) (ln S110 o113) ∧ (post ((ai S110 o113 (0 : Int32).toNatClampNeg) - (ai S38 o41 (0 : Int32).toNatClampNeg)) S110)))) S38 b0 (ai S38 o106 r39.toNatClampNeg))))))))))))))))))))))) ∧ (r39 = (-1 : Int32) → wp_X7_comesToAll (fun _ S117 => ∃ n9, wp_X7_send_280 n9 post S117 b0 x5 x6 (ai S38 o41 (0 : Int32).toNatClampNeg) (0 : Int32)) S38 b0 x5 x6 x1))))))))))) S35 b0 x5 x6 y2) (sfi S 43 b0 (0 : Int32)) b0 x5 x6 y7 x1) ∧ (¬ (fi S 43 b0) ≤ x9 → ∃ o120 : Nat, fr S 51 b0 = some o120 ∧ (∃ o122 : Nat, fr S 42 b0 = some o122 ∧ (kd S o122 / 32 = 2 ∧ (vp_in x9 (ln S o122) ∧ (kd S o120 / 32 = 2 ∧ (vp_in (fi S 52 b0) (ln S o120) ∧ (wp_X7_send_174 n post (sfi (sai S o120 (fi S 52 b0).toNatClampNeg ((ai S o122 x9.toNatClampNeg).toInt8.toInt32)) 52 b0 ((fi (sai S o120 (fi S 52 b0).toNatClampNeg ((ai S o122 x9.toNatClampNeg).toInt8.toInt32)) 52 b0) + (1 : Int32))) b0 x1 y2 x5 x6 y7 (x9 + (1 : Int32)))))))))))
set_option maxHeartbeats 400000 in
set_option maxRecDepth 100000 in
theorem sl_X7_send_174 (l : Launch) (D : va_G) (ka : Nat → ClassId) (sz : Nat) (Z : HS) (post : Int32 → HS → Prop) {p : Program} {e : Env} {s : State} {m : MethodId} {args : Array Value} {below : List Frame} {meth : Method} {c : Code} (X : Cx p s m meth c cX7_send 12 RX7 D ka Z (fA Z sz)) (hr : meth.sig.returnType = (some .int))  : ∀ (n : Nat), ∀ (S : HS) (b0 : Nat) (x1 : Int32) (y2 : Int64) (x5 : Int32) (x6 : Int32) (y7 : Int64) (x9 : Int32), wp_X7_send_174 n post S b0 x1 y2 x5 x6 y7 x9 → ∀ (H : Heap) (locs : List Loc) (ls : Array Slot), Hv D ka Z s (fA Z sz) S H locs → lv_has ls 12 [(0, .ref b0), (1, .int x1), (2, .long y2), (5, .int x5), (6, .int x6), (7, .long y7), (9, .int x9)] → W p l e rm_X7_send s m args below meth c H locs 0 0 (MQ below (Qx eI post D ka Z sz) args s 0 0 (fA Z sz)) (F0 m 174 ls []) := by
  intro n
  induction n with
  | zero => intro S b0 x1 y2 x5 x6 y7 x9 h; exact h.elim
  | succ n ih =>
    intro S b0 x1 y2 x5 x6 y7 x9 h H locs ls V hl
    refine lv_iload X.1.1 X.1.2.1 dX7_send_174 (lv_at hl 6 rfl) ?_
    refine lv_aload_n X.1.1 X.1.2.1 dX7_send_176 rfl (lv_at hl 0 rfl) ?_
    obtain ⟨k33, h⟩ := h
    refine gf_X7_93 X V k33 dX7_send_177 ?_
    refine lv_icmp_ge (tgt := 215) X.1.1 X.1.2.1 dX7_send_180 (by decide) (fun c34 => ?_) (fun c34 => ?_)
    · have h := h.1 c34
      refine lv_aload_n X.1.1 X.1.2.1 dX7_send_215 rfl (lv_at hl 0 rfl) ?_
      refine lv_iconst (v := (0 : Int32)) X.1.1 X.1.2.1 dX7_send_216 (by decide) ?_
      refine pf_X7_93 X V k33 dX7_send_217 (fun H locs V => ?_)
      refine lv_aload_n X.1.1 X.1.2.1 dX7_send_220 rfl (lv_at hl 0 rfl) ?_
      refine lv_iload X.1.1 X.1.2.1 dX7_send_221 (lv_at hl 3 rfl) ?_
      refine lv_iload X.1.1 X.1.2.1 dX7_send_223 (lv_at hl 4 rfl) ?_
      refine lv_lload X.1.1 X.1.2.1 dX7_send_225 (lv_at hl 5 rfl) ?_
      refine lv_iload_n X.1.1 X.1.2.1 dX7_send_227 rfl (lv_at hl 1 rfl) ?_
      refine r_callV (k := 8) (n := 4) (As := [.int x5, .int x6, .long y7, .int x1]) X V (sd_X7_learn l D ka _ (sfi S 43 b0 (0 : Int32)) _ b0 x5 x6 y7 x1 h) k33 (by decide) (by decide) rfl wd_519 wd_520 wd_447 wd_521 wd_522 rfl rfl (by decide +kernel) ⟨Nat.le_of_ble_eq_true rfl, Nat.le_of_ble_eq_true rfl⟩ rfl hl.1 rfl (Nat.le_of_ble_eq_true rfl) dX7_send_228 ⟨show 0 ≤ 0 by omega, show 0 ≤ 0 by omega⟩ (fun r36 S35 H locs h m37 V => ?_)
      have k33 := m37.k k33 (by decide)
      refine lv_aload_n X.1.1 X.1.2.1 dX7_send_231 rfl (lv_at hl 0 rfl) ?_
      refine lv_iload X.1.1 X.1.2.1 dX7_send_232 (lv_at hl 3 rfl) ?_
      refine lv_iload X.1.1 X.1.2.1 dX7_send_234 (lv_at hl 4 rfl) ?_
      refine lv_lload_n X.1.1 X.1.2.1 dX7_send_236 rfl (lv_at hl 2 rfl) ?_
      refine r_callV (k := 8) (n := 3) (As := [.int x5, .int x6, .long y2]) X V (sd_X7_find l D ka _ S35 _ b0 x5 x6 y2 h) k33 (by decide) (by decide) rfl wd_465 wd_466 wd_447 wd_467 wd_468 rfl rfl (by decide +kernel) ⟨Nat.le_of_ble_eq_true rfl, Nat.le_of_ble_eq_true rfl⟩ rfl hl.1 rfl (Nat.le_of_ble_eq_true rfl) dX7_send_237 ⟨show 0 ≤ 0 by omega, show 0 ≤ 0 by omega⟩ (fun r39 S38 H locs h m40 V => ?_)
      have k33 := m40.k k33 (by decide)
      refine lv_istore (lv' := [(9, .int r39), (0, .ref b0), (1, .int x1), (2, .long y2), (5, .int x5), (6, .int x6), (7, .long y7)]) X.1.1 X.1.2.1 dX7_send_240 hl (by decide) rfl (fun ls hl => ?_)
      refine lv_aload_n X.1.1 X.1.2.1 dX7_send_242 rfl (lv_at hl 1 rfl) ?_
      obtain ⟨o41, e42, h⟩ := h
      refine gf_X7_63 X V k33 e42 dX7_send_243 ?_
      refine lv_iconst (v := (0 : Int32)) X.1.1 X.1.2.1 dX7_send_246 (by decide) ?_
      obtain ⟨k43, h⟩ := h
      obtain ⟨i44, h⟩ := h
      refine r_iald X V k43 i44 dX7_send_247 ?_
      refine lv_istore (lv' := [(10, .int (ai S38 o41 (0 : Int32).toNatClampNeg)), (9, .int r39), (0, .ref b0), (1, .int x1), (2, .long y2), (5, .int x5), (6, .int x6), (7, .long y7)]) X.1.1 X.1.2.1 dX7_send_248 hl (by decide) rfl (fun ls hl => ?_)
      refine lv_aload_n X.1.1 X.1.2.1 dX7_send_250 rfl (lv_at hl 2 rfl) ?_
      obtain ⟨o45, e46, h⟩ := h
      refine gf_X7_69 X V k33 e46 dX7_send_251 ?_
      refine lv_iconst (v := (0 : Int32)) X.1.1 X.1.2.1 dX7_send_254 (by decide) ?_
      obtain ⟨k47, h⟩ := h
      obtain ⟨i48, h⟩ := h
      refine r_bald X V k47 i48 dX7_send_255 ?_
      refine lv_iconst (v := (1 : Int32)) X.1.1 X.1.2.1 dX7_send_256 (by decide) ?_
      refine lv_iand X.1.1 X.1.2.1 dX7_send_257 ?_
      refine lv_iconst (v := (1 : Int32)) X.1.1 X.1.2.1 dX7_send_258 (by decide) ?_
      refine lv_icmp_eq (tgt := 268) X.1.1 X.1.2.1 dX7_send_259 (by decide) (fun c49 => ?_) (fun c49 => ?_)
      · have h := h.1 c49
        refine lv_aload_n X.1.1 X.1.2.1 dX7_send_268 rfl (lv_at hl 2 rfl) ?_
        refine lv_iload X.1.1 X.1.2.1 dX7_send_269 (lv_at hl 5 rfl) ?_
        refine lv_iload X.1.1 X.1.2.1 dX7_send_271 (lv_at hl 6 rfl) ?_
        refine lv_iload_n X.1.1 X.1.2.1 dX7_send_273 rfl (lv_at hl 3 rfl) ?_
        refine r_callV (k := 8) (n := 3) (As := [.int x5, .int x6, .int x1]) X V (sd_X7_comesToAll l D ka _ S38 _ b0 x5 x6 x1 h) k33 (by decide) (by decide) rfl wd_523 wd_524 wd_447 wd_525 wd_526 rfl rfl (by decide +kernel) ⟨Nat.le_of_ble_eq_true rfl, Nat.le_of_ble_eq_true rfl⟩ rfl hl.1 rfl (Nat.le_of_ble_eq_true rfl) dX7_send_274 ⟨show 0 ≤ 0 by omega, show 0 ≤ 0 by omega⟩ (fun r51 S50 H locs h m52 V => ?_)
        have k33 := m52.k k33 (by decide)
        have k43 := m52.t k43 (by decide)
        have k47 := m52.t k47 (by decide)
        refine lv_iconst (v := (0 : Int32)) X.1.1 X.1.2.1 dX7_send_277 (by decide) ?_
        refine lv_istore (lv' := [(11, .int (0 : Int32)), (10, .int (ai S38 o41 (0 : Int32).toNatClampNeg)), (9, .int r39), (0, .ref b0), (1, .int x1), (2, .long y2), (5, .int x5), (6, .int x6), (7, .long y7)]) X.1.1 X.1.2.1 dX7_send_278 hl (by decide) rfl (fun ls hl => ?_)
        obtain ⟨n9, h⟩ := h
        exact sl_X7_send_280 l D ka sz Z post X hr n9 S50 b0 x5 x6 (ai S38 o41 (0 : Int32).toNatClampNeg) (0 : Int32) h _ _ _ V (lv_sub hl [3, 6, 7, 1, 0] rfl)
      · have h := h.2 c49
        refine lv_iload X.1.1 X.1.2.1 dX7_send_262 (lv_at hl 1 rfl) ?_
        refine lv_iconst (v := (-1 : Int32)) X.1.1 X.1.2.1 dX7_send_264 (by decide) ?_
        refine lv_icmp_ne (tgt := 326) X.1.1 X.1.2.1 dX7_send_265 (by decide) (fun c67 => ?_) (fun c67 => ?_)
        · have h := h.1 c67
          refine lv_aload_n X.1.1 X.1.2.1 dX7_send_326 rfl (lv_at hl 2 rfl) ?_
          obtain ⟨o68, e69, h⟩ := h
          refine gf_X7_45 X V k33 e69 dX7_send_327 ?_
          refine lv_iload X.1.1 X.1.2.1 dX7_send_330 (lv_at hl 1 rfl) ?_
          obtain ⟨k70, h⟩ := h
          obtain ⟨i71, h⟩ := h
          refine r_iald X V k70 i71 dX7_send_332 ?_
          refine lv_if_lt (tgt := 378) X.1.1 X.1.2.1 dX7_send_333 (by decide) (fun c72 => ?_) (fun c72 => ?_)
          · have h := h.1 c72
            refine lv_aload_n X.1.1 X.1.2.1 dX7_send_378 rfl (lv_at hl 2 rfl) ?_
            refine lv_iload X.1.1 X.1.2.1 dX7_send_379 (lv_at hl 5 rfl) ?_
            refine lv_iconst (v := (-1 : Int32)) X.1.1 X.1.2.1 dX7_send_381 (by decide) ?_
            refine lv_aload_n X.1.1 X.1.2.1 dX7_send_382 rfl (lv_at hl 2 rfl) ?_
            obtain ⟨o73, e74, h⟩ := h
            refine gf_X7_45 X V k33 e74 dX7_send_383 ?_
            refine lv_iload X.1.1 X.1.2.1 dX7_send_386 (lv_at hl 1 rfl) ?_
            obtain ⟨k75, h⟩ := h
            obtain ⟨i76, h⟩ := h
            refine r_iald X V k75 i76 dX7_send_388 ?_
            refine lv_isub X.1.1 X.1.2.1 dX7_send_389 ?_
            refine lv_iload X.1.1 X.1.2.1 dX7_send_390 (lv_at hl 6 rfl) ?_
            refine r_callV (k := 8) (n := 3) (As := [.int x5, .int ((-1 : Int32) - (ai S38 o73 r39.toNatClampNeg)), .int x6]) X V (sd_X7_goes l D ka _ S38 _ b0 x5 ((-1 : Int32) - (ai S38 o73 r39.toNatClampNeg)) x6 h) k33 (by decide) (by decide) rfl wd_531 wd_532 wd_447 wd_533 wd_534 rfl rfl (by decide +kernel) ⟨Nat.le_of_ble_eq_true rfl, Nat.le_of_ble_eq_true rfl⟩ rfl hl.1 rfl (Nat.le_of_ble_eq_true rfl) dX7_send_392 ⟨show 0 ≤ 0 by omega, show 0 ≤ 0 by omega⟩ (fun r78 S77 H locs h m79 V => ?_)
            have k33 := m79.k k33 (by decide)
            have k43 := m79.t k43 (by decide)
            have k47 := m79.t k47 (by decide)
            have k70 := m79.t k70 (by decide)
            have k75 := m79.t k75 (by decide)
            refine lv_aload_n X.1.1 X.1.2.1 dX7_send_395 rfl (lv_at hl 2 rfl) ?_
            obtain ⟨o80, e81, h⟩ := h
            refine gf_X7_63 X V k33 e81 dX7_send_396 ?_
            refine lv_iconst (v := (0 : Int32)) X.1.1 X.1.2.1 dX7_send_399 (by decide) ?_
            obtain ⟨k82, h⟩ := h
            obtain ⟨i83, h⟩ := h
            refine r_iald X V k82 i83 dX7_send_400 ?_
            refine lv_iload X.1.1 X.1.2.1 dX7_send_401 (lv_at hl 0 rfl) ?_
            refine lv_isub X.1.1 X.1.2.1 dX7_send_403 ?_
            exact W.iret X.1.1 X.1.2.1 hr (fun t ht _ => V.q (r := ((ai S77 o80 (0 : Int32).toNatClampNeg) - (ai S38 o41 (0 : Int32).toNatClampNeg))) h ht) V.2.1.2.2 dX7_send_404 X.1.2.2.2.2
          · have h := h.2 c72
            refine lv_aload_n X.1.1 X.1.2.1 dX7_send_336 rfl (lv_at hl 2 rfl) ?_
            obtain ⟨o84, e85, h⟩ := h
            refine gf_X7_45 X V k33 e85 dX7_send_337 ?_
            refine lv_iload X.1.1 X.1.2.1 dX7_send_340 (lv_at hl 1 rfl) ?_
            obtain ⟨k86, h⟩ := h
            obtain ⟨i87, h⟩ := h
            refine r_iald X V k86 i87 dX7_send_342 ?_
            refine lv_iload_n X.1.1 X.1.2.1 dX7_send_343 rfl (lv_at hl 3 rfl) ?_
            refine lv_icmp_eq (tgt := 395) X.1.1 X.1.2.1 dX7_send_344 (by decide) (fun c88 => ?_) (fun c88 => ?_)
            · have h := h.1 c88
              refine lv_aload_n X.1.1 X.1.2.1 dX7_send_395 rfl (lv_at hl 2 rfl) ?_
              obtain ⟨o89, e90, h⟩ := h
              refine gf_X7_63 X V k33 e90 dX7_send_396 ?_
              refine lv_iconst (v := (0 : Int32)) X.1.1 X.1.2.1 dX7_send_399 (by decide) ?_
              obtain ⟨k91, h⟩ := h
              obtain ⟨i92, h⟩ := h
              refine r_iald X V k91 i92 dX7_send_400 ?_
              refine lv_iload X.1.1 X.1.2.1 dX7_send_401 (lv_at hl 0 rfl) ?_
              refine lv_isub X.1.1 X.1.2.1 dX7_send_403 ?_
              exact W.iret X.1.1 X.1.2.1 hr (fun t ht _ => V.q (r := ((ai S38 o89 (0 : Int32).toNatClampNeg) - (ai S38 o41 (0 : Int32).toNatClampNeg))) h ht) V.2.1.2.2 dX7_send_404 X.1.2.2.2.2
            · have h := h.2 c88
              refine lv_aload_n X.1.1 X.1.2.1 dX7_send_347 rfl (lv_at hl 2 rfl) ?_
              obtain ⟨o93, e94, h⟩ := h
              refine gf_X7_7 X V k33 e94 dX7_send_348 ?_
              refine lv_aload_n X.1.1 X.1.2.1 dX7_send_351 rfl (lv_at hl 2 rfl) ?_
              obtain ⟨o95, e96, h⟩ := h
              refine gf_X7_45 X V k33 e96 dX7_send_352 ?_
              refine lv_iload X.1.1 X.1.2.1 dX7_send_355 (lv_at hl 1 rfl) ?_
              obtain ⟨k97, h⟩ := h
              obtain ⟨i98, h⟩ := h
              refine r_iald X V k97 i98 dX7_send_357 ?_
              obtain ⟨k99, h⟩ := h
              obtain ⟨i100, h⟩ := h
              refine r_iald X V k99 i100 dX7_send_358 ?_
              refine lv_iload X.1.1 X.1.2.1 dX7_send_359 (lv_at hl 5 rfl) ?_
              refine lv_icmp_ne (tgt := 395) X.1.1 X.1.2.1 dX7_send_361 (by decide) (fun c101 => ?_) (fun c101 => ?_)
              · have h := h.1 c101
                refine lv_aload_n X.1.1 X.1.2.1 dX7_send_395 rfl (lv_at hl 2 rfl) ?_
                obtain ⟨o102, e103, h⟩ := h
                refine gf_X7_63 X V k33 e103 dX7_send_396 ?_
                refine lv_iconst (v := (0 : Int32)) X.1.1 X.1.2.1 dX7_send_399 (by decide) ?_
                obtain ⟨k104, h⟩ := h
                obtain ⟨i105, h⟩ := h
                refine r_iald X V k104 i105 dX7_send_400 ?_
                refine lv_iload X.1.1 X.1.2.1 dX7_send_401 (lv_at hl 0 rfl) ?_
                refine lv_isub X.1.1 X.1.2.1 dX7_send_403 ?_
                exact W.iret X.1.1 X.1.2.1 hr (fun t ht _ => V.q (r := ((ai S38 o102 (0 : Int32).toNatClampNeg) - (ai S38 o41 (0 : Int32).toNatClampNeg))) h ht) V.2.1.2.2 dX7_send_404 X.1.2.2.2.2
              · have h := h.2 c101
                refine lv_aload_n X.1.1 X.1.2.1 dX7_send_364 rfl (lv_at hl 2 rfl) ?_
                refine lv_aload_n X.1.1 X.1.2.1 dX7_send_365 rfl (lv_at hl 2 rfl) ?_
                obtain ⟨o106, e107, h⟩ := h
                refine gf_X7_45 X V k33 e107 dX7_send_366 ?_
                refine lv_iload X.1.1 X.1.2.1 dX7_send_369 (lv_at hl 1 rfl) ?_
                obtain ⟨k108, h⟩ := h
                obtain ⟨i109, h⟩ := h
                refine r_iald X V k108 i109 dX7_send_371 ?_
                refine r_callV (k := 8) (n := 1) (As := [.int (ai S38 o106 r39.toNatClampNeg)]) X V (sd_X7_comesTo l D ka _ S38 _ b0 (ai S38 o106 r39.toNatClampNeg) h) k33 (by decide) (by decide) rfl wd_477 wd_478 wd_447 wd_479 wd_480 rfl rfl (by decide +kernel) ⟨Nat.le_of_ble_eq_true rfl, Nat.le_of_ble_eq_true rfl⟩ rfl hl.1 rfl (Nat.le_of_ble_eq_true rfl) dX7_send_372 ⟨show 0 ≤ 0 by omega, show 0 ≤ 0 by omega⟩ (fun r111 S110 H locs h m112 V => ?_)
                have k33 := m112.k k33 (by decide)
                have k43 := m112.t k43 (by decide)
                have k47 := m112.t k47 (by decide)
                have k70 := m112.t k70 (by decide)
                have k86 := m112.t k86 (by decide)
                have k97 := m112.t k97 (by decide)
                have k99 := m112.t k99 (by decide)
                have k108 := m112.t k108 (by decide)
                refine lv_goto (tgt := 395) X.1.1 X.1.2.1 dX7_send_375 (by decide) ?_
                refine lv_aload_n X.1.1 X.1.2.1 dX7_send_395 rfl (lv_at hl 2 rfl) ?_
                obtain ⟨o113, e114, h⟩ := h
                refine gf_X7_63 X V k33 e114 dX7_send_396 ?_
                refine lv_iconst (v := (0 : Int32)) X.1.1 X.1.2.1 dX7_send_399 (by decide) ?_
                obtain ⟨k115, h⟩ := h
                obtain ⟨i116, h⟩ := h
                refine r_iald X V k115 i116 dX7_send_400 ?_
                refine lv_iload X.1.1 X.1.2.1 dX7_send_401 (lv_at hl 0 rfl) ?_
                refine lv_isub X.1.1 X.1.2.1 dX7_send_403 ?_
                exact W.iret X.1.1 X.1.2.1 hr (fun t ht _ => V.q (r := ((ai S110 o113 (0 : Int32).toNatClampNeg) - (ai S38 o41 (0 : Int32).toNatClampNeg))) h ht) V.2.1.2.2 dX7_send_404 X.1.2.2.2.2
        · have h := h.2 c67
          refine lv_aload_n X.1.1 X.1.2.1 dX7_send_268 rfl (lv_at hl 2 rfl) ?_
          refine lv_iload X.1.1 X.1.2.1 dX7_send_269 (lv_at hl 5 rfl) ?_
          refine lv_iload X.1.1 X.1.2.1 dX7_send_271 (lv_at hl 6 rfl) ?_
          refine lv_iload_n X.1.1 X.1.2.1 dX7_send_273 rfl (lv_at hl 3 rfl) ?_
          refine r_callV (k := 8) (n := 3) (As := [.int x5, .int x6, .int x1]) X V (sd_X7_comesToAll l D ka _ S38 _ b0 x5 x6 x1 h) k33 (by decide) (by decide) rfl wd_523 wd_524 wd_447 wd_525 wd_526 rfl rfl (by decide +kernel) ⟨Nat.le_of_ble_eq_true rfl, Nat.le_of_ble_eq_true rfl⟩ rfl hl.1 rfl (Nat.le_of_ble_eq_true rfl) dX7_send_274 ⟨show 0 ≤ 0 by omega, show 0 ≤ 0 by omega⟩ (fun r118 S117 H locs h m119 V => ?_)
          have k33 := m119.k k33 (by decide)
          have k43 := m119.t k43 (by decide)
          have k47 := m119.t k47 (by decide)
          refine lv_iconst (v := (0 : Int32)) X.1.1 X.1.2.1 dX7_send_277 (by decide) ?_
          refine lv_istore (lv' := [(11, .int (0 : Int32)), (10, .int (ai S38 o41 (0 : Int32).toNatClampNeg)), (9, .int r39), (0, .ref b0), (1, .int x1), (2, .long y2), (5, .int x5), (6, .int x6), (7, .long y7)]) X.1.1 X.1.2.1 dX7_send_278 hl (by decide) rfl (fun ls hl => ?_)
          obtain ⟨n9, h⟩ := h
          exact sl_X7_send_280 l D ka sz Z post X hr n9 S117 b0 x5 x6 (ai S38 o41 (0 : Int32).toNatClampNeg) (0 : Int32) h _ _ _ V (lv_sub hl [3, 6, 7, 1, 0] rfl)
    · have h := h.2 c34
      refine lv_aload_n X.1.1 X.1.2.1 dX7_send_183 rfl (lv_at hl 0 rfl) ?_
      obtain ⟨o120, e121, h⟩ := h
      refine gf_X7_69 X V k33 e121 dX7_send_184 ?_
      refine lv_aload_n X.1.1 X.1.2.1 dX7_send_187 rfl (lv_at hl 0 rfl) ?_
      refine gf_X7_104 X V k33 dX7_send_188 ?_
      refine lv_aload_n X.1.1 X.1.2.1 dX7_send_191 rfl (lv_at hl 0 rfl) ?_
      obtain ⟨o122, e123, h⟩ := h
      refine gf_X7_51 X V k33 e123 dX7_send_192 ?_
      refine lv_iload X.1.1 X.1.2.1 dX7_send_195 (lv_at hl 6 rfl) ?_
      obtain ⟨k124, h⟩ := h
      obtain ⟨i125, h⟩ := h
      refine r_bald X V k124 i125 dX7_send_197 ?_
      obtain ⟨k126, h⟩ := h
      obtain ⟨i127, h⟩ := h
      refine r_bast X V k126 i127 dX7_send_198 (fun H locs V => ?_)
      refine lv_aload_n X.1.1 X.1.2.1 dX7_send_199 rfl (lv_at hl 0 rfl) ?_
      refine lv_dup X.1.1 X.1.2.1 dX7_send_200 rfl ?_
      refine gf_X7_104 X V k33 dX7_send_201 ?_
      refine lv_iconst (v := (1 : Int32)) X.1.1 X.1.2.1 dX7_send_204 (by decide) ?_
      refine lv_iadd X.1.1 X.1.2.1 dX7_send_205 ?_
      refine pf_X7_104 X V k33 dX7_send_206 (fun H locs V => ?_)
      refine lv_iinc (v := (x9 + (1 : Int32))) (lv' := [(9, .int (x9 + (1 : Int32))), (0, .ref b0), (1, .int x1), (2, .long y2), (5, .int x5), (6, .int x6), (7, .long y7)]) X.1.1 X.1.2.1 dX7_send_209 hl (k := 6) rfl (congrArg (HAdd.hAdd _) (by decide)) (by decide) rfl (fun ls hl => ?_)
      refine lv_goto (tgt := 174) X.1.1 X.1.2.1 dX7_send_212 (by decide) ?_
      exact ih (sfi (sai S o120 (fi S 52 b0).toNatClampNeg ((ai S o122 x9.toNatClampNeg).toInt8.toInt32)) 52 b0 ((fi (sai S o120 (fi S 52 b0).toNatClampNeg ((ai S o122 x9.toNatClampNeg).toInt8.toInt32)) 52 b0) + (1 : Int32))) b0 x1 y2 x5 x6 y7 (x9 + (1 : Int32)) h _ _ _ V (lv_sub hl [1, 2, 3, 4, 5, 6, 0] rfl)
def wp_X7_send_87 : Nat → (Int32 → HS → Prop) → HS → Nat → Int32 → Int64 → Int32 → Int32 → Int32 → Int64 → Int32 → Prop
  | 0, _, _, _, _, _, _, _, _, _, _ => False
  | n + 1, post, S, b0, x1, y2, x4, x5, x6, y7, x9 => ((x9 < 0 → kd S b0 = 8 ∧ (∃ o25 : Nat, fr (sfi S 52 b0 (14 : Int32)) 51 b0 = some o25 ∧ (kd (sfi S 52 b0 (14 : Int32)) o25 / 32 = 2 ∧ (vp_in (12 : Int32) (ln (sfi S 52 b0 (14 : Int32)) o25) ∧ (∃ o29 : Nat, fr (sai (sfi S 52 b0 (14 : Int32)) o25 (12 : Int32).toNatClampNeg (((x4 >>> ((8 : Int32) &&& 31)).toInt8.toInt32).toInt8.toInt32)) 51 b0 = some o29 ∧ (kd (sai (sfi S 52 b0 (14 : Int32)) o25 (12 : Int32).toNatClampNeg (((x4 >>> ((8 : Int32) &&& 31)).toInt8.toInt32).toInt8.toInt32)) o29 / 32 = 2 ∧ (vp_in (13 : Int32) (ln (sai (sfi S 52 b0 (14 : Int32)) o25 (12 : Int32).toNatClampNeg (((x4 >>> ((8 : Int32) &&& 31)).toInt8.toInt32).toInt8.toInt32)) o29) ∧ (∃ n9, wp_X7_send_174 n9 post (sai (sai (sfi S 52 b0 (14 : Int32)) o25 (12 : Int32).toNatClampNeg (((x4 >>> ((8 : Int32) &&& 31)).toInt8.toInt32).toInt8.toInt32)) o29 (13 : Int32).toNatClampNeg ((x4.toInt8.toInt32).toInt8.toInt32)) b0 x1 y2 x5 x6 y7 (0 : Int32))))))))) ∧ (¬ x9 < 0 → kd S b0 = 8 ∧ (∃ o129 : Nat, fr S 51 b0 = some o129 ∧ (kd S o129 / 32 = 2 ∧ (vp_in (fi S 52 b0) (ln S o129) ∧ (∃ o133 : Nat, fr (sai S o129 (fi S 52 b0).toNatClampNeg ((((y2 >>> (x9.toInt64 &&& 63)).toInt32).toInt8.toInt32).toInt8.toInt32)) 51 b0 = some o133 ∧ (kd (sai S o129 (fi S 52 b0).toNatClampNeg ((((y2 >>> (x9.toInt64 &&& 63)).toInt32).toInt8.toInt32).toInt8.toInt32)) o133 / 32 = 2 ∧ (vp_in ((fi (sai S o129 (fi S 52 b0).toNatClampNeg ((((y2 >>> (x9.toInt64 &&& 63)).toInt32).toInt8.toInt32).toInt8.toInt32)) 52 b0) + (6 : Int32)) (ln (sai S o129 (fi S 52 b0).toNatClampNeg ((((y2 >>> (x9.toInt64 &&& 63)).toInt32).toInt8.toInt32).toInt8.toInt32)) o133) ∧ (wp_X7_send_87 n post (sfi (sai (sai S o129 (fi S 52 b0).toNatClampNeg ((((y2 >>> (x9.toInt64 &&& 63)).toInt32).toInt8.toInt32).toInt8.toInt32)) o133 ((fi (sai S o129 (fi S 52 b0).toNatClampNeg ((((y2 >>> (x9.toInt64 &&& 63)).toInt32).toInt8.toInt32).toInt8.toInt32)) 52 b0) + (6 : Int32)).toNatClampNeg ((((y7 >>> (x9.toInt64 &&& 63)).toInt32).toInt8.toInt32).toInt8.toInt32)) 52 b0 ((fi (sai (sai S o129 (fi S 52 b0).toNatClampNeg ((((y2 >>> (x9.toInt64 &&& 63)).toInt32).toInt8.toInt32).toInt8.toInt32)) o133 ((fi (sai S o129 (fi S 52 b0).toNatClampNeg ((((y2 >>> (x9.toInt64 &&& 63)).toInt32).toInt8.toInt32).toInt8.toInt32)) 52 b0) + (6 : Int32)).toNatClampNeg ((((y7 >>> (x9.toInt64 &&& 63)).toInt32).toInt8.toInt32).toInt8.toInt32)) 52 b0) + (1 : Int32))) b0 x1 y2 x4 x5 x6 y7 (x9 + (-8 : Int32)))))))))))
set_option maxHeartbeats 400000 in
set_option maxRecDepth 100000 in
theorem sl_X7_send_87 (l : Launch) (D : va_G) (ka : Nat → ClassId) (sz : Nat) (Z : HS) (post : Int32 → HS → Prop) {p : Program} {e : Env} {s : State} {m : MethodId} {args : Array Value} {below : List Frame} {meth : Method} {c : Code} (X : Cx p s m meth c cX7_send 12 RX7 D ka Z (fA Z sz)) (hr : meth.sig.returnType = (some .int))  : ∀ (n : Nat), ∀ (S : HS) (b0 : Nat) (x1 : Int32) (y2 : Int64) (x4 : Int32) (x5 : Int32) (x6 : Int32) (y7 : Int64) (x9 : Int32), wp_X7_send_87 n post S b0 x1 y2 x4 x5 x6 y7 x9 → ∀ (H : Heap) (locs : List Loc) (ls : Array Slot), Hv D ka Z s (fA Z sz) S H locs → lv_has ls 12 [(0, .ref b0), (1, .int x1), (2, .long y2), (4, .int x4), (5, .int x5), (6, .int x6), (7, .long y7), (9, .int x9)] → W p l e rm_X7_send s m args below meth c H locs 0 0 (MQ below (Qx eI post D ka Z sz) args s 0 0 (fA Z sz)) (F0 m 87 ls []) := by
  intro n
  induction n with
  | zero => intro S b0 x1 y2 x4 x5 x6 y7 x9 h; exact h.elim
  | succ n ih =>
    intro S b0 x1 y2 x4 x5 x6 y7 x9 h H locs ls V hl
    refine lv_iload X.1.1 X.1.2.1 dX7_send_87 (lv_at hl 7 rfl) ?_
    refine lv_if_lt (tgt := 142) X.1.1 X.1.2.1 dX7_send_89 (by decide) (fun c23 => ?_) (fun c23 => ?_)
    · have h := h.1 c23
      refine lv_aload_n X.1.1 X.1.2.1 dX7_send_142 rfl (lv_at hl 0 rfl) ?_
      refine lv_bipush (v := (14 : Int32)) X.1.1 X.1.2.1 dX7_send_143 (by decide) ?_
      obtain ⟨k24, h⟩ := h
      refine pf_X7_104 X V k24 dX7_send_145 (fun H locs V => ?_)
      refine lv_aload_n X.1.1 X.1.2.1 dX7_send_148 rfl (lv_at hl 0 rfl) ?_
      obtain ⟨o25, e26, h⟩ := h
      refine gf_X7_69 X V k24 e26 dX7_send_149 ?_
      refine lv_bipush (v := (12 : Int32)) X.1.1 X.1.2.1 dX7_send_152 (by decide) ?_
      refine lv_iload X.1.1 X.1.2.1 dX7_send_154 (lv_at hl 3 rfl) ?_
      refine lv_bipush (v := (8 : Int32)) X.1.1 X.1.2.1 dX7_send_156 (by decide) ?_
      refine lv_ishr X.1.1 X.1.2.1 dX7_send_158 ?_
      refine lv_i2b X.1.1 X.1.2.1 dX7_send_159 rfl ?_
      obtain ⟨k27, h⟩ := h
      obtain ⟨i28, h⟩ := h
      refine r_bast X V k27 i28 dX7_send_160 (fun H locs V => ?_)
      refine lv_aload_n X.1.1 X.1.2.1 dX7_send_161 rfl (lv_at hl 0 rfl) ?_
      obtain ⟨o29, e30, h⟩ := h
      refine gf_X7_69 X V k24 e30 dX7_send_162 ?_
      refine lv_bipush (v := (13 : Int32)) X.1.1 X.1.2.1 dX7_send_165 (by decide) ?_
      refine lv_iload X.1.1 X.1.2.1 dX7_send_167 (lv_at hl 3 rfl) ?_
      refine lv_i2b X.1.1 X.1.2.1 dX7_send_169 rfl ?_
      obtain ⟨k31, h⟩ := h
      obtain ⟨i32, h⟩ := h
      refine r_bast X V k31 i32 dX7_send_170 (fun H locs V => ?_)
      refine lv_iconst (v := (0 : Int32)) X.1.1 X.1.2.1 dX7_send_171 (by decide) ?_
      refine lv_istore (lv' := [(9, .int (0 : Int32)), (0, .ref b0), (1, .int x1), (2, .long y2), (4, .int x4), (5, .int x5), (6, .int x6), (7, .long y7)]) X.1.1 X.1.2.1 dX7_send_172 hl (by decide) rfl (fun ls hl => ?_)
      obtain ⟨n9, h⟩ := h
      exact sl_X7_send_174 l D ka sz Z post X hr n9 (sai (sai (sfi S 52 b0 (14 : Int32)) o25 (12 : Int32).toNatClampNeg (((x4 >>> ((8 : Int32) &&& 31)).toInt8.toInt32).toInt8.toInt32)) o29 (13 : Int32).toNatClampNeg ((x4.toInt8.toInt32).toInt8.toInt32)) b0 x1 y2 x5 x6 y7 (0 : Int32) h _ _ _ V (lv_sub hl [1, 2, 3, 5, 6, 7, 0] rfl)
    · have h := h.2 c23
      refine lv_aload_n X.1.1 X.1.2.1 dX7_send_92 rfl (lv_at hl 0 rfl) ?_
      obtain ⟨k128, h⟩ := h
      obtain ⟨o129, e130, h⟩ := h
      refine gf_X7_69 X V k128 e130 dX7_send_93 ?_
      refine lv_aload_n X.1.1 X.1.2.1 dX7_send_96 rfl (lv_at hl 0 rfl) ?_
      refine gf_X7_104 X V k128 dX7_send_97 ?_
      refine lv_lload_n X.1.1 X.1.2.1 dX7_send_100 rfl (lv_at hl 2 rfl) ?_
      refine lv_iload X.1.1 X.1.2.1 dX7_send_101 (lv_at hl 7 rfl) ?_
      refine lv_lshr X.1.1 X.1.2.1 dX7_send_103 rfl ?_
      refine lv_l2i X.1.1 X.1.2.1 dX7_send_104 rfl ?_
      refine lv_i2b X.1.1 X.1.2.1 dX7_send_105 rfl ?_
      obtain ⟨k131, h⟩ := h
      obtain ⟨i132, h⟩ := h
      refine r_bast X V k131 i132 dX7_send_106 (fun H locs V => ?_)
      refine lv_aload_n X.1.1 X.1.2.1 dX7_send_107 rfl (lv_at hl 0 rfl) ?_
      obtain ⟨o133, e134, h⟩ := h
      refine gf_X7_69 X V k128 e134 dX7_send_108 ?_
      refine lv_aload_n X.1.1 X.1.2.1 dX7_send_111 rfl (lv_at hl 0 rfl) ?_
      refine gf_X7_104 X V k128 dX7_send_112 ?_
      refine lv_bipush (v := (6 : Int32)) X.1.1 X.1.2.1 dX7_send_115 (by decide) ?_
      refine lv_iadd X.1.1 X.1.2.1 dX7_send_117 ?_
      refine lv_lload X.1.1 X.1.2.1 dX7_send_118 (lv_at hl 6 rfl) ?_
      refine lv_iload X.1.1 X.1.2.1 dX7_send_120 (lv_at hl 7 rfl) ?_
      refine lv_lshr X.1.1 X.1.2.1 dX7_send_122 rfl ?_
      refine lv_l2i X.1.1 X.1.2.1 dX7_send_123 rfl ?_
      refine lv_i2b X.1.1 X.1.2.1 dX7_send_124 rfl ?_
      obtain ⟨k135, h⟩ := h
      obtain ⟨i136, h⟩ := h
      refine r_bast X V k135 i136 dX7_send_125 (fun H locs V => ?_)
      refine lv_aload_n X.1.1 X.1.2.1 dX7_send_126 rfl (lv_at hl 0 rfl) ?_
      refine lv_dup X.1.1 X.1.2.1 dX7_send_127 rfl ?_
      refine gf_X7_104 X V k128 dX7_send_128 ?_
      refine lv_iconst (v := (1 : Int32)) X.1.1 X.1.2.1 dX7_send_131 (by decide) ?_
      refine lv_iadd X.1.1 X.1.2.1 dX7_send_132 ?_
      refine pf_X7_104 X V k128 dX7_send_133 (fun H locs V => ?_)
      refine lv_iinc (v := (x9 + (-8 : Int32))) (lv' := [(9, .int (x9 + (-8 : Int32))), (0, .ref b0), (1, .int x1), (2, .long y2), (4, .int x4), (5, .int x5), (6, .int x6), (7, .long y7)]) X.1.1 X.1.2.1 dX7_send_136 hl (k := 7) rfl (congrArg (HAdd.hAdd _) (by decide)) (by decide) rfl (fun ls hl => ?_)
      refine lv_goto (tgt := 87) X.1.1 X.1.2.1 dX7_send_139 (by decide) ?_
      exact ih (sfi (sai (sai S o129 (fi S 52 b0).toNatClampNeg ((((y2 >>> (x9.toInt64 &&& 63)).toInt32).toInt8.toInt32).toInt8.toInt32)) o133 ((fi (sai S o129 (fi S 52 b0).toNatClampNeg ((((y2 >>> (x9.toInt64 &&& 63)).toInt32).toInt8.toInt32).toInt8.toInt32)) 52 b0) + (6 : Int32)).toNatClampNeg ((((y7 >>> (x9.toInt64 &&& 63)).toInt32).toInt8.toInt32).toInt8.toInt32)) 52 b0 ((fi (sai (sai S o129 (fi S 52 b0).toNatClampNeg ((((y2 >>> (x9.toInt64 &&& 63)).toInt32).toInt8.toInt32).toInt8.toInt32)) o133 ((fi (sai S o129 (fi S 52 b0).toNatClampNeg ((((y2 >>> (x9.toInt64 &&& 63)).toInt32).toInt8.toInt32).toInt8.toInt32)) 52 b0) + (6 : Int32)).toNatClampNeg ((((y7 >>> (x9.toInt64 &&& 63)).toInt32).toInt8.toInt32).toInt8.toInt32)) 52 b0) + (1 : Int32))) b0 x1 y2 x4 x5 x6 y7 (x9 + (-8 : Int32)) h _ _ _ V (lv_sub hl [1, 2, 3, 4, 5, 6, 7, 0] rfl)
def wp_X7_send (post : Int32 → HS → Prop) (S : HS) (a0 : Nat) (v1 : Int32) (w2 : Int64) (v4 : Int32) : Prop := kd S a0 = 8 ∧ (wp_X7_isStation (fun r3 S2 => ((r3 = 0 → post (-1 : Int32) S2) ∧ (¬ r3 = 0 → (((lg_cmp w2 (0 : Int64)) < 0 → post (-1 : Int32) S2) ∧ (¬ (lg_cmp w2 (0 : Int64)) < 0 → ((0 ≤ (lg_cmp w2 (281474976710656 : Int64)) → post (-1 : Int32) S2) ∧ (¬ 0 ≤ (lg_cmp w2 (281474976710656 : Int64)) → ((v4 < 0 → post (-1 : Int32) S2) ∧ (¬ v4 < 0 → (((65535 : Int32) < v4 → post (-1 : Int32) S2) ∧ (¬ (65535 : Int32) < v4 → (((fi S2 43 a0) ≤ (40 : Int32) → ∃ o11 : Nat, fr S2 29 a0 = some o11 ∧ (kd S2 o11 / 32 = 1 ∧ (vp_in v1 (ln S2 o11) ∧ (∃ o15 : Nat, fr S2 30 a0 = some o15 ∧ (kd S2 o15 / 32 = 1 ∧ (vp_in v1 (ln S2 o15) ∧ (∃ o19 : Nat, fr S2 31 a0 = some o19 ∧ (kd S2 o19 / 32 = 1 ∧ (vp_in v1 (ln S2 o19) ∧ (∃ n9, wp_X7_send_87 n9 post (sfi S2 52 a0 (0 : Int32)) a0 v1 w2 v4 (ai S2 o11 v1.toNatClampNeg) (ai S2 o15 v1.toNatClampNeg) ((2199023255552 : Int64) ||| ((ai S2 o19 v1.toNatClampNeg).toInt64 &&& (4294967295 : Int64))) (40 : Int32))))))))))) ∧ (¬ (fi S2 43 a0) ≤ (40 : Int32) → post (-1 : Int32) S2))))))))))))) S a0 v1)
set_option maxHeartbeats 400000 in
set_option maxRecDepth 100000 in
theorem sd_X7_send (l : Launch) (D : va_G) (ka : Nat → ClassId) (sz : Nat) (Z : HS) (post : Int32 → HS → Prop) (a0 : Nat) (v1 : Int32) (w2 : Int64) (v4 : Int32) (h : wp_X7_send post Z a0 v1 w2 v4) : Met l yX7_send [Cond.code yX7_send cX7_send 12 (some .int)] rm_X7_send (Px D ka Z sz [.ref a0, .int v1, .long w2, .int v4]) (Qx eI post D ka Z sz) 0 0 (fA Z sz) := by
  refine Met.ofW (cc := cX7_send) (maxL := 12) (ret := (some .int)) (by decide) rfl ?_
  intro p e s m args below meth c s₁ B hml hv
  obtain ⟨rfl, X, V, hsz⟩ := Cx.entry B hml hv
  have hr : meth.sig.returnType = (some .int) := B.returns
  have hl := lv_entry ([.ref a0, .int v1, .long w2, .int v4]) (n := 12) (Nat.le_of_ble_eq_true rfl)
  rw [lg_entry_eq]
  generalize (lg_sl ([.ref a0, .int v1, .long w2, .int v4]) ++ List.replicate (12 - (lg_sl ([.ref a0, .int v1, .long w2, .int v4])).length) Slot.unset).toArray = ls at hl ⊢
  have hl : lv_has ls 12 [(0, .ref a0), (1, .int v1), (2, .long w2), (4, .int v4)] := hl
  have h : wp_X7_send post Z a0 v1 w2 v4 := h
  refine lv_aload_n X.1.1 X.1.2.1 dX7_send_0 rfl (lv_at hl 0 rfl) ?_
  refine lv_iload_n X.1.1 X.1.2.1 dX7_send_1 rfl (lv_at hl 1 rfl) ?_
  obtain ⟨k1, h⟩ := h
  refine r_callV (k := 8) (n := 1) (As := [.int v1]) X V (sd_X7_isStation l D ka _ Z _ a0 v1 h) k1 (by decide) (by decide) rfl wd_455 wd_456 wd_447 wd_457 wd_458 rfl rfl (by decide +kernel) ⟨Nat.le_of_ble_eq_true rfl, Nat.le_of_ble_eq_true rfl⟩ rfl hl.1 rfl (Nat.le_of_ble_eq_true rfl) dX7_send_2 ⟨show 0 ≤ 0 by omega, show 0 ≤ 0 by omega⟩ (fun r3 S2 H locs h m4 V => ?_)
  have k1 := m4.k k1 (by decide)
  refine lv_if_eq (tgt := 43) X.1.1 X.1.2.1 dX7_send_5 (by decide) (fun c5 => ?_) (fun c5 => ?_)
  · have h := h.1 c5
    refine lv_iconst (v := (-1 : Int32)) X.1.1 X.1.2.1 dX7_send_43 (by decide) ?_
    exact W.iret X.1.1 X.1.2.1 hr (fun t ht _ => V.q (r := (-1 : Int32)) h ht) V.2.1.2.2 dX7_send_44 X.1.2.2.2.2
  · have h := h.2 c5
    refine lv_lload_n X.1.1 X.1.2.1 dX7_send_8 rfl (lv_at hl 2 rfl) ?_
    refine lv_lconst (v := (0 : Int64)) X.1.1 X.1.2.1 dX7_send_9 (by decide) ?_
    refine W.lcmp X.1.1 X.1.2.1 dX7_send_10 ?_
    refine lv_if_lt (tgt := 43) X.1.1 X.1.2.1 dX7_send_11 (by decide) (fun c6 => ?_) (fun c6 => ?_)
    · have h := h.1 c6
      refine lv_iconst (v := (-1 : Int32)) X.1.1 X.1.2.1 dX7_send_43 (by decide) ?_
      exact W.iret X.1.1 X.1.2.1 hr (fun t ht _ => V.q (r := (-1 : Int32)) h ht) V.2.1.2.2 dX7_send_44 X.1.2.2.2.2
    · have h := h.2 c6
      refine lv_lload_n X.1.1 X.1.2.1 dX7_send_14 rfl (lv_at hl 2 rfl) ?_
      refine lv_ldc2 (v := (281474976710656 : Int64)) X.1.1 X.1.2.1 X.1.2.2.2.1 (X.w wd_516 rfl _) dX7_send_15 ?_
      refine W.lcmp X.1.1 X.1.2.1 dX7_send_18 ?_
      refine lv_if_ge (tgt := 43) X.1.1 X.1.2.1 dX7_send_19 (by decide) (fun c7 => ?_) (fun c7 => ?_)
      · have h := h.1 c7
        refine lv_iconst (v := (-1 : Int32)) X.1.1 X.1.2.1 dX7_send_43 (by decide) ?_
        exact W.iret X.1.1 X.1.2.1 hr (fun t ht _ => V.q (r := (-1 : Int32)) h ht) V.2.1.2.2 dX7_send_44 X.1.2.2.2.2
      · have h := h.2 c7
        refine lv_iload X.1.1 X.1.2.1 dX7_send_22 (lv_at hl 3 rfl) ?_
        refine lv_if_lt (tgt := 43) X.1.1 X.1.2.1 dX7_send_24 (by decide) (fun c8 => ?_) (fun c8 => ?_)
        · have h := h.1 c8
          refine lv_iconst (v := (-1 : Int32)) X.1.1 X.1.2.1 dX7_send_43 (by decide) ?_
          exact W.iret X.1.1 X.1.2.1 hr (fun t ht _ => V.q (r := (-1 : Int32)) h ht) V.2.1.2.2 dX7_send_44 X.1.2.2.2.2
        · have h := h.2 c8
          refine lv_iload X.1.1 X.1.2.1 dX7_send_27 (lv_at hl 3 rfl) ?_
          refine lv_ldc (v := (65535 : Int32)) X.1.1 X.1.2.1 X.1.2.2.2.1 (X.w wd_481 rfl _) dX7_send_29 ?_
          refine lv_icmp_gt (tgt := 43) X.1.1 X.1.2.1 dX7_send_31 (by decide) (fun c9 => ?_) (fun c9 => ?_)
          · have h := h.1 c9
            refine lv_iconst (v := (-1 : Int32)) X.1.1 X.1.2.1 dX7_send_43 (by decide) ?_
            exact W.iret X.1.1 X.1.2.1 hr (fun t ht _ => V.q (r := (-1 : Int32)) h ht) V.2.1.2.2 dX7_send_44 X.1.2.2.2.2
          · have h := h.2 c9
            refine lv_aload_n X.1.1 X.1.2.1 dX7_send_34 rfl (lv_at hl 0 rfl) ?_
            refine gf_X7_93 X V k1 dX7_send_35 ?_
            refine lv_bipush (v := (40 : Int32)) X.1.1 X.1.2.1 dX7_send_38 (by decide) ?_
            refine lv_icmp_le (tgt := 45) X.1.1 X.1.2.1 dX7_send_40 (by decide) (fun c10 => ?_) (fun c10 => ?_)
            · have h := h.1 c10
              refine lv_aload_n X.1.1 X.1.2.1 dX7_send_45 rfl (lv_at hl 0 rfl) ?_
              obtain ⟨o11, e12, h⟩ := h
              refine gf_X7_7 X V k1 e12 dX7_send_46 ?_
              refine lv_iload_n X.1.1 X.1.2.1 dX7_send_49 rfl (lv_at hl 1 rfl) ?_
              obtain ⟨k13, h⟩ := h
              obtain ⟨i14, h⟩ := h
              refine r_iald X V k13 i14 dX7_send_50 ?_
              refine lv_istore (lv' := [(5, .int (ai S2 o11 v1.toNatClampNeg)), (0, .ref a0), (1, .int v1), (2, .long w2), (4, .int v4)]) X.1.1 X.1.2.1 dX7_send_51 hl (by decide) rfl (fun ls hl => ?_)
              refine lv_aload_n X.1.1 X.1.2.1 dX7_send_53 rfl (lv_at hl 1 rfl) ?_
              obtain ⟨o15, e16, h⟩ := h
              refine gf_X7_13 X V k1 e16 dX7_send_54 ?_
              refine lv_iload_n X.1.1 X.1.2.1 dX7_send_57 rfl (lv_at hl 2 rfl) ?_
              obtain ⟨k17, h⟩ := h
              obtain ⟨i18, h⟩ := h
              refine r_iald X V k17 i18 dX7_send_58 ?_
              refine lv_istore (lv' := [(6, .int (ai S2 o15 v1.toNatClampNeg)), (5, .int (ai S2 o11 v1.toNatClampNeg)), (0, .ref a0), (1, .int v1), (2, .long w2), (4, .int v4)]) X.1.1 X.1.2.1 dX7_send_59 hl (by decide) rfl (fun ls hl => ?_)
              refine lv_ldc2 (v := (2199023255552 : Int64)) X.1.1 X.1.2.1 X.1.2.2.2.1 (X.w wd_517 rfl _) dX7_send_61 ?_
              refine lv_aload_n X.1.1 X.1.2.1 dX7_send_64 rfl (lv_at hl 2 rfl) ?_
              obtain ⟨o19, e20, h⟩ := h
              refine gf_X7_16 X V k1 e20 dX7_send_65 ?_
              refine lv_iload_n X.1.1 X.1.2.1 dX7_send_68 rfl (lv_at hl 3 rfl) ?_
              obtain ⟨k21, h⟩ := h
              obtain ⟨i22, h⟩ := h
              refine r_iald X V k21 i22 dX7_send_69 ?_
              refine lv_i2l X.1.1 X.1.2.1 dX7_send_70 rfl ?_
              refine lv_ldc2 (v := (4294967295 : Int64)) X.1.1 X.1.2.1 X.1.2.2.2.1 (X.w wd_518 rfl _) dX7_send_71 ?_
              refine lv_land X.1.1 X.1.2.1 dX7_send_74 ?_
              refine lv_lor X.1.1 X.1.2.1 dX7_send_75 ?_
              refine lv_lstore (lv' := [(7, .long ((2199023255552 : Int64) ||| ((ai S2 o19 v1.toNatClampNeg).toInt64 &&& (4294967295 : Int64)))), (6, .int (ai S2 o15 v1.toNatClampNeg)), (5, .int (ai S2 o11 v1.toNatClampNeg)), (0, .ref a0), (1, .int v1), (2, .long w2), (4, .int v4)]) X.1.1 X.1.2.1 dX7_send_76 hl (by decide) rfl (fun ls hl => ?_)
              refine lv_aload_n X.1.1 X.1.2.1 dX7_send_78 rfl (lv_at hl 3 rfl) ?_
              refine lv_iconst (v := (0 : Int32)) X.1.1 X.1.2.1 dX7_send_79 (by decide) ?_
              refine pf_X7_104 X V k1 dX7_send_80 (fun H locs V => ?_)
              refine lv_bipush (v := (40 : Int32)) X.1.1 X.1.2.1 dX7_send_83 (by decide) ?_
              refine lv_istore (lv' := [(9, .int (40 : Int32)), (7, .long ((2199023255552 : Int64) ||| ((ai S2 o19 v1.toNatClampNeg).toInt64 &&& (4294967295 : Int64)))), (6, .int (ai S2 o15 v1.toNatClampNeg)), (5, .int (ai S2 o11 v1.toNatClampNeg)), (0, .ref a0), (1, .int v1), (2, .long w2), (4, .int v4)]) X.1.1 X.1.2.1 dX7_send_85 hl (by decide) rfl (fun ls hl => ?_)
              obtain ⟨n9, h⟩ := h
              exact sl_X7_send_87 l D ka sz Z post X hr n9 (sfi S2 52 a0 (0 : Int32)) a0 v1 w2 v4 (ai S2 o11 v1.toNatClampNeg) (ai S2 o15 v1.toNatClampNeg) ((2199023255552 : Int64) ||| ((ai S2 o19 v1.toNatClampNeg).toInt64 &&& (4294967295 : Int64))) (40 : Int32) h _ _ _ V (lv_sub hl [4, 5, 6, 7, 3, 2, 1, 0] rfl)
            · have h := h.2 c10
              refine lv_iconst (v := (-1 : Int32)) X.1.1 X.1.2.1 dX7_send_43 (by decide) ?_
              exact W.iret X.1.1 X.1.2.1 hr (fun t ht _ => V.q (r := (-1 : Int32)) h ht) V.2.1.2.2 dX7_send_44 X.1.2.2.2.2
abbrev rm_X7_look : Room := { frames := 2, cells := 0, slots := 0, locals := 53 }
def wp_X7_look_177 : Nat → (Int32 → HS → Prop) → HS → Nat → Int32 → Int32 → Int32 → Int32 → Int32 → Prop
  | 0, _, _, _, _, _, _, _, _ => False
  | n + 1, post, S, b0, x1, x2, x3, x4, x5 => kd S b0 = 8 ∧ ((((fi S 52 b0) ≤ x5 → ∃ o52 : Nat, fr S 51 b0 = some o52 ∧ (kd S o52 / 32 = 2 ∧ (vp_in (6 : Int32) (ln S o52) ∧ (((¬ ((ai S o52 (6 : Int32).toNatClampNeg) &&& (1 : Int32)) = (1 : Int32) → ∃ o57 : Nat, fr S 51 b0 = some o57 ∧ (wp_X7_macAt (fun r60 S59 => wp_X7_learn (fun _ S62 => ∃ o65 : Nat, fr S62 51 b0 = some o65 ∧ (wp_X7_macAt (fun r68 S67 => wp_X7_find (fun r71 S70 => ∃ o73 : Nat, fr S70 51 b0 = some o73 ∧ (kd S70 o73 / 32 = 2 ∧ (vp_in (0 : Int32) (ln S70 o73) ∧ (((((ai S70 o73 (0 : Int32).toNatClampNeg) &&& (1 : Int32)) = (1 : Int32) → wp_X7_comesToAll (fun _ S78 => post (0 : Int32) S78) S70 b0 x1 x3 (-1 : Int32)) ∧ (¬ ((ai S70 o73 (0 : Int32).toNatClampNeg) &&& (1 : Int32)) = (1 : Int32) → ((¬ r71 = (-1 : Int32) → ∃ o82 : Nat, fr S70 40 b0 = some o82 ∧ (kd S70 o82 / 32 = 1 ∧ (vp_in r71 (ln S70 o82) ∧ (((0 ≤ (ai S70 o82 r71.toNatClampNeg) → ∃ o87 : Nat, fr S70 29 b0 = some o87 ∧ (∃ o89 : Nat, fr S70 40 b0 = some o89 ∧ (kd S70 o89 / 32 = 1 ∧ (vp_in r71 (ln S70 o89) ∧ (kd S70 o87 / 32 = 1 ∧ (vp_in (ai S70 o89 r71.toNatClampNeg) (ln S70 o87) ∧ (((¬ (ai S70 o87 (ai S70 o89 r71.toNatClampNeg).toNatClampNeg) = x1 → post (0 : Int32) S70) ∧ ((ai S70 o87 (ai S70 o89 r71.toNatClampNeg).toNatClampNeg) = x1 → ∃ o96 : Nat, fr S70 40 b0 = some o96 ∧ (kd S70 o96 / 32 = 1 ∧ (vp_in r71 (ln S70 o96) ∧ (wp_X7_comesTo (fun _ S100 => post (0 : Int32) S100) S70 b0 (ai S70 o96 r71.toNatClampNeg))))))))))))) ∧ (¬ 0 ≤ (ai S70 o82 r71.toNatClampNeg) → post (9 : Int32) S70)))))) ∧ (r71 = (-1 : Int32) → wp_X7_comesToAll (fun _ S103 => post (0 : Int32) S103) S70 b0 x1 x3 (-1 : Int32))))))))) S67 b0 x1 x3 r68) S62 b0 o65 (0 : Int32))) S59 b0 x1 x3 r60 ((-1 : Int32) - x4)) S b0 o57 (6 : Int32))) ∧ (((ai S o52 (6 : Int32).toNatClampNeg) &&& (1 : Int32)) = (1 : Int32) → post (8 : Int32) S)))))) ∧ (¬ (fi S 52 b0) ≤ x5 → ∃ o106 : Nat, fr S 51 b0 = some o106 ∧ (∃ o108 : Nat, fr S 49 b0 = some o108 ∧ (kd S o108 / 32 = 2 ∧ (vp_in ((x2 + (4 : Int32)) + x5) (ln S o108) ∧ (kd S o106 / 32 = 2 ∧ (vp_in x5 (ln S o106) ∧ (wp_X7_look_177 n post (sai S o106 x5.toNatClampNeg ((ai S o108 ((x2 + (4 : Int32)) + x5).toNatClampNeg).toInt8.toInt32)) b0 x1 x2 x3 x4 (x5 + (1 : Int32)))))))))))
set_option maxHeartbeats 400000 in
set_option maxRecDepth 100000 in
theorem sl_X7_look_177 (l : Launch) (D : va_G) (ka : Nat → ClassId) (sz : Nat) (Z : HS) (post : Int32 → HS → Prop) {p : Program} {e : Env} {s : State} {m : MethodId} {args : Array Value} {below : List Frame} {meth : Method} {c : Code} (X : Cx p s m meth c cX7_look 6 RX7 D ka Z (fA Z sz)) (hr : meth.sig.returnType = (some .int))  : ∀ (n : Nat), ∀ (S : HS) (b0 : Nat) (x1 : Int32) (x2 : Int32) (x3 : Int32) (x4 : Int32) (x5 : Int32), wp_X7_look_177 n post S b0 x1 x2 x3 x4 x5 → ∀ (H : Heap) (locs : List Loc) (ls : Array Slot), Hv D ka Z s (fA Z sz) S H locs → lv_has ls 6 [(0, .ref b0), (1, .int x1), (2, .int x2), (3, .int x3), (4, .int x4), (5, .int x5)] → W p l e rm_X7_look s m args below meth c H locs 0 0 (MQ below (Qx eI post D ka Z sz) args s 0 0 (fA Z sz)) (F0 m 177 ls []) := by
  intro n
  induction n with
  | zero => intro S b0 x1 x2 x3 x4 x5 h; exact h.elim
  | succ n ih =>
    intro S b0 x1 x2 x3 x4 x5 h H locs ls V hl
    refine lv_iload X.1.1 X.1.2.1 dX7_look_177 (lv_at hl 5 rfl) ?_
    refine lv_aload_n X.1.1 X.1.2.1 dX7_look_179 rfl (lv_at hl 0 rfl) ?_
    obtain ⟨k50, h⟩ := h
    refine gf_X7_104 X V k50 dX7_look_180 ?_
    refine lv_icmp_ge (tgt := 210) X.1.1 X.1.2.1 dX7_look_183 (by decide) (fun c51 => ?_) (fun c51 => ?_)
    · have h := h.1 c51
      refine lv_aload_n X.1.1 X.1.2.1 dX7_look_210 rfl (lv_at hl 0 rfl) ?_
      obtain ⟨o52, e53, h⟩ := h
      refine gf_X7_69 X V k50 e53 dX7_look_211 ?_
      refine lv_bipush (v := (6 : Int32)) X.1.1 X.1.2.1 dX7_look_214 (by decide) ?_
      obtain ⟨k54, h⟩ := h
      obtain ⟨i55, h⟩ := h
      refine r_bald X V k54 i55 dX7_look_216 ?_
      refine lv_iconst (v := (1 : Int32)) X.1.1 X.1.2.1 dX7_look_217 (by decide) ?_
      refine lv_iand X.1.1 X.1.2.1 dX7_look_218 ?_
      refine lv_iconst (v := (1 : Int32)) X.1.1 X.1.2.1 dX7_look_219 (by decide) ?_
      refine lv_icmp_ne (tgt := 226) X.1.1 X.1.2.1 dX7_look_220 (by decide) (fun c56 => ?_) (fun c56 => ?_)
      · have h := h.1 c56
        refine lv_aload_n X.1.1 X.1.2.1 dX7_look_226 rfl (lv_at hl 0 rfl) ?_
        refine lv_iload_n X.1.1 X.1.2.1 dX7_look_227 rfl (lv_at hl 1 rfl) ?_
        refine lv_iload_n X.1.1 X.1.2.1 dX7_look_228 rfl (lv_at hl 3 rfl) ?_
        refine lv_aload_n X.1.1 X.1.2.1 dX7_look_229 rfl (lv_at hl 0 rfl) ?_
        refine lv_aload_n X.1.1 X.1.2.1 dX7_look_230 rfl (lv_at hl 0 rfl) ?_
        obtain ⟨o57, e58, h⟩ := h
        refine gf_X7_69 X V k50 e58 dX7_look_231 ?_
        refine lv_bipush (v := (6 : Int32)) X.1.1 X.1.2.1 dX7_look_234 (by decide) ?_
        refine r_callV (k := 8) (n := 2) (As := [.ref o57, .int (6 : Int32)]) X V (sd_X7_macAt l D ka _ S _ b0 o57 (6 : Int32) h) k50 (by decide) (by decide) rfl wd_539 wd_540 wd_447 wd_541 wd_542 rfl rfl (by decide +kernel) ⟨Nat.le_of_ble_eq_true rfl, Nat.le_of_ble_eq_true rfl⟩ rfl hl.1 rfl (Nat.le_of_ble_eq_true rfl) dX7_look_236 ⟨show 0 ≤ 0 by omega, show 0 ≤ 0 by omega⟩ (fun r60 S59 H locs h m61 V => ?_)
        have k50 := m61.k k50 (by decide)
        have k54 := m61.t k54 (by decide)
        refine lv_iconst (v := (-1 : Int32)) X.1.1 X.1.2.1 dX7_look_239 (by decide) ?_
        refine lv_iload X.1.1 X.1.2.1 dX7_look_240 (lv_at hl 4 rfl) ?_
        refine lv_isub X.1.1 X.1.2.1 dX7_look_242 ?_
        refine r_callV (k := 8) (n := 4) (As := [.int x1, .int x3, .long r60, .int ((-1 : Int32) - x4)]) X V (sd_X7_learn l D ka _ S59 _ b0 x1 x3 r60 ((-1 : Int32) - x4) h) k50 (by decide) (by decide) rfl wd_519 wd_520 wd_447 wd_521 wd_522 rfl rfl (by decide +kernel) ⟨Nat.le_of_ble_eq_true rfl, Nat.le_of_ble_eq_true rfl⟩ rfl hl.1 rfl (Nat.le_of_ble_eq_true rfl) dX7_look_243 ⟨show 0 ≤ 0 by omega, show 0 ≤ 0 by omega⟩ (fun r63 S62 H locs h m64 V => ?_)
        have k50 := m64.k k50 (by decide)
        have k54 := m64.t k54 (by decide)
        refine lv_aload_n X.1.1 X.1.2.1 dX7_look_246 rfl (lv_at hl 0 rfl) ?_
        refine lv_iload_n X.1.1 X.1.2.1 dX7_look_247 rfl (lv_at hl 1 rfl) ?_
        refine lv_iload_n X.1.1 X.1.2.1 dX7_look_248 rfl (lv_at hl 3 rfl) ?_
        refine lv_aload_n X.1.1 X.1.2.1 dX7_look_249 rfl (lv_at hl 0 rfl) ?_
        refine lv_aload_n X.1.1 X.1.2.1 dX7_look_250 rfl (lv_at hl 0 rfl) ?_
        obtain ⟨o65, e66, h⟩ := h
        refine gf_X7_69 X V k50 e66 dX7_look_251 ?_
        refine lv_iconst (v := (0 : Int32)) X.1.1 X.1.2.1 dX7_look_254 (by decide) ?_
        refine r_callV (k := 8) (n := 2) (As := [.ref o65, .int (0 : Int32)]) X V (sd_X7_macAt l D ka _ S62 _ b0 o65 (0 : Int32) h) k50 (by decide) (by decide) rfl wd_539 wd_540 wd_447 wd_541 wd_542 rfl rfl (by decide +kernel) ⟨Nat.le_of_ble_eq_true rfl, Nat.le_of_ble_eq_true rfl⟩ rfl hl.1 rfl (Nat.le_of_ble_eq_true rfl) dX7_look_255 ⟨show 0 ≤ 0 by omega, show 0 ≤ 0 by omega⟩ (fun r68 S67 H locs h m69 V => ?_)
        have k50 := m69.k k50 (by decide)
        have k54 := m69.t k54 (by decide)
        refine r_callV (k := 8) (n := 3) (As := [.int x1, .int x3, .long r68]) X V (sd_X7_find l D ka _ S67 _ b0 x1 x3 r68 h) k50 (by decide) (by decide) rfl wd_465 wd_466 wd_447 wd_467 wd_468 rfl rfl (by decide +kernel) ⟨Nat.le_of_ble_eq_true rfl, Nat.le_of_ble_eq_true rfl⟩ rfl hl.1 rfl (Nat.le_of_ble_eq_true rfl) dX7_look_258 ⟨show 0 ≤ 0 by omega, show 0 ≤ 0 by omega⟩ (fun r71 S70 H locs h m72 V => ?_)
        have k50 := m72.k k50 (by decide)
        have k54 := m72.t k54 (by decide)
        refine lv_istore (lv' := [(5, .int r71), (0, .ref b0), (1, .int x1), (2, .int x2), (3, .int x3), (4, .int x4)]) X.1.1 X.1.2.1 dX7_look_261 hl (by decide) rfl (fun ls hl => ?_)
        refine lv_aload_n X.1.1 X.1.2.1 dX7_look_263 rfl (lv_at hl 1 rfl) ?_
        obtain ⟨o73, e74, h⟩ := h
        refine gf_X7_69 X V k50 e74 dX7_look_264 ?_
        refine lv_iconst (v := (0 : Int32)) X.1.1 X.1.2.1 dX7_look_267 (by decide) ?_
        obtain ⟨k75, h⟩ := h
        obtain ⟨i76, h⟩ := h
        refine r_bald X V k75 i76 dX7_look_268 ?_
        refine lv_iconst (v := (1 : Int32)) X.1.1 X.1.2.1 dX7_look_269 (by decide) ?_
        refine lv_iand X.1.1 X.1.2.1 dX7_look_270 ?_
        refine lv_iconst (v := (1 : Int32)) X.1.1 X.1.2.1 dX7_look_271 (by decide) ?_
        refine lv_icmp_eq (tgt := 281) X.1.1 X.1.2.1 dX7_look_272 (by decide) (fun c77 => ?_) (fun c77 => ?_)
        · have h := h.1 c77
          refine lv_aload_n X.1.1 X.1.2.1 dX7_look_281 rfl (lv_at hl 1 rfl) ?_
          refine lv_iload_n X.1.1 X.1.2.1 dX7_look_282 rfl (lv_at hl 2 rfl) ?_
          refine lv_iload_n X.1.1 X.1.2.1 dX7_look_283 rfl (lv_at hl 4 rfl) ?_
          refine lv_iconst (v := (-1 : Int32)) X.1.1 X.1.2.1 dX7_look_284 (by decide) ?_
          refine r_callV (k := 8) (n := 3) (As := [.int x1, .int x3, .int (-1 : Int32)]) X V (sd_X7_comesToAll l D ka _ S70 _ b0 x1 x3 (-1 : Int32) h) k50 (by decide) (by decide) rfl wd_523 wd_524 wd_447 wd_525 wd_526 rfl rfl (by decide +kernel) ⟨Nat.le_of_ble_eq_true rfl, Nat.le_of_ble_eq_true rfl⟩ rfl hl.1 rfl (Nat.le_of_ble_eq_true rfl) dX7_look_285 ⟨show 0 ≤ 0 by omega, show 0 ≤ 0 by omega⟩ (fun r79 S78 H locs h m80 V => ?_)
          have k50 := m80.k k50 (by decide)
          have k54 := m80.t k54 (by decide)
          have k75 := m80.t k75 (by decide)
          refine lv_goto (tgt := 331) X.1.1 X.1.2.1 dX7_look_288 (by decide) ?_
          refine lv_iconst (v := (0 : Int32)) X.1.1 X.1.2.1 dX7_look_331 (by decide) ?_
          exact W.iret X.1.1 X.1.2.1 hr (fun t ht _ => V.q (r := (0 : Int32)) h ht) V.2.1.2.2 dX7_look_332 X.1.2.2.2.2
        · have h := h.2 c77
          refine lv_iload X.1.1 X.1.2.1 dX7_look_275 (lv_at hl 0 rfl) ?_
          refine lv_iconst (v := (-1 : Int32)) X.1.1 X.1.2.1 dX7_look_277 (by decide) ?_
          refine lv_icmp_ne (tgt := 291) X.1.1 X.1.2.1 dX7_look_278 (by decide) (fun c81 => ?_) (fun c81 => ?_)
          · have h := h.1 c81
            refine lv_aload_n X.1.1 X.1.2.1 dX7_look_291 rfl (lv_at hl 1 rfl) ?_
            obtain ⟨o82, e83, h⟩ := h
            refine gf_X7_45 X V k50 e83 dX7_look_292 ?_
            refine lv_iload X.1.1 X.1.2.1 dX7_look_295 (lv_at hl 0 rfl) ?_
            obtain ⟨k84, h⟩ := h
            obtain ⟨i85, h⟩ := h
            refine r_iald X V k84 i85 dX7_look_297 ?_
            refine lv_if_ge (tgt := 304) X.1.1 X.1.2.1 dX7_look_298 (by decide) (fun c86 => ?_) (fun c86 => ?_)
            · have h := h.1 c86
              refine lv_aload_n X.1.1 X.1.2.1 dX7_look_304 rfl (lv_at hl 1 rfl) ?_
              obtain ⟨o87, e88, h⟩ := h
              refine gf_X7_7 X V k50 e88 dX7_look_305 ?_
              refine lv_aload_n X.1.1 X.1.2.1 dX7_look_308 rfl (lv_at hl 1 rfl) ?_
              obtain ⟨o89, e90, h⟩ := h
              refine gf_X7_45 X V k50 e90 dX7_look_309 ?_
              refine lv_iload X.1.1 X.1.2.1 dX7_look_312 (lv_at hl 0 rfl) ?_
              obtain ⟨k91, h⟩ := h
              obtain ⟨i92, h⟩ := h
              refine r_iald X V k91 i92 dX7_look_314 ?_
              obtain ⟨k93, h⟩ := h
              obtain ⟨i94, h⟩ := h
              refine r_iald X V k93 i94 dX7_look_315 ?_
              refine lv_iload_n X.1.1 X.1.2.1 dX7_look_316 rfl (lv_at hl 2 rfl) ?_
              refine lv_icmp_ne (tgt := 331) X.1.1 X.1.2.1 dX7_look_317 (by decide) (fun c95 => ?_) (fun c95 => ?_)
              · have h := h.1 c95
                refine lv_iconst (v := (0 : Int32)) X.1.1 X.1.2.1 dX7_look_331 (by decide) ?_
                exact W.iret X.1.1 X.1.2.1 hr (fun t ht _ => V.q (r := (0 : Int32)) h ht) V.2.1.2.2 dX7_look_332 X.1.2.2.2.2
              · have h := h.2 c95
                refine lv_aload_n X.1.1 X.1.2.1 dX7_look_320 rfl (lv_at hl 1 rfl) ?_
                refine lv_aload_n X.1.1 X.1.2.1 dX7_look_321 rfl (lv_at hl 1 rfl) ?_
                obtain ⟨o96, e97, h⟩ := h
                refine gf_X7_45 X V k50 e97 dX7_look_322 ?_
                refine lv_iload X.1.1 X.1.2.1 dX7_look_325 (lv_at hl 0 rfl) ?_
                obtain ⟨k98, h⟩ := h
                obtain ⟨i99, h⟩ := h
                refine r_iald X V k98 i99 dX7_look_327 ?_
                refine r_callV (k := 8) (n := 1) (As := [.int (ai S70 o96 r71.toNatClampNeg)]) X V (sd_X7_comesTo l D ka _ S70 _ b0 (ai S70 o96 r71.toNatClampNeg) h) k50 (by decide) (by decide) rfl wd_477 wd_478 wd_447 wd_479 wd_480 rfl rfl (by decide +kernel) ⟨Nat.le_of_ble_eq_true rfl, Nat.le_of_ble_eq_true rfl⟩ rfl hl.1 rfl (Nat.le_of_ble_eq_true rfl) dX7_look_328 ⟨show 0 ≤ 0 by omega, show 0 ≤ 0 by omega⟩ (fun r101 S100 H locs h m102 V => ?_)
                have k50 := m102.k k50 (by decide)
                have k54 := m102.t k54 (by decide)
                have k75 := m102.t k75 (by decide)
                have k84 := m102.t k84 (by decide)
                have k91 := m102.t k91 (by decide)
                have k93 := m102.t k93 (by decide)
                have k98 := m102.t k98 (by decide)
                refine lv_iconst (v := (0 : Int32)) X.1.1 X.1.2.1 dX7_look_331 (by decide) ?_
                exact W.iret X.1.1 X.1.2.1 hr (fun t ht _ => V.q (r := (0 : Int32)) h ht) V.2.1.2.2 dX7_look_332 X.1.2.2.2.2
            · have h := h.2 c86
              refine lv_bipush (v := (9 : Int32)) X.1.1 X.1.2.1 dX7_look_301 (by decide) ?_
              exact W.iret X.1.1 X.1.2.1 hr (fun t ht _ => V.q (r := (9 : Int32)) h ht) V.2.1.2.2 dX7_look_303 X.1.2.2.2.2
          · have h := h.2 c81
            refine lv_aload_n X.1.1 X.1.2.1 dX7_look_281 rfl (lv_at hl 1 rfl) ?_
            refine lv_iload_n X.1.1 X.1.2.1 dX7_look_282 rfl (lv_at hl 2 rfl) ?_
            refine lv_iload_n X.1.1 X.1.2.1 dX7_look_283 rfl (lv_at hl 4 rfl) ?_
            refine lv_iconst (v := (-1 : Int32)) X.1.1 X.1.2.1 dX7_look_284 (by decide) ?_
            refine r_callV (k := 8) (n := 3) (As := [.int x1, .int x3, .int (-1 : Int32)]) X V (sd_X7_comesToAll l D ka _ S70 _ b0 x1 x3 (-1 : Int32) h) k50 (by decide) (by decide) rfl wd_523 wd_524 wd_447 wd_525 wd_526 rfl rfl (by decide +kernel) ⟨Nat.le_of_ble_eq_true rfl, Nat.le_of_ble_eq_true rfl⟩ rfl hl.1 rfl (Nat.le_of_ble_eq_true rfl) dX7_look_285 ⟨show 0 ≤ 0 by omega, show 0 ≤ 0 by omega⟩ (fun r104 S103 H locs h m105 V => ?_)
            have k50 := m105.k k50 (by decide)
            have k54 := m105.t k54 (by decide)
            have k75 := m105.t k75 (by decide)
            refine lv_goto (tgt := 331) X.1.1 X.1.2.1 dX7_look_288 (by decide) ?_
            refine lv_iconst (v := (0 : Int32)) X.1.1 X.1.2.1 dX7_look_331 (by decide) ?_
            exact W.iret X.1.1 X.1.2.1 hr (fun t ht _ => V.q (r := (0 : Int32)) h ht) V.2.1.2.2 dX7_look_332 X.1.2.2.2.2
      · have h := h.2 c56
        refine lv_bipush (v := (8 : Int32)) X.1.1 X.1.2.1 dX7_look_223 (by decide) ?_
        exact W.iret X.1.1 X.1.2.1 hr (fun t ht _ => V.q (r := (8 : Int32)) h ht) V.2.1.2.2 dX7_look_225 X.1.2.2.2.2
    · have h := h.2 c51
      refine lv_aload_n X.1.1 X.1.2.1 dX7_look_186 rfl (lv_at hl 0 rfl) ?_
      obtain ⟨o106, e107, h⟩ := h
      refine gf_X7_69 X V k50 e107 dX7_look_187 ?_
      refine lv_iload X.1.1 X.1.2.1 dX7_look_190 (lv_at hl 5 rfl) ?_
      refine lv_aload_n X.1.1 X.1.2.1 dX7_look_192 rfl (lv_at hl 0 rfl) ?_
      obtain ⟨o108, e109, h⟩ := h
      refine gf_X7_66 X V k50 e109 dX7_look_193 ?_
      refine lv_iload_n X.1.1 X.1.2.1 dX7_look_196 rfl (lv_at hl 2 rfl) ?_
      refine lv_iconst (v := (4 : Int32)) X.1.1 X.1.2.1 dX7_look_197 (by decide) ?_
      refine lv_iadd X.1.1 X.1.2.1 dX7_look_198 ?_
      refine lv_iload X.1.1 X.1.2.1 dX7_look_199 (lv_at hl 5 rfl) ?_
      refine lv_iadd X.1.1 X.1.2.1 dX7_look_201 ?_
      obtain ⟨k110, h⟩ := h
      obtain ⟨i111, h⟩ := h
      refine r_bald X V k110 i111 dX7_look_202 ?_
      obtain ⟨k112, h⟩ := h
      obtain ⟨i113, h⟩ := h
      refine r_bast X V k112 i113 dX7_look_203 (fun H locs V => ?_)
      refine lv_iinc (v := (x5 + (1 : Int32))) (lv' := [(5, .int (x5 + (1 : Int32))), (0, .ref b0), (1, .int x1), (2, .int x2), (3, .int x3), (4, .int x4)]) X.1.1 X.1.2.1 dX7_look_204 hl (k := 5) rfl (congrArg (HAdd.hAdd _) (by decide)) (by decide) rfl (fun ls hl => ?_)
      refine lv_goto (tgt := 177) X.1.1 X.1.2.1 dX7_look_207 (by decide) ?_
      exact ih (sai S o106 x5.toNatClampNeg ((ai S o108 ((x2 + (4 : Int32)) + x5).toNatClampNeg).toInt8.toInt32)) b0 x1 x2 x3 x4 (x5 + (1 : Int32)) h _ _ _ V (lv_sub hl [1, 2, 3, 4, 5, 0] rfl)
def wp_X7_look_91a (post : Int32 → HS → Prop) (S : HS) (b0 : Nat) (x1 : Int32) : Prop := kd S b0 = 8 ∧ (wp_X7_netPlace (fun r28 S27 => ((¬ r28 = (-1 : Int32) → wp_X7_numberAt (fun r32 S31 => wp_X7_has (fun r35 S34 => ((¬ r35 = 0 → wp_X7_numberAt (fun r39 S38 => wp_X7_isEndpoint (fun r42 S41 => ((r42 = 0 → post (7 : Int32) S41) ∧ (¬ r42 = 0 → (((r39 - (167772161 : Int32)) = x1 → post (7 : Int32) S41) ∧ (¬ (r39 - (167772161 : Int32)) = x1 → wp_X7_has (fun r47 S46 => ((¬ r47 = 0 → ∃ n9, wp_X7_look_177 n9 post (sfi S46 52 b0 (((fi S46 50 b0) - r28) - (4 : Int32))) b0 x1 r28 r32 (r39 - (167772161 : Int32)) (0 : Int32)) ∧ (r47 = 0 → post (7 : Int32) S46))) S41 b0 (r39 - (167772161 : Int32)) r32))))) S38 b0 (r39 - (167772161 : Int32))) S34 b0 (12 : Int32) (4 : Int32)) ∧ (r35 = 0 → post (6 : Int32) S34))) S31 b0 x1 r32) S27 b0 r28 (3 : Int32)) ∧ (r28 = (-1 : Int32) → post (5 : Int32) S27))) S b0)
set_option maxHeartbeats 400000 in
set_option maxRecDepth 100000 in
theorem sl_X7_look_91a (l : Launch) (D : va_G) (ka : Nat → ClassId) (sz : Nat) (Z : HS) (post : Int32 → HS → Prop) {p : Program} {e : Env} {s : State} {m : MethodId} {args : Array Value} {below : List Frame} {meth : Method} {c : Code} (X : Cx p s m meth c cX7_look 6 RX7 D ka Z (fA Z sz)) (hr : meth.sig.returnType = (some .int))  : ∀ (S : HS) (b0 : Nat) (x1 : Int32), wp_X7_look_91a post S b0 x1 → ∀ (H : Heap) (locs : List Loc) (ls : Array Slot), Hv D ka Z s (fA Z sz) S H locs → lv_has ls 6 [(0, .ref b0), (1, .int x1)] → W p l e rm_X7_look s m args below meth c H locs 0 0 (MQ below (Qx eI post D ka Z sz) args s 0 0 (fA Z sz)) (F0 m 91 ls []) := by
  intro S b0 x1 h H locs ls V hl
  refine lv_aload_n X.1.1 X.1.2.1 dX7_look_91 rfl (lv_at hl 0 rfl) ?_
  obtain ⟨k26, h⟩ := h
  refine r_callV (k := 8) (n := 0) (As := []) X V (sd_X7_netPlace l D ka _ S _ b0 h) k26 (by decide) (by decide) rfl wd_535 wd_536 wd_447 wd_537 wd_538 rfl rfl (by decide +kernel) ⟨Nat.le_of_ble_eq_true rfl, Nat.le_of_ble_eq_true rfl⟩ rfl hl.1 rfl (Nat.le_of_ble_eq_true rfl) dX7_look_92 ⟨show 0 ≤ 0 by omega, show 0 ≤ 0 by omega⟩ (fun r28 S27 H locs h m29 V => ?_)
  have k26 := m29.k k26 (by decide)
  refine lv_istore_n (lv' := [(2, .int r28), (0, .ref b0), (1, .int x1)]) X.1.1 X.1.2.1 dX7_look_95 rfl hl (by decide) rfl (fun ls hl => ?_)
  refine lv_iload_n X.1.1 X.1.2.1 dX7_look_96 rfl (lv_at hl 0 rfl) ?_
  refine lv_iconst (v := (-1 : Int32)) X.1.1 X.1.2.1 dX7_look_97 (by decide) ?_
  refine lv_icmp_ne (tgt := 103) X.1.1 X.1.2.1 dX7_look_98 (by decide) (fun c30 => ?_) (fun c30 => ?_)
  · have h := h.1 c30
    refine lv_aload_n X.1.1 X.1.2.1 dX7_look_103 rfl (lv_at hl 1 rfl) ?_
    refine lv_iload_n X.1.1 X.1.2.1 dX7_look_104 rfl (lv_at hl 0 rfl) ?_
    refine lv_iconst (v := (3 : Int32)) X.1.1 X.1.2.1 dX7_look_105 (by decide) ?_
    refine r_callV (k := 8) (n := 2) (As := [.int r28, .int (3 : Int32)]) X V (sd_X7_numberAt l D ka _ S27 _ b0 r28 (3 : Int32) h) k26 (by decide) (by decide) rfl wd_505 wd_506 wd_447 wd_507 wd_508 rfl rfl (by decide +kernel) ⟨Nat.le_of_ble_eq_true rfl, Nat.le_of_ble_eq_true rfl⟩ rfl hl.1 rfl (Nat.le_of_ble_eq_true rfl) dX7_look_106 ⟨show 0 ≤ 0 by omega, show 0 ≤ 0 by omega⟩ (fun r32 S31 H locs h m33 V => ?_)
    have k26 := m33.k k26 (by decide)
    refine lv_istore_n (lv' := [(3, .int r32), (2, .int r28), (0, .ref b0), (1, .int x1)]) X.1.1 X.1.2.1 dX7_look_109 rfl hl (by decide) rfl (fun ls hl => ?_)
    refine lv_aload_n X.1.1 X.1.2.1 dX7_look_110 rfl (lv_at hl 2 rfl) ?_
    refine lv_iload_n X.1.1 X.1.2.1 dX7_look_111 rfl (lv_at hl 3 rfl) ?_
    refine lv_iload_n X.1.1 X.1.2.1 dX7_look_112 rfl (lv_at hl 0 rfl) ?_
    refine r_callV (k := 8) (n := 2) (As := [.int x1, .int r32]) X V (sd_X7_has l D ka _ S31 _ b0 x1 r32 h) k26 (by decide) (by decide) rfl wd_527 wd_528 wd_447 wd_529 wd_530 rfl rfl (by decide +kernel) ⟨Nat.le_of_ble_eq_true rfl, Nat.le_of_ble_eq_true rfl⟩ rfl hl.1 rfl (Nat.le_of_ble_eq_true rfl) dX7_look_113 ⟨show 0 ≤ 0 by omega, show 0 ≤ 0 by omega⟩ (fun r35 S34 H locs h m36 V => ?_)
    have k26 := m36.k k26 (by decide)
    refine lv_if_ne (tgt := 122) X.1.1 X.1.2.1 dX7_look_116 (by decide) (fun c37 => ?_) (fun c37 => ?_)
    · have h := h.1 c37
      refine lv_aload_n X.1.1 X.1.2.1 dX7_look_122 rfl (lv_at hl 2 rfl) ?_
      refine lv_bipush (v := (12 : Int32)) X.1.1 X.1.2.1 dX7_look_123 (by decide) ?_
      refine lv_iconst (v := (4 : Int32)) X.1.1 X.1.2.1 dX7_look_125 (by decide) ?_
      refine r_callV (k := 8) (n := 2) (As := [.int (12 : Int32), .int (4 : Int32)]) X V (sd_X7_numberAt l D ka _ S34 _ b0 (12 : Int32) (4 : Int32) h) k26 (by decide) (by decide) rfl wd_505 wd_506 wd_447 wd_507 wd_508 rfl rfl (by decide +kernel) ⟨Nat.le_of_ble_eq_true rfl, Nat.le_of_ble_eq_true rfl⟩ rfl hl.1 rfl (Nat.le_of_ble_eq_true rfl) dX7_look_126 ⟨show 0 ≤ 0 by omega, show 0 ≤ 0 by omega⟩ (fun r39 S38 H locs h m40 V => ?_)
      have k26 := m40.k k26 (by decide)
      refine lv_ldc (v := (167772161 : Int32)) X.1.1 X.1.2.1 X.1.2.2.2.1 (X.w wd_491 rfl _) dX7_look_129 ?_
      refine lv_isub X.1.1 X.1.2.1 dX7_look_131 ?_
      refine lv_istore (lv' := [(4, .int (r39 - (167772161 : Int32))), (3, .int r32), (2, .int r28), (0, .ref b0), (1, .int x1)]) X.1.1 X.1.2.1 dX7_look_132 hl (by decide) rfl (fun ls hl => ?_)
      refine lv_aload_n X.1.1 X.1.2.1 dX7_look_134 rfl (lv_at hl 3 rfl) ?_
      refine lv_iload X.1.1 X.1.2.1 dX7_look_135 (lv_at hl 0 rfl) ?_
      refine r_callV (k := 8) (n := 1) (As := [.int (r39 - (167772161 : Int32))]) X V (sd_X7_isEndpoint l D ka _ S38 _ b0 (r39 - (167772161 : Int32)) h) k26 (by decide) (by decide) rfl wd_445 wd_446 wd_447 wd_448 wd_449 rfl rfl (by decide +kernel) ⟨Nat.le_of_ble_eq_true rfl, Nat.le_of_ble_eq_true rfl⟩ rfl hl.1 rfl (Nat.le_of_ble_eq_true rfl) dX7_look_137 ⟨show 0 ≤ 0 by omega, show 0 ≤ 0 by omega⟩ (fun r42 S41 H locs h m43 V => ?_)
      have k26 := m43.k k26 (by decide)
      refine lv_if_eq (tgt := 159) X.1.1 X.1.2.1 dX7_look_140 (by decide) (fun c44 => ?_) (fun c44 => ?_)
      · have h := h.1 c44
        refine lv_bipush (v := (7 : Int32)) X.1.1 X.1.2.1 dX7_look_159 (by decide) ?_
        exact W.iret X.1.1 X.1.2.1 hr (fun t ht _ => V.q (r := (7 : Int32)) h ht) V.2.1.2.2 dX7_look_161 X.1.2.2.2.2
      · have h := h.2 c44
        refine lv_iload X.1.1 X.1.2.1 dX7_look_143 (lv_at hl 0 rfl) ?_
        refine lv_iload_n X.1.1 X.1.2.1 dX7_look_145 rfl (lv_at hl 4 rfl) ?_
        refine lv_icmp_eq (tgt := 159) X.1.1 X.1.2.1 dX7_look_146 (by decide) (fun c45 => ?_) (fun c45 => ?_)
        · have h := h.1 c45
          refine lv_bipush (v := (7 : Int32)) X.1.1 X.1.2.1 dX7_look_159 (by decide) ?_
          exact W.iret X.1.1 X.1.2.1 hr (fun t ht _ => V.q (r := (7 : Int32)) h ht) V.2.1.2.2 dX7_look_161 X.1.2.2.2.2
        · have h := h.2 c45
          refine lv_aload_n X.1.1 X.1.2.1 dX7_look_149 rfl (lv_at hl 3 rfl) ?_
          refine lv_iload X.1.1 X.1.2.1 dX7_look_150 (lv_at hl 0 rfl) ?_
          refine lv_iload_n X.1.1 X.1.2.1 dX7_look_152 rfl (lv_at hl 1 rfl) ?_
          refine r_callV (k := 8) (n := 2) (As := [.int (r39 - (167772161 : Int32)), .int r32]) X V (sd_X7_has l D ka _ S41 _ b0 (r39 - (167772161 : Int32)) r32 h) k26 (by decide) (by decide) rfl wd_527 wd_528 wd_447 wd_529 wd_530 rfl rfl (by decide +kernel) ⟨Nat.le_of_ble_eq_true rfl, Nat.le_of_ble_eq_true rfl⟩ rfl hl.1 rfl (Nat.le_of_ble_eq_true rfl) dX7_look_153 ⟨show 0 ≤ 0 by omega, show 0 ≤ 0 by omega⟩ (fun r47 S46 H locs h m48 V => ?_)
          have k26 := m48.k k26 (by decide)
          refine lv_if_ne (tgt := 162) X.1.1 X.1.2.1 dX7_look_156 (by decide) (fun c49 => ?_) (fun c49 => ?_)
          · have h := h.1 c49
            refine lv_aload_n X.1.1 X.1.2.1 dX7_look_162 rfl (lv_at hl 3 rfl) ?_
            refine lv_aload_n X.1.1 X.1.2.1 dX7_look_163 rfl (lv_at hl 3 rfl) ?_
            refine gf_X7_112 X V k26 dX7_look_164 ?_
            refine lv_iload_n X.1.1 X.1.2.1 dX7_look_167 rfl (lv_at hl 2 rfl) ?_
            refine lv_isub X.1.1 X.1.2.1 dX7_look_168 ?_
            refine lv_iconst (v := (4 : Int32)) X.1.1 X.1.2.1 dX7_look_169 (by decide) ?_
            refine lv_isub X.1.1 X.1.2.1 dX7_look_170 ?_
            refine pf_X7_104 X V k26 dX7_look_171 (fun H locs V => ?_)
            refine lv_iconst (v := (0 : Int32)) X.1.1 X.1.2.1 dX7_look_174 (by decide) ?_
            refine lv_istore (lv' := [(5, .int (0 : Int32)), (4, .int (r39 - (167772161 : Int32))), (3, .int r32), (2, .int r28), (0, .ref b0), (1, .int x1)]) X.1.1 X.1.2.1 dX7_look_175 hl (by decide) rfl (fun ls hl => ?_)
            obtain ⟨n9, h⟩ := h
            exact sl_X7_look_177 l D ka sz Z post X hr n9 (sfi S46 52 b0 (((fi S46 50 b0) - r28) - (4 : Int32))) b0 x1 r28 r32 (r39 - (167772161 : Int32)) (0 : Int32) h _ _ _ V (lv_sub hl [4, 5, 3, 2, 1, 0] rfl)
          · have h := h.2 c49
            refine lv_bipush (v := (7 : Int32)) X.1.1 X.1.2.1 dX7_look_159 (by decide) ?_
            exact W.iret X.1.1 X.1.2.1 hr (fun t ht _ => V.q (r := (7 : Int32)) h ht) V.2.1.2.2 dX7_look_161 X.1.2.2.2.2
    · have h := h.2 c37
      refine lv_bipush (v := (6 : Int32)) X.1.1 X.1.2.1 dX7_look_119 (by decide) ?_
      exact W.iret X.1.1 X.1.2.1 hr (fun t ht _ => V.q (r := (6 : Int32)) h ht) V.2.1.2.2 dX7_look_121 X.1.2.2.2.2
  · have h := h.2 c30
    refine lv_iconst (v := (5 : Int32)) X.1.1 X.1.2.1 dX7_look_101 (by decide) ?_
    exact W.iret X.1.1 X.1.2.1 hr (fun t ht _ => V.q (r := (5 : Int32)) h ht) V.2.1.2.2 dX7_look_102 X.1.2.2.2.2
def wp_X7_look (post : Int32 → HS → Prop) (S : HS) (a0 : Nat) (v1 : Int32) : Prop := kd S a0 = 8 ∧ ((((fi S 50 a0) < (20 : Int32) → post (1 : Int32) S) ∧ (¬ (fi S 50 a0) < (20 : Int32) → ∃ o3 : Nat, fr S 49 a0 = some o3 ∧ (kd S o3 / 32 = 2 ∧ (vp_in (0 : Int32) (ln S o3) ∧ (((¬ (ai S o3 (0 : Int32).toNatClampNeg) = (69 : Int32) → post (1 : Int32) S) ∧ ((ai S o3 (0 : Int32).toNatClampNeg) = (69 : Int32) → wp_X7_numberAt (fun r9 S8 => ((r9 = (fi S8 50 a0) → ∃ o12 : Nat, fr S8 49 a0 = some o12 ∧ (wp_X7_sum (fun r15 S14 => ((r15 = 0 → wp_X7_numberAt (fun r19 S18 => ((r19 = ((167772161 : Int32) + v1) → wp_X7_numberAt (fun r23 S22 => ((r23 = 0 → wp_X7_look_91a post S22 a0 v1) ∧ (¬ r23 = 0 → wp_X7_numberAt (fun r115 S114 => ((r115 = (16384 : Int32) → wp_X7_look_91a post S114 a0 v1) ∧ (¬ r115 = (16384 : Int32) → post (4 : Int32) S114))) S22 a0 (6 : Int32) (2 : Int32)))) S18 a0 (6 : Int32) (2 : Int32)) ∧ (¬ r19 = ((167772161 : Int32) + v1) → post (3 : Int32) S18))) S14 a0 (16 : Int32) (4 : Int32)) ∧ (¬ r15 = 0 → post (2 : Int32) S14))) S8 o12 (0 : Int32) (20 : Int32))) ∧ (¬ r9 = (fi S8 50 a0) → post (1 : Int32) S8))) S a0 (2 : Int32) (2 : Int32)))))))))
set_option maxHeartbeats 400000 in
set_option maxRecDepth 100000 in
theorem sd_X7_look (l : Launch) (D : va_G) (ka : Nat → ClassId) (sz : Nat) (Z : HS) (post : Int32 → HS → Prop) (a0 : Nat) (v1 : Int32) (h : wp_X7_look post Z a0 v1) : Met l yX7_look [Cond.code yX7_look cX7_look 6 (some .int)] rm_X7_look (Px D ka Z sz [.ref a0, .int v1]) (Qx eI post D ka Z sz) 0 0 (fA Z sz) := by
  refine Met.ofW (cc := cX7_look) (maxL := 6) (ret := (some .int)) (by decide) rfl ?_
  intro p e s m args below meth c s₁ B hml hv
  obtain ⟨rfl, X, V, hsz⟩ := Cx.entry B hml hv
  have hr : meth.sig.returnType = (some .int) := B.returns
  have hl := lv_entry ([.ref a0, .int v1]) (n := 6) (Nat.le_of_ble_eq_true rfl)
  rw [lg_entry_eq]
  generalize (lg_sl ([.ref a0, .int v1]) ++ List.replicate (6 - (lg_sl ([.ref a0, .int v1])).length) Slot.unset).toArray = ls at hl ⊢
  have hl : lv_has ls 6 [(0, .ref a0), (1, .int v1)] := hl
  have h : wp_X7_look post Z a0 v1 := h
  refine lv_aload_n X.1.1 X.1.2.1 dX7_look_0 rfl (lv_at hl 0 rfl) ?_
  obtain ⟨k1, h⟩ := h
  refine gf_X7_112 X V k1 dX7_look_1 ?_
  refine lv_bipush (v := (20 : Int32)) X.1.1 X.1.2.1 dX7_look_4 (by decide) ?_
  refine lv_icmp_lt (tgt := 33) X.1.1 X.1.2.1 dX7_look_6 (by decide) (fun c2 => ?_) (fun c2 => ?_)
  · have h := h.1 c2
    refine lv_iconst (v := (1 : Int32)) X.1.1 X.1.2.1 dX7_look_33 (by decide) ?_
    exact W.iret X.1.1 X.1.2.1 hr (fun t ht _ => V.q (r := (1 : Int32)) h ht) V.2.1.2.2 dX7_look_34 X.1.2.2.2.2
  · have h := h.2 c2
    refine lv_aload_n X.1.1 X.1.2.1 dX7_look_9 rfl (lv_at hl 0 rfl) ?_
    obtain ⟨o3, e4, h⟩ := h
    refine gf_X7_66 X V k1 e4 dX7_look_10 ?_
    refine lv_iconst (v := (0 : Int32)) X.1.1 X.1.2.1 dX7_look_13 (by decide) ?_
    obtain ⟨k5, h⟩ := h
    obtain ⟨i6, h⟩ := h
    refine r_bald X V k5 i6 dX7_look_14 ?_
    refine lv_bipush (v := (69 : Int32)) X.1.1 X.1.2.1 dX7_look_15 (by decide) ?_
    refine lv_icmp_ne (tgt := 33) X.1.1 X.1.2.1 dX7_look_17 (by decide) (fun c7 => ?_) (fun c7 => ?_)
    · have h := h.1 c7
      refine lv_iconst (v := (1 : Int32)) X.1.1 X.1.2.1 dX7_look_33 (by decide) ?_
      exact W.iret X.1.1 X.1.2.1 hr (fun t ht _ => V.q (r := (1 : Int32)) h ht) V.2.1.2.2 dX7_look_34 X.1.2.2.2.2
    · have h := h.2 c7
      refine lv_aload_n X.1.1 X.1.2.1 dX7_look_20 rfl (lv_at hl 0 rfl) ?_
      refine lv_iconst (v := (2 : Int32)) X.1.1 X.1.2.1 dX7_look_21 (by decide) ?_
      refine lv_iconst (v := (2 : Int32)) X.1.1 X.1.2.1 dX7_look_22 (by decide) ?_
      refine r_callV (k := 8) (n := 2) (As := [.int (2 : Int32), .int (2 : Int32)]) X V (sd_X7_numberAt l D ka _ Z _ a0 (2 : Int32) (2 : Int32) h) k1 (by decide) (by decide) rfl wd_505 wd_506 wd_447 wd_507 wd_508 rfl rfl (by decide +kernel) ⟨Nat.le_of_ble_eq_true rfl, Nat.le_of_ble_eq_true rfl⟩ rfl hl.1 rfl (Nat.le_of_ble_eq_true rfl) dX7_look_23 ⟨show 0 ≤ 0 by omega, show 0 ≤ 0 by omega⟩ (fun r9 S8 H locs h m10 V => ?_)
      have k1 := m10.k k1 (by decide)
      have k5 := m10.t k5 (by decide)
      refine lv_aload_n X.1.1 X.1.2.1 dX7_look_26 rfl (lv_at hl 0 rfl) ?_
      refine gf_X7_112 X V k1 dX7_look_27 ?_
      refine lv_icmp_eq (tgt := 35) X.1.1 X.1.2.1 dX7_look_30 (by decide) (fun c11 => ?_) (fun c11 => ?_)
      · have h := h.1 c11
        refine lv_aload_n X.1.1 X.1.2.1 dX7_look_35 rfl (lv_at hl 0 rfl) ?_
        obtain ⟨o12, e13, h⟩ := h
        refine gf_X7_66 X V k1 e13 dX7_look_36 ?_
        refine lv_iconst (v := (0 : Int32)) X.1.1 X.1.2.1 dX7_look_39 (by decide) ?_
        refine lv_bipush (v := (20 : Int32)) X.1.1 X.1.2.1 dX7_look_40 (by decide) ?_
        refine r_callS (n := 3) (As := [.ref o12, .int (0 : Int32), .int (20 : Int32)]) X V (sd_X7_sum l D ka _ S8 _ o12 (0 : Int32) (20 : Int32) h) wd_497 wd_498 wd_447 wd_499 rfl rfl (by decide +kernel) ⟨Nat.le_of_ble_eq_true rfl, Nat.le_of_ble_eq_true rfl⟩ rfl hl.1 rfl (Nat.le_of_ble_eq_true rfl) dX7_look_42 ⟨show 0 ≤ 0 by omega, show 0 ≤ 0 by omega⟩ (fun r15 S14 H locs h m16 V => ?_)
        have k1 := m16.k k1 (by decide)
        have k5 := m16.t k5 (by decide)
        refine lv_if_eq (tgt := 50) X.1.1 X.1.2.1 dX7_look_45 (by decide) (fun c17 => ?_) (fun c17 => ?_)
        · have h := h.1 c17
          refine lv_aload_n X.1.1 X.1.2.1 dX7_look_50 rfl (lv_at hl 0 rfl) ?_
          refine lv_bipush (v := (16 : Int32)) X.1.1 X.1.2.1 dX7_look_51 (by decide) ?_
          refine lv_iconst (v := (4 : Int32)) X.1.1 X.1.2.1 dX7_look_53 (by decide) ?_
          refine r_callV (k := 8) (n := 2) (As := [.int (16 : Int32), .int (4 : Int32)]) X V (sd_X7_numberAt l D ka _ S14 _ a0 (16 : Int32) (4 : Int32) h) k1 (by decide) (by decide) rfl wd_505 wd_506 wd_447 wd_507 wd_508 rfl rfl (by decide +kernel) ⟨Nat.le_of_ble_eq_true rfl, Nat.le_of_ble_eq_true rfl⟩ rfl hl.1 rfl (Nat.le_of_ble_eq_true rfl) dX7_look_54 ⟨show 0 ≤ 0 by omega, show 0 ≤ 0 by omega⟩ (fun r19 S18 H locs h m20 V => ?_)
          have k1 := m20.k k1 (by decide)
          have k5 := m20.t k5 (by decide)
          refine lv_ldc (v := (167772161 : Int32)) X.1.1 X.1.2.1 X.1.2.2.2.1 (X.w wd_491 rfl _) dX7_look_57 ?_
          refine lv_iload_n X.1.1 X.1.2.1 dX7_look_59 rfl (lv_at hl 1 rfl) ?_
          refine lv_iadd X.1.1 X.1.2.1 dX7_look_60 ?_
          refine lv_icmp_eq (tgt := 66) X.1.1 X.1.2.1 dX7_look_61 (by decide) (fun c21 => ?_) (fun c21 => ?_)
          · have h := h.1 c21
            refine lv_aload_n X.1.1 X.1.2.1 dX7_look_66 rfl (lv_at hl 0 rfl) ?_
            refine lv_bipush (v := (6 : Int32)) X.1.1 X.1.2.1 dX7_look_67 (by decide) ?_
            refine lv_iconst (v := (2 : Int32)) X.1.1 X.1.2.1 dX7_look_69 (by decide) ?_
            refine r_callV (k := 8) (n := 2) (As := [.int (6 : Int32), .int (2 : Int32)]) X V (sd_X7_numberAt l D ka _ S18 _ a0 (6 : Int32) (2 : Int32) h) k1 (by decide) (by decide) rfl wd_505 wd_506 wd_447 wd_507 wd_508 rfl rfl (by decide +kernel) ⟨Nat.le_of_ble_eq_true rfl, Nat.le_of_ble_eq_true rfl⟩ rfl hl.1 rfl (Nat.le_of_ble_eq_true rfl) dX7_look_70 ⟨show 0 ≤ 0 by omega, show 0 ≤ 0 by omega⟩ (fun r23 S22 H locs h m24 V => ?_)
            have k1 := m24.k k1 (by decide)
            have k5 := m24.t k5 (by decide)
            refine lv_if_eq (tgt := 91) X.1.1 X.1.2.1 dX7_look_73 (by decide) (fun c25 => ?_) (fun c25 => ?_)
            · have h := h.1 c25
              exact sl_X7_look_91a l D ka sz Z post X hr S22 a0 v1 h _ _ _ V (lv_sub hl [0, 1] rfl)
            · have h := h.2 c25
              refine lv_aload_n X.1.1 X.1.2.1 dX7_look_76 rfl (lv_at hl 0 rfl) ?_
              refine lv_bipush (v := (6 : Int32)) X.1.1 X.1.2.1 dX7_look_77 (by decide) ?_
              refine lv_iconst (v := (2 : Int32)) X.1.1 X.1.2.1 dX7_look_79 (by decide) ?_
              refine r_callV (k := 8) (n := 2) (As := [.int (6 : Int32), .int (2 : Int32)]) X V (sd_X7_numberAt l D ka _ S22 _ a0 (6 : Int32) (2 : Int32) h) k1 (by decide) (by decide) rfl wd_505 wd_506 wd_447 wd_507 wd_508 rfl rfl (by decide +kernel) ⟨Nat.le_of_ble_eq_true rfl, Nat.le_of_ble_eq_true rfl⟩ rfl hl.1 rfl (Nat.le_of_ble_eq_true rfl) dX7_look_80 ⟨show 0 ≤ 0 by omega, show 0 ≤ 0 by omega⟩ (fun r115 S114 H locs h m116 V => ?_)
              have k1 := m116.k k1 (by decide)
              have k5 := m116.t k5 (by decide)
              refine lv_sipush (v := (16384 : Int32)) X.1.1 X.1.2.1 dX7_look_83 (by decide) ?_
              refine lv_icmp_eq (tgt := 91) X.1.1 X.1.2.1 dX7_look_86 (by decide) (fun c117 => ?_) (fun c117 => ?_)
              · have h := h.1 c117
                exact sl_X7_look_91a l D ka sz Z post X hr S114 a0 v1 h _ _ _ V (lv_sub hl [0, 1] rfl)
              · have h := h.2 c117
                refine lv_iconst (v := (4 : Int32)) X.1.1 X.1.2.1 dX7_look_89 (by decide) ?_
                exact W.iret X.1.1 X.1.2.1 hr (fun t ht _ => V.q (r := (4 : Int32)) h ht) V.2.1.2.2 dX7_look_90 X.1.2.2.2.2
          · have h := h.2 c21
            refine lv_iconst (v := (3 : Int32)) X.1.1 X.1.2.1 dX7_look_64 (by decide) ?_
            exact W.iret X.1.1 X.1.2.1 hr (fun t ht _ => V.q (r := (3 : Int32)) h ht) V.2.1.2.2 dX7_look_65 X.1.2.2.2.2
        · have h := h.2 c17
          refine lv_iconst (v := (2 : Int32)) X.1.1 X.1.2.1 dX7_look_48 (by decide) ?_
          exact W.iret X.1.1 X.1.2.1 hr (fun t ht _ => V.q (r := (2 : Int32)) h ht) V.2.1.2.2 dX7_look_49 X.1.2.2.2.2
      · have h := h.2 c11
        refine lv_iconst (v := (1 : Int32)) X.1.1 X.1.2.1 dX7_look_33 (by decide) ?_
        exact W.iret X.1.1 X.1.2.1 hr (fun t ht _ => V.q (r := (1 : Int32)) h ht) V.2.1.2.2 dX7_look_34 X.1.2.2.2.2
abbrev rm_X7_comes : Room := { frames := 3, cells := 0, slots := 0, locals := 78 }
def wp_X7_comes (post : Int32 → HS → Prop) (S : HS) (a0 : Nat) (v1 : Int32) : Prop := kd S a0 = 8 ∧ (wp_X7_look (fun r3 S2 => ((r3 ≤ 0 → post r3 S2) ∧ (¬ r3 ≤ 0 → ∃ o6 : Nat, fr S2 48 a0 = some o6 ∧ (kd S2 o6 / 32 = 1 ∧ (vp_in r3 (ln S2 o6) ∧ (vp_in r3 (ln S2 o6) ∧ (post r3 (sai S2 o6 r3.toNatClampNeg ((ai S2 o6 r3.toNatClampNeg) + (1 : Int32)))))))))) S a0 v1)
set_option maxHeartbeats 400000 in
set_option maxRecDepth 100000 in
theorem sd_X7_comes (l : Launch) (D : va_G) (ka : Nat → ClassId) (sz : Nat) (Z : HS) (post : Int32 → HS → Prop) (a0 : Nat) (v1 : Int32) (h : wp_X7_comes post Z a0 v1) : Met l yX7_comes [Cond.code yX7_comes cX7_comes 3 (some .int)] rm_X7_comes (Px D ka Z sz [.ref a0, .int v1]) (Qx eI post D ka Z sz) 0 0 (fA Z sz) := by
  refine Met.ofW (cc := cX7_comes) (maxL := 3) (ret := (some .int)) (by decide) rfl ?_
  intro p e s m args below meth c s₁ B hml hv
  obtain ⟨rfl, X, V, hsz⟩ := Cx.entry B hml hv
  have hr : meth.sig.returnType = (some .int) := B.returns
  have hl := lv_entry ([.ref a0, .int v1]) (n := 3) (Nat.le_of_ble_eq_true rfl)
  rw [lg_entry_eq]
  generalize (lg_sl ([.ref a0, .int v1]) ++ List.replicate (3 - (lg_sl ([.ref a0, .int v1])).length) Slot.unset).toArray = ls at hl ⊢
  have hl : lv_has ls 3 [(0, .ref a0), (1, .int v1)] := hl
  have h : wp_X7_comes post Z a0 v1 := h
  refine lv_aload_n X.1.1 X.1.2.1 dX7_comes_0 rfl (lv_at hl 0 rfl) ?_
  refine lv_iload_n X.1.1 X.1.2.1 dX7_comes_1 rfl (lv_at hl 1 rfl) ?_
  obtain ⟨k1, h⟩ := h
  refine r_callV (k := 8) (n := 1) (As := [.int v1]) X V (sd_X7_look l D ka _ Z _ a0 v1 h) k1 (by decide) (by decide) rfl wd_543 wd_544 wd_447 wd_545 wd_546 rfl rfl (by decide +kernel) ⟨Nat.le_of_ble_eq_true rfl, Nat.le_of_ble_eq_true rfl⟩ rfl hl.1 rfl (Nat.le_of_ble_eq_true rfl) dX7_comes_2 ⟨show 0 ≤ 0 by omega, show 0 ≤ 0 by omega⟩ (fun r3 S2 H locs h m4 V => ?_)
  have k1 := m4.k k1 (by decide)
  refine lv_istore_n (lv' := [(2, .int r3), (0, .ref a0), (1, .int v1)]) X.1.1 X.1.2.1 dX7_comes_5 rfl hl (by decide) rfl (fun ls hl => ?_)
  refine lv_iload_n X.1.1 X.1.2.1 dX7_comes_6 rfl (lv_at hl 0 rfl) ?_
  refine lv_if_le (tgt := 20) X.1.1 X.1.2.1 dX7_comes_7 (by decide) (fun c5 => ?_) (fun c5 => ?_)
  · have h := h.1 c5
    refine lv_iload_n X.1.1 X.1.2.1 dX7_comes_20 rfl (lv_at hl 0 rfl) ?_
    exact W.iret X.1.1 X.1.2.1 hr (fun t ht _ => V.q (r := r3) h ht) V.2.1.2.2 dX7_comes_21 X.1.2.2.2.2
  · have h := h.2 c5
    refine lv_aload_n X.1.1 X.1.2.1 dX7_comes_10 rfl (lv_at hl 1 rfl) ?_
    obtain ⟨o6, e7, h⟩ := h
    refine gf_X7_63 X V k1 e7 dX7_comes_11 ?_
    refine lv_iload_n X.1.1 X.1.2.1 dX7_comes_14 rfl (lv_at hl 0 rfl) ?_
    refine lv_dup2_11 X.1.1 X.1.2.1 dX7_comes_15 rfl rfl ?_
    obtain ⟨k8, h⟩ := h
    obtain ⟨i9, h⟩ := h
    refine r_iald X V k8 i9 dX7_comes_16 ?_
    refine lv_iconst (v := (1 : Int32)) X.1.1 X.1.2.1 dX7_comes_17 (by decide) ?_
    refine lv_iadd X.1.1 X.1.2.1 dX7_comes_18 ?_
    obtain ⟨i10, h⟩ := h
    refine r_iast X V k8 i10 dX7_comes_19 (fun H locs V => ?_)
    refine lv_iload_n X.1.1 X.1.2.1 dX7_comes_20 rfl (lv_at hl 0 rfl) ?_
    exact W.iret X.1.1 X.1.2.1 hr (fun t ht _ => V.q (r := r3) h ht) V.2.1.2.2 dX7_comes_21 X.1.2.2.2.2
abbrev rm_X7_isPacket : Room := { frames := 0, cells := 0, slots := 0, locals := 0 }
def wp_X7_isPacket (post : Int32 → HS → Prop) (S : HS) (a0 : Nat) (v1 : Int32) : Prop := ((v1 < 0 → post (0 : Int32) S) ∧ (¬ v1 < 0 → kd S a0 = 8 ∧ ((((fi S 47 a0) ≤ v1 → post (0 : Int32) S) ∧ (¬ (fi S 47 a0) ≤ v1 → post (1 : Int32) S)))))
set_option maxHeartbeats 400000 in
set_option maxRecDepth 100000 in
theorem sd_X7_isPacket (l : Launch) (D : va_G) (ka : Nat → ClassId) (sz : Nat) (Z : HS) (post : Int32 → HS → Prop) (a0 : Nat) (v1 : Int32) (h : wp_X7_isPacket post Z a0 v1) : Met l yX7_isPacket [Cond.code yX7_isPacket cX7_isPacket 2 (some .boolean)] rm_X7_isPacket (Px D ka Z sz [.ref a0, .int v1]) (Qx eI post D ka Z sz) 0 0 (fA Z sz) := by
  refine Met.ofW (cc := cX7_isPacket) (maxL := 2) (ret := (some .boolean)) (by decide) rfl ?_
  intro p e s m args below meth c s₁ B hml hv
  obtain ⟨rfl, X, V, hsz⟩ := Cx.entry B hml hv
  have hr : meth.sig.returnType = (some .boolean) := B.returns
  have hl := lv_entry ([.ref a0, .int v1]) (n := 2) (Nat.le_of_ble_eq_true rfl)
  rw [lg_entry_eq]
  generalize (lg_sl ([.ref a0, .int v1]) ++ List.replicate (2 - (lg_sl ([.ref a0, .int v1])).length) Slot.unset).toArray = ls at hl ⊢
  have hl : lv_has ls 2 [(0, .ref a0), (1, .int v1)] := hl
  have h : wp_X7_isPacket post Z a0 v1 := h
  refine lv_iload_n X.1.1 X.1.2.1 dX7_isPacket_0 rfl (lv_at hl 1 rfl) ?_
  refine lv_if_lt (tgt := 16) X.1.1 X.1.2.1 dX7_isPacket_1 (by decide) (fun c1 => ?_) (fun c1 => ?_)
  · have h := h.1 c1
    refine lv_iconst (v := (0 : Int32)) X.1.1 X.1.2.1 dX7_isPacket_16 (by decide) ?_
    exact W.zret X.1.1 X.1.2.1 hr (by decide) (fun t ht _ => V.q (r := (0 : Int32)) h ht) V.2.1.2.2 dX7_isPacket_17 X.1.2.2.2.2
  · have h := h.2 c1
    refine lv_iload_n X.1.1 X.1.2.1 dX7_isPacket_4 rfl (lv_at hl 1 rfl) ?_
    refine lv_aload_n X.1.1 X.1.2.1 dX7_isPacket_5 rfl (lv_at hl 0 rfl) ?_
    obtain ⟨k2, h⟩ := h
    refine gf_X7_83 X V k2 dX7_isPacket_6 ?_
    refine lv_icmp_ge (tgt := 16) X.1.1 X.1.2.1 dX7_isPacket_9 (by decide) (fun c3 => ?_) (fun c3 => ?_)
    · have h := h.1 c3
      refine lv_iconst (v := (0 : Int32)) X.1.1 X.1.2.1 dX7_isPacket_16 (by decide) ?_
      exact W.zret X.1.1 X.1.2.1 hr (by decide) (fun t ht _ => V.q (r := (0 : Int32)) h ht) V.2.1.2.2 dX7_isPacket_17 X.1.2.2.2.2
    · have h := h.2 c3
      refine lv_iconst (v := (1 : Int32)) X.1.1 X.1.2.1 dX7_isPacket_12 (by decide) ?_
      refine lv_goto (tgt := 17) X.1.1 X.1.2.1 dX7_isPacket_13 (by decide) ?_
      exact W.zret X.1.1 X.1.2.1 hr (by decide) (fun t ht _ => V.q (r := (1 : Int32)) h ht) V.2.1.2.2 dX7_isPacket_17 X.1.2.2.2.2
abbrev rm_X7_take : Room := { frames := 4, cells := 0, slots := 0, locals := 100 }
def wp_X7_take_12 : Nat → (Int32 → HS → Prop) → HS → Nat → Int32 → Int32 → Int32 → Prop
  | 0, _, _, _, _, _, _ => False
  | n + 1, post, S, b0, x1, x2, x3 => kd S b0 = 8 ∧ ((((fi S 50 b0) ≤ x3 → ∃ o8 : Nat, fr S 46 b0 = some o8 ∧ (kd S o8 / 32 = 1 ∧ (vp_in x1 (ln S o8) ∧ (((¬ x2 = 0 → wp_X7_comes (fun r14 S13 => post r14 S13) S b0 (ai S o8 x1.toNatClampNeg)) ∧ (x2 = 0 → wp_X7_drop (fun _ S16 => wp_X7_comes (fun r20 S19 => post r20 S19) S16 b0 (ai S o8 x1.toNatClampNeg)) S b0 x1)))))) ∧ (¬ (fi S 50 b0) ≤ x3 → ∃ o22 : Nat, fr S 49 b0 = some o22 ∧ (∃ o24 : Nat, fr S 44 b0 = some o24 ∧ (kd S o24 / 32 = 2 ∧ (vp_in (((120 : Int32) * x1) + x3) (ln S o24) ∧ (kd S o22 / 32 = 2 ∧ (vp_in x3 (ln S o22) ∧ (wp_X7_take_12 n post (sai S o22 x3.toNatClampNeg ((ai S o24 (((120 : Int32) * x1) + x3).toNatClampNeg).toInt8.toInt32)) b0 x1 x2 (x3 + (1 : Int32)))))))))))
set_option maxHeartbeats 400000 in
set_option maxRecDepth 100000 in
theorem sl_X7_take_12 (l : Launch) (D : va_G) (ka : Nat → ClassId) (sz : Nat) (Z : HS) (post : Int32 → HS → Prop) {p : Program} {e : Env} {s : State} {m : MethodId} {args : Array Value} {below : List Frame} {meth : Method} {c : Code} (X : Cx p s m meth c cX7_take 4 RX7 D ka Z (fA Z sz)) (hr : meth.sig.returnType = (some .int))  : ∀ (n : Nat), ∀ (S : HS) (b0 : Nat) (x1 : Int32) (x2 : Int32) (x3 : Int32), wp_X7_take_12 n post S b0 x1 x2 x3 → ∀ (H : Heap) (locs : List Loc) (ls : Array Slot), Hv D ka Z s (fA Z sz) S H locs → lv_has ls 4 [(0, .ref b0), (1, .int x1), (2, .int x2), (3, .int x3)] → W p l e rm_X7_take s m args below meth c H locs 0 0 (MQ below (Qx eI post D ka Z sz) args s 0 0 (fA Z sz)) (F0 m 12 ls []) := by
  intro n
  induction n with
  | zero => intro S b0 x1 x2 x3 h; exact h.elim
  | succ n ih =>
    intro S b0 x1 x2 x3 h H locs ls V hl
    refine lv_iload_n X.1.1 X.1.2.1 dX7_take_12 rfl (lv_at hl 3 rfl) ?_
    refine lv_aload_n X.1.1 X.1.2.1 dX7_take_13 rfl (lv_at hl 0 rfl) ?_
    obtain ⟨k6, h⟩ := h
    refine gf_X7_112 X V k6 dX7_take_14 ?_
    refine lv_icmp_ge (tgt := 43) X.1.1 X.1.2.1 dX7_take_17 (by decide) (fun c7 => ?_) (fun c7 => ?_)
    · have h := h.1 c7
      refine lv_aload_n X.1.1 X.1.2.1 dX7_take_43 rfl (lv_at hl 0 rfl) ?_
      obtain ⟨o8, e9, h⟩ := h
      refine gf_X7_60 X V k6 e9 dX7_take_44 ?_
      refine lv_iload_n X.1.1 X.1.2.1 dX7_take_47 rfl (lv_at hl 1 rfl) ?_
      obtain ⟨k10, h⟩ := h
      obtain ⟨i11, h⟩ := h
      refine r_iald X V k10 i11 dX7_take_48 ?_
      refine lv_istore_n (lv' := [(3, .int (ai S o8 x1.toNatClampNeg)), (0, .ref b0), (1, .int x1), (2, .int x2)]) X.1.1 X.1.2.1 dX7_take_49 rfl hl (by decide) rfl (fun ls hl => ?_)
      refine lv_iload_n X.1.1 X.1.2.1 dX7_take_50 rfl (lv_at hl 3 rfl) ?_
      refine lv_if_ne (tgt := 59) X.1.1 X.1.2.1 dX7_take_51 (by decide) (fun c12 => ?_) (fun c12 => ?_)
      · have h := h.1 c12
        refine lv_aload_n X.1.1 X.1.2.1 dX7_take_59 rfl (lv_at hl 1 rfl) ?_
        refine lv_iload_n X.1.1 X.1.2.1 dX7_take_60 rfl (lv_at hl 0 rfl) ?_
        refine r_callV (k := 8) (n := 1) (As := [.int (ai S o8 x1.toNatClampNeg)]) X V (sd_X7_comes l D ka _ S _ b0 (ai S o8 x1.toNatClampNeg) h) k6 (by decide) (by decide) rfl wd_547 wd_548 wd_447 wd_549 wd_550 rfl rfl (by decide +kernel) ⟨Nat.le_of_ble_eq_true rfl, Nat.le_of_ble_eq_true rfl⟩ rfl hl.1 rfl (Nat.le_of_ble_eq_true rfl) dX7_take_61 ⟨show 0 ≤ 0 by omega, show 0 ≤ 0 by omega⟩ (fun r14 S13 H locs h m15 V => ?_)
        have k6 := m15.k k6 (by decide)
        have k10 := m15.t k10 (by decide)
        exact W.iret X.1.1 X.1.2.1 hr (fun t ht _ => V.q (r := r14) h ht) V.2.1.2.2 dX7_take_64 X.1.2.2.2.2
      · have h := h.2 c12
        refine lv_aload_n X.1.1 X.1.2.1 dX7_take_54 rfl (lv_at hl 1 rfl) ?_
        refine lv_iload_n X.1.1 X.1.2.1 dX7_take_55 rfl (lv_at hl 2 rfl) ?_
        refine r_callV (k := 8) (n := 1) (As := [.int x1]) X V (sd_X7_drop l D ka _ S _ b0 x1 h) k6 (by decide) (by decide) rfl wd_500 wd_501 wd_447 wd_502 wd_503 rfl rfl (by decide +kernel) ⟨Nat.le_of_ble_eq_true rfl, Nat.le_of_ble_eq_true rfl⟩ rfl hl.1 rfl (Nat.le_of_ble_eq_true rfl) dX7_take_56 ⟨show 0 ≤ 0 by omega, show 0 ≤ 0 by omega⟩ (fun r17 S16 H locs h m18 V => ?_)
        have k6 := m18.k k6 (by decide)
        have k10 := m18.t k10 (by decide)
        refine lv_aload_n X.1.1 X.1.2.1 dX7_take_59 rfl (lv_at hl 1 rfl) ?_
        refine lv_iload_n X.1.1 X.1.2.1 dX7_take_60 rfl (lv_at hl 0 rfl) ?_
        refine r_callV (k := 8) (n := 1) (As := [.int (ai S o8 x1.toNatClampNeg)]) X V (sd_X7_comes l D ka _ S16 _ b0 (ai S o8 x1.toNatClampNeg) h) k6 (by decide) (by decide) rfl wd_547 wd_548 wd_447 wd_549 wd_550 rfl rfl (by decide +kernel) ⟨Nat.le_of_ble_eq_true rfl, Nat.le_of_ble_eq_true rfl⟩ rfl hl.1 rfl (Nat.le_of_ble_eq_true rfl) dX7_take_61 ⟨show 0 ≤ 0 by omega, show 0 ≤ 0 by omega⟩ (fun r20 S19 H locs h m21 V => ?_)
        have k6 := m21.k k6 (by decide)
        have k10 := m21.t k10 (by decide)
        exact W.iret X.1.1 X.1.2.1 hr (fun t ht _ => V.q (r := r20) h ht) V.2.1.2.2 dX7_take_64 X.1.2.2.2.2
    · have h := h.2 c7
      refine lv_aload_n X.1.1 X.1.2.1 dX7_take_20 rfl (lv_at hl 0 rfl) ?_
      obtain ⟨o22, e23, h⟩ := h
      refine gf_X7_66 X V k6 e23 dX7_take_21 ?_
      refine lv_iload_n X.1.1 X.1.2.1 dX7_take_24 rfl (lv_at hl 3 rfl) ?_
      refine lv_aload_n X.1.1 X.1.2.1 dX7_take_25 rfl (lv_at hl 0 rfl) ?_
      obtain ⟨o24, e25, h⟩ := h
      refine gf_X7_54 X V k6 e25 dX7_take_26 ?_
      refine lv_bipush (v := (120 : Int32)) X.1.1 X.1.2.1 dX7_take_29 (by decide) ?_
      refine lv_iload_n X.1.1 X.1.2.1 dX7_take_31 rfl (lv_at hl 1 rfl) ?_
      refine lv_imul X.1.1 X.1.2.1 dX7_take_32 ?_
      refine lv_iload_n X.1.1 X.1.2.1 dX7_take_33 rfl (lv_at hl 3 rfl) ?_
      refine lv_iadd X.1.1 X.1.2.1 dX7_take_34 ?_
      obtain ⟨k26, h⟩ := h
      obtain ⟨i27, h⟩ := h
      refine r_bald X V k26 i27 dX7_take_35 ?_
      obtain ⟨k28, h⟩ := h
      obtain ⟨i29, h⟩ := h
      refine r_bast X V k28 i29 dX7_take_36 (fun H locs V => ?_)
      refine lv_iinc (v := (x3 + (1 : Int32))) (lv' := [(3, .int (x3 + (1 : Int32))), (0, .ref b0), (1, .int x1), (2, .int x2)]) X.1.1 X.1.2.1 dX7_take_37 hl (k := 3) rfl (congrArg (HAdd.hAdd _) (by decide)) (by decide) rfl (fun ls hl => ?_)
      refine lv_goto (tgt := 12) X.1.1 X.1.2.1 dX7_take_40 (by decide) ?_
      exact ih (sai S o22 x3.toNatClampNeg ((ai S o24 (((120 : Int32) * x1) + x3).toNatClampNeg).toInt8.toInt32)) b0 x1 x2 (x3 + (1 : Int32)) h _ _ _ V (lv_sub hl [1, 2, 3, 0] rfl)
def wp_X7_take (post : Int32 → HS → Prop) (S : HS) (a0 : Nat) (v1 : Int32) (v2 : Int32) : Prop := kd S a0 = 8 ∧ (∃ o2 : Nat, fr S 45 a0 = some o2 ∧ (kd S o2 / 32 = 1 ∧ (vp_in v1 (ln S o2) ∧ (∃ n9, wp_X7_take_12 n9 post (sfi S 50 a0 (ai S o2 v1.toNatClampNeg)) a0 v1 v2 (0 : Int32)))))
set_option maxHeartbeats 400000 in
set_option maxRecDepth 100000 in
theorem sd_X7_take (l : Launch) (D : va_G) (ka : Nat → ClassId) (sz : Nat) (Z : HS) (post : Int32 → HS → Prop) (a0 : Nat) (v1 : Int32) (v2 : Int32) (h : wp_X7_take post Z a0 v1 v2) : Met l yX7_take [Cond.code yX7_take cX7_take 4 (some .int)] rm_X7_take (Px D ka Z sz [.ref a0, .int v1, .int v2]) (Qx eI post D ka Z sz) 0 0 (fA Z sz) := by
  refine Met.ofW (cc := cX7_take) (maxL := 4) (ret := (some .int)) (by decide) rfl ?_
  intro p e s m args below meth c s₁ B hml hv
  obtain ⟨rfl, X, V, hsz⟩ := Cx.entry B hml hv
  have hr : meth.sig.returnType = (some .int) := B.returns
  have hl := lv_entry ([.ref a0, .int v1, .int v2]) (n := 4) (Nat.le_of_ble_eq_true rfl)
  rw [lg_entry_eq]
  generalize (lg_sl ([.ref a0, .int v1, .int v2]) ++ List.replicate (4 - (lg_sl ([.ref a0, .int v1, .int v2])).length) Slot.unset).toArray = ls at hl ⊢
  have hl : lv_has ls 4 [(0, .ref a0), (1, .int v1), (2, .int v2)] := hl
  have h : wp_X7_take post Z a0 v1 v2 := h
  refine lv_aload_n X.1.1 X.1.2.1 dX7_take_0 rfl (lv_at hl 0 rfl) ?_
  refine lv_aload_n X.1.1 X.1.2.1 dX7_take_1 rfl (lv_at hl 0 rfl) ?_
  obtain ⟨k1, h⟩ := h
  obtain ⟨o2, e3, h⟩ := h
  refine gf_X7_57 X V k1 e3 dX7_take_2 ?_
  refine lv_iload_n X.1.1 X.1.2.1 dX7_take_5 rfl (lv_at hl 1 rfl) ?_
  obtain ⟨k4, h⟩ := h
  obtain ⟨i5, h⟩ := h
  refine r_iald X V k4 i5 dX7_take_6 ?_
  refine pf_X7_112 X V k1 dX7_take_7 (fun H locs V => ?_)
  refine lv_iconst (v := (0 : Int32)) X.1.1 X.1.2.1 dX7_take_10 (by decide) ?_
  refine lv_istore_n (lv' := [(3, .int (0 : Int32)), (0, .ref a0), (1, .int v1), (2, .int v2)]) X.1.1 X.1.2.1 dX7_take_11 rfl hl (by decide) rfl (fun ls hl => ?_)
  obtain ⟨n9, h⟩ := h
  exact sl_X7_take_12 l D ka sz Z post X hr n9 (sfi Z 50 a0 (ai Z o2 v1.toNatClampNeg)) a0 v1 v2 (0 : Int32) h _ _ _ V (lv_sub hl [1, 2, 3, 0] rfl)
abbrev rm_X7_deliver : Room := { frames := 5, cells := 0, slots := 0, locals := 123 }
def wp_X7_deliver (post : Int32 → HS → Prop) (S : HS) (a0 : Nat) (v1 : Int32) : Prop := kd S a0 = 8 ∧ (wp_X7_isPacket (fun r3 S2 => ((r3 = 0 → post (-1 : Int32) S2) ∧ (¬ r3 = 0 → wp_X7_take (fun r7 S6 => post r7 S6) S2 a0 v1 (0 : Int32)))) S a0 v1)
set_option maxHeartbeats 400000 in
set_option maxRecDepth 100000 in
theorem sd_X7_deliver (l : Launch) (D : va_G) (ka : Nat → ClassId) (sz : Nat) (Z : HS) (post : Int32 → HS → Prop) (a0 : Nat) (v1 : Int32) (h : wp_X7_deliver post Z a0 v1) : Met l yX7_deliver [Cond.code yX7_deliver cX7_deliver 2 (some .int)] rm_X7_deliver (Px D ka Z sz [.ref a0, .int v1]) (Qx eI post D ka Z sz) 0 0 (fA Z sz) := by
  refine Met.ofW (cc := cX7_deliver) (maxL := 2) (ret := (some .int)) (by decide) rfl ?_
  intro p e s m args below meth c s₁ B hml hv
  obtain ⟨rfl, X, V, hsz⟩ := Cx.entry B hml hv
  have hr : meth.sig.returnType = (some .int) := B.returns
  have hl := lv_entry ([.ref a0, .int v1]) (n := 2) (Nat.le_of_ble_eq_true rfl)
  rw [lg_entry_eq]
  generalize (lg_sl ([.ref a0, .int v1]) ++ List.replicate (2 - (lg_sl ([.ref a0, .int v1])).length) Slot.unset).toArray = ls at hl ⊢
  have hl : lv_has ls 2 [(0, .ref a0), (1, .int v1)] := hl
  have h : wp_X7_deliver post Z a0 v1 := h
  refine lv_aload_n X.1.1 X.1.2.1 dX7_deliver_0 rfl (lv_at hl 0 rfl) ?_
  refine lv_iload_n X.1.1 X.1.2.1 dX7_deliver_1 rfl (lv_at hl 1 rfl) ?_
  obtain ⟨k1, h⟩ := h
  refine r_callV (k := 8) (n := 1) (As := [.int v1]) X V (sd_X7_isPacket l D ka _ Z _ a0 v1 h) k1 (by decide) (by decide) rfl wd_551 wd_552 wd_447 wd_553 wd_554 rfl rfl (by decide +kernel) ⟨Nat.le_of_ble_eq_true rfl, Nat.le_of_ble_eq_true rfl⟩ rfl hl.1 rfl (Nat.le_of_ble_eq_true rfl) dX7_deliver_2 ⟨show 0 ≤ 0 by omega, show 0 ≤ 0 by omega⟩ (fun r3 S2 H locs h m4 V => ?_)
  have k1 := m4.k k1 (by decide)
  refine lv_if_eq (tgt := 17) X.1.1 X.1.2.1 dX7_deliver_5 (by decide) (fun c5 => ?_) (fun c5 => ?_)
  · have h := h.1 c5
    refine lv_iconst (v := (-1 : Int32)) X.1.1 X.1.2.1 dX7_deliver_17 (by decide) ?_
    exact W.iret X.1.1 X.1.2.1 hr (fun t ht _ => V.q (r := (-1 : Int32)) h ht) V.2.1.2.2 dX7_deliver_18 X.1.2.2.2.2
  · have h := h.2 c5
    refine lv_aload_n X.1.1 X.1.2.1 dX7_deliver_8 rfl (lv_at hl 0 rfl) ?_
    refine lv_iload_n X.1.1 X.1.2.1 dX7_deliver_9 rfl (lv_at hl 1 rfl) ?_
    refine lv_iconst (v := (0 : Int32)) X.1.1 X.1.2.1 dX7_deliver_10 (by decide) ?_
    refine r_callV (k := 8) (n := 2) (As := [.int v1, .int (0 : Int32)]) X V (sd_X7_take l D ka _ S2 _ a0 v1 (0 : Int32) h) k1 (by decide) (by decide) rfl wd_555 wd_556 wd_447 wd_557 wd_558 rfl rfl (by decide +kernel) ⟨Nat.le_of_ble_eq_true rfl, Nat.le_of_ble_eq_true rfl⟩ rfl hl.1 rfl (Nat.le_of_ble_eq_true rfl) dX7_deliver_11 ⟨show 0 ≤ 0 by omega, show 0 ≤ 0 by omega⟩ (fun r7 S6 H locs h m8 V => ?_)
    have k1 := m8.k k1 (by decide)
    refine lv_goto (tgt := 18) X.1.1 X.1.2.1 dX7_deliver_14 (by decide) ?_
    exact W.iret X.1.1 X.1.2.1 hr (fun t ht _ => V.q (r := r7) h ht) V.2.1.2.2 dX7_deliver_18 X.1.2.2.2.2
abbrev rm_X7_twice : Room := { frames := 5, cells := 0, slots := 0, locals := 123 }
def wp_X7_twice (post : Int32 → HS → Prop) (S : HS) (a0 : Nat) (v1 : Int32) : Prop := kd S a0 = 8 ∧ (wp_X7_isPacket (fun r3 S2 => ((r3 = 0 → post (-1 : Int32) S2) ∧ (¬ r3 = 0 → wp_X7_take (fun r7 S6 => post r7 S6) S2 a0 v1 (1 : Int32)))) S a0 v1)
set_option maxHeartbeats 400000 in
set_option maxRecDepth 100000 in
theorem sd_X7_twice (l : Launch) (D : va_G) (ka : Nat → ClassId) (sz : Nat) (Z : HS) (post : Int32 → HS → Prop) (a0 : Nat) (v1 : Int32) (h : wp_X7_twice post Z a0 v1) : Met l yX7_twice [Cond.code yX7_twice cX7_twice 2 (some .int)] rm_X7_twice (Px D ka Z sz [.ref a0, .int v1]) (Qx eI post D ka Z sz) 0 0 (fA Z sz) := by
  refine Met.ofW (cc := cX7_twice) (maxL := 2) (ret := (some .int)) (by decide) rfl ?_
  intro p e s m args below meth c s₁ B hml hv
  obtain ⟨rfl, X, V, hsz⟩ := Cx.entry B hml hv
  have hr : meth.sig.returnType = (some .int) := B.returns
  have hl := lv_entry ([.ref a0, .int v1]) (n := 2) (Nat.le_of_ble_eq_true rfl)
  rw [lg_entry_eq]
  generalize (lg_sl ([.ref a0, .int v1]) ++ List.replicate (2 - (lg_sl ([.ref a0, .int v1])).length) Slot.unset).toArray = ls at hl ⊢
  have hl : lv_has ls 2 [(0, .ref a0), (1, .int v1)] := hl
  have h : wp_X7_twice post Z a0 v1 := h
  refine lv_aload_n X.1.1 X.1.2.1 dX7_twice_0 rfl (lv_at hl 0 rfl) ?_
  refine lv_iload_n X.1.1 X.1.2.1 dX7_twice_1 rfl (lv_at hl 1 rfl) ?_
  obtain ⟨k1, h⟩ := h
  refine r_callV (k := 8) (n := 1) (As := [.int v1]) X V (sd_X7_isPacket l D ka _ Z _ a0 v1 h) k1 (by decide) (by decide) rfl wd_551 wd_552 wd_447 wd_553 wd_554 rfl rfl (by decide +kernel) ⟨Nat.le_of_ble_eq_true rfl, Nat.le_of_ble_eq_true rfl⟩ rfl hl.1 rfl (Nat.le_of_ble_eq_true rfl) dX7_twice_2 ⟨show 0 ≤ 0 by omega, show 0 ≤ 0 by omega⟩ (fun r3 S2 H locs h m4 V => ?_)
  have k1 := m4.k k1 (by decide)
  refine lv_if_eq (tgt := 17) X.1.1 X.1.2.1 dX7_twice_5 (by decide) (fun c5 => ?_) (fun c5 => ?_)
  · have h := h.1 c5
    refine lv_iconst (v := (-1 : Int32)) X.1.1 X.1.2.1 dX7_twice_17 (by decide) ?_
    exact W.iret X.1.1 X.1.2.1 hr (fun t ht _ => V.q (r := (-1 : Int32)) h ht) V.2.1.2.2 dX7_twice_18 X.1.2.2.2.2
  · have h := h.2 c5
    refine lv_aload_n X.1.1 X.1.2.1 dX7_twice_8 rfl (lv_at hl 0 rfl) ?_
    refine lv_iload_n X.1.1 X.1.2.1 dX7_twice_9 rfl (lv_at hl 1 rfl) ?_
    refine lv_iconst (v := (1 : Int32)) X.1.1 X.1.2.1 dX7_twice_10 (by decide) ?_
    refine r_callV (k := 8) (n := 2) (As := [.int v1, .int (1 : Int32)]) X V (sd_X7_take l D ka _ S2 _ a0 v1 (1 : Int32) h) k1 (by decide) (by decide) rfl wd_555 wd_556 wd_447 wd_557 wd_558 rfl rfl (by decide +kernel) ⟨Nat.le_of_ble_eq_true rfl, Nat.le_of_ble_eq_true rfl⟩ rfl hl.1 rfl (Nat.le_of_ble_eq_true rfl) dX7_twice_11 ⟨show 0 ≤ 0 by omega, show 0 ≤ 0 by omega⟩ (fun r7 S6 H locs h m8 V => ?_)
    have k1 := m8.k k1 (by decide)
    refine lv_goto (tgt := 18) X.1.1 X.1.2.1 dX7_twice_14 (by decide) ?_
    exact W.iret X.1.1 X.1.2.1 hr (fun t ht _ => V.q (r := r7) h ht) V.2.1.2.2 dX7_twice_18 X.1.2.2.2.2
abbrev rm_X7_lose : Room := { frames := 1, cells := 0, slots := 0, locals := 23 }
def wp_X7_lose (post : Int32 → HS → Prop) (S : HS) (a0 : Nat) (v1 : Int32) : Prop := kd S a0 = 8 ∧ (wp_X7_isPacket (fun r3 S2 => ((¬ r3 = 0 → wp_X7_drop (fun _ S6 => post (1 : Int32) S6) S2 a0 v1) ∧ (r3 = 0 → post (0 : Int32) S2))) S a0 v1)
set_option maxHeartbeats 400000 in
set_option maxRecDepth 100000 in
theorem sd_X7_lose (l : Launch) (D : va_G) (ka : Nat → ClassId) (sz : Nat) (Z : HS) (post : Int32 → HS → Prop) (a0 : Nat) (v1 : Int32) (h : wp_X7_lose post Z a0 v1) : Met l yX7_lose [Cond.code yX7_lose cX7_lose 2 (some .boolean)] rm_X7_lose (Px D ka Z sz [.ref a0, .int v1]) (Qx eI post D ka Z sz) 0 0 (fA Z sz) := by
  refine Met.ofW (cc := cX7_lose) (maxL := 2) (ret := (some .boolean)) (by decide) rfl ?_
  intro p e s m args below meth c s₁ B hml hv
  obtain ⟨rfl, X, V, hsz⟩ := Cx.entry B hml hv
  have hr : meth.sig.returnType = (some .boolean) := B.returns
  have hl := lv_entry ([.ref a0, .int v1]) (n := 2) (Nat.le_of_ble_eq_true rfl)
  rw [lg_entry_eq]
  generalize (lg_sl ([.ref a0, .int v1]) ++ List.replicate (2 - (lg_sl ([.ref a0, .int v1])).length) Slot.unset).toArray = ls at hl ⊢
  have hl : lv_has ls 2 [(0, .ref a0), (1, .int v1)] := hl
  have h : wp_X7_lose post Z a0 v1 := h
  refine lv_aload_n X.1.1 X.1.2.1 dX7_lose_0 rfl (lv_at hl 0 rfl) ?_
  refine lv_iload_n X.1.1 X.1.2.1 dX7_lose_1 rfl (lv_at hl 1 rfl) ?_
  obtain ⟨k1, h⟩ := h
  refine r_callV (k := 8) (n := 1) (As := [.int v1]) X V (sd_X7_isPacket l D ka _ Z _ a0 v1 h) k1 (by decide) (by decide) rfl wd_551 wd_552 wd_447 wd_553 wd_554 rfl rfl (by decide +kernel) ⟨Nat.le_of_ble_eq_true rfl, Nat.le_of_ble_eq_true rfl⟩ rfl hl.1 rfl (Nat.le_of_ble_eq_true rfl) dX7_lose_2 ⟨show 0 ≤ 0 by omega, show 0 ≤ 0 by omega⟩ (fun r3 S2 H locs h m4 V => ?_)
  have k1 := m4.k k1 (by decide)
  refine lv_if_ne (tgt := 10) X.1.1 X.1.2.1 dX7_lose_5 (by decide) (fun c5 => ?_) (fun c5 => ?_)
  · have h := h.1 c5
    refine lv_aload_n X.1.1 X.1.2.1 dX7_lose_10 rfl (lv_at hl 0 rfl) ?_
    refine lv_iload_n X.1.1 X.1.2.1 dX7_lose_11 rfl (lv_at hl 1 rfl) ?_
    refine r_callV (k := 8) (n := 1) (As := [.int v1]) X V (sd_X7_drop l D ka _ S2 _ a0 v1 h) k1 (by decide) (by decide) rfl wd_500 wd_501 wd_447 wd_502 wd_503 rfl rfl (by decide +kernel) ⟨Nat.le_of_ble_eq_true rfl, Nat.le_of_ble_eq_true rfl⟩ rfl hl.1 rfl (Nat.le_of_ble_eq_true rfl) dX7_lose_12 ⟨show 0 ≤ 0 by omega, show 0 ≤ 0 by omega⟩ (fun r7 S6 H locs h m8 V => ?_)
    have k1 := m8.k k1 (by decide)
    refine lv_iconst (v := (1 : Int32)) X.1.1 X.1.2.1 dX7_lose_15 (by decide) ?_
    exact W.zret X.1.1 X.1.2.1 hr (by decide) (fun t ht _ => V.q (r := (1 : Int32)) h ht) V.2.1.2.2 dX7_lose_16 X.1.2.2.2.2
  · have h := h.2 c5
    refine lv_iconst (v := (0 : Int32)) X.1.1 X.1.2.1 dX7_lose_8 (by decide) ?_
    exact W.zret X.1.1 X.1.2.1 hr (by decide) (fun t ht _ => V.q (r := (0 : Int32)) h ht) V.2.1.2.2 dX7_lose_9 X.1.2.2.2.2
abbrev rm_X7_inject : Room := { frames := 4, cells := 0, slots := 0, locals := 100 }
def wp_X7_inject_20 : Nat → (Int32 → HS → Prop) → HS → Nat → Int32 → Int32 → Prop
  | 0, _, _, _, _, _ => False
  | n + 1, post, S, b0, x1, x2 => kd S b0 = 8 ∧ ((((fi S 43 b0) ≤ x2 → wp_X7_comes (fun r9 S8 => post r9 S8) (sfi S 43 b0 (0 : Int32)) b0 x1) ∧ (¬ (fi S 43 b0) ≤ x2 → ∃ o11 : Nat, fr S 49 b0 = some o11 ∧ (∃ o13 : Nat, fr S 42 b0 = some o13 ∧ (kd S o13 / 32 = 2 ∧ (vp_in x2 (ln S o13) ∧ (kd S o11 / 32 = 2 ∧ (vp_in x2 (ln S o11) ∧ (wp_X7_inject_20 n post (sai S o11 x2.toNatClampNeg ((ai S o13 x2.toNatClampNeg).toInt8.toInt32)) b0 x1 (x2 + (1 : Int32)))))))))))
set_option maxHeartbeats 400000 in
set_option maxRecDepth 100000 in
theorem sl_X7_inject_20 (l : Launch) (D : va_G) (ka : Nat → ClassId) (sz : Nat) (Z : HS) (post : Int32 → HS → Prop) {p : Program} {e : Env} {s : State} {m : MethodId} {args : Array Value} {below : List Frame} {meth : Method} {c : Code} (X : Cx p s m meth c cX7_inject 3 RX7 D ka Z (fA Z sz)) (hr : meth.sig.returnType = (some .int))  : ∀ (n : Nat), ∀ (S : HS) (b0 : Nat) (x1 : Int32) (x2 : Int32), wp_X7_inject_20 n post S b0 x1 x2 → ∀ (H : Heap) (locs : List Loc) (ls : Array Slot), Hv D ka Z s (fA Z sz) S H locs → lv_has ls 3 [(0, .ref b0), (1, .int x1), (2, .int x2)] → W p l e rm_X7_inject s m args below meth c H locs 0 0 (MQ below (Qx eI post D ka Z sz) args s 0 0 (fA Z sz)) (F0 m 20 ls []) := by
  intro n
  induction n with
  | zero => intro S b0 x1 x2 h; exact h.elim
  | succ n ih =>
    intro S b0 x1 x2 h H locs ls V hl
    refine lv_iload_n X.1.1 X.1.2.1 dX7_inject_20 rfl (lv_at hl 2 rfl) ?_
    refine lv_aload_n X.1.1 X.1.2.1 dX7_inject_21 rfl (lv_at hl 0 rfl) ?_
    obtain ⟨k6, h⟩ := h
    refine gf_X7_93 X V k6 dX7_inject_22 ?_
    refine lv_icmp_ge (tgt := 46) X.1.1 X.1.2.1 dX7_inject_25 (by decide) (fun c7 => ?_) (fun c7 => ?_)
    · have h := h.1 c7
      refine lv_aload_n X.1.1 X.1.2.1 dX7_inject_46 rfl (lv_at hl 0 rfl) ?_
      refine lv_iconst (v := (0 : Int32)) X.1.1 X.1.2.1 dX7_inject_47 (by decide) ?_
      refine pf_X7_93 X V k6 dX7_inject_48 (fun H locs V => ?_)
      refine lv_aload_n X.1.1 X.1.2.1 dX7_inject_51 rfl (lv_at hl 0 rfl) ?_
      refine lv_iload_n X.1.1 X.1.2.1 dX7_inject_52 rfl (lv_at hl 1 rfl) ?_
      refine r_callV (k := 8) (n := 1) (As := [.int x1]) X V (sd_X7_comes l D ka _ (sfi S 43 b0 (0 : Int32)) _ b0 x1 h) k6 (by decide) (by decide) rfl wd_547 wd_548 wd_447 wd_549 wd_550 rfl rfl (by decide +kernel) ⟨Nat.le_of_ble_eq_true rfl, Nat.le_of_ble_eq_true rfl⟩ rfl hl.1 rfl (Nat.le_of_ble_eq_true rfl) dX7_inject_53 ⟨show 0 ≤ 0 by omega, show 0 ≤ 0 by omega⟩ (fun r9 S8 H locs h m10 V => ?_)
      have k6 := m10.k k6 (by decide)
      exact W.iret X.1.1 X.1.2.1 hr (fun t ht _ => V.q (r := r9) h ht) V.2.1.2.2 dX7_inject_56 X.1.2.2.2.2
    · have h := h.2 c7
      refine lv_aload_n X.1.1 X.1.2.1 dX7_inject_28 rfl (lv_at hl 0 rfl) ?_
      obtain ⟨o11, e12, h⟩ := h
      refine gf_X7_66 X V k6 e12 dX7_inject_29 ?_
      refine lv_iload_n X.1.1 X.1.2.1 dX7_inject_32 rfl (lv_at hl 2 rfl) ?_
      refine lv_aload_n X.1.1 X.1.2.1 dX7_inject_33 rfl (lv_at hl 0 rfl) ?_
      obtain ⟨o13, e14, h⟩ := h
      refine gf_X7_51 X V k6 e14 dX7_inject_34 ?_
      refine lv_iload_n X.1.1 X.1.2.1 dX7_inject_37 rfl (lv_at hl 2 rfl) ?_
      obtain ⟨k15, h⟩ := h
      obtain ⟨i16, h⟩ := h
      refine r_bald X V k15 i16 dX7_inject_38 ?_
      obtain ⟨k17, h⟩ := h
      obtain ⟨i18, h⟩ := h
      refine r_bast X V k17 i18 dX7_inject_39 (fun H locs V => ?_)
      refine lv_iinc (v := (x2 + (1 : Int32))) (lv' := [(2, .int (x2 + (1 : Int32))), (0, .ref b0), (1, .int x1)]) X.1.1 X.1.2.1 dX7_inject_40 hl (k := 2) rfl (congrArg (HAdd.hAdd _) (by decide)) (by decide) rfl (fun ls hl => ?_)
      refine lv_goto (tgt := 20) X.1.1 X.1.2.1 dX7_inject_43 (by decide) ?_
      exact ih (sai S o11 x2.toNatClampNeg ((ai S o13 x2.toNatClampNeg).toInt8.toInt32)) b0 x1 (x2 + (1 : Int32)) h _ _ _ V (lv_sub hl [1, 2, 0] rfl)
def wp_X7_inject (post : Int32 → HS → Prop) (S : HS) (a0 : Nat) (v1 : Int32) : Prop := kd S a0 = 8 ∧ (wp_X7_isEndpoint (fun r3 S2 => ((¬ r3 = 0 → ∃ n9, wp_X7_inject_20 n9 post (sfi S2 50 a0 (fi S2 43 a0)) a0 v1 (0 : Int32)) ∧ (r3 = 0 → post (-1 : Int32) S2))) S a0 v1)
set_option maxHeartbeats 400000 in
set_option maxRecDepth 100000 in
theorem sd_X7_inject (l : Launch) (D : va_G) (ka : Nat → ClassId) (sz : Nat) (Z : HS) (post : Int32 → HS → Prop) (a0 : Nat) (v1 : Int32) (h : wp_X7_inject post Z a0 v1) : Met l yX7_inject [Cond.code yX7_inject cX7_inject 3 (some .int)] rm_X7_inject (Px D ka Z sz [.ref a0, .int v1]) (Qx eI post D ka Z sz) 0 0 (fA Z sz) := by
  refine Met.ofW (cc := cX7_inject) (maxL := 3) (ret := (some .int)) (by decide) rfl ?_
  intro p e s m args below meth c s₁ B hml hv
  obtain ⟨rfl, X, V, hsz⟩ := Cx.entry B hml hv
  have hr : meth.sig.returnType = (some .int) := B.returns
  have hl := lv_entry ([.ref a0, .int v1]) (n := 3) (Nat.le_of_ble_eq_true rfl)
  rw [lg_entry_eq]
  generalize (lg_sl ([.ref a0, .int v1]) ++ List.replicate (3 - (lg_sl ([.ref a0, .int v1])).length) Slot.unset).toArray = ls at hl ⊢
  have hl : lv_has ls 3 [(0, .ref a0), (1, .int v1)] := hl
  have h : wp_X7_inject post Z a0 v1 := h
  refine lv_aload_n X.1.1 X.1.2.1 dX7_inject_0 rfl (lv_at hl 0 rfl) ?_
  refine lv_iload_n X.1.1 X.1.2.1 dX7_inject_1 rfl (lv_at hl 1 rfl) ?_
  obtain ⟨k1, h⟩ := h
  refine r_callV (k := 8) (n := 1) (As := [.int v1]) X V (sd_X7_isEndpoint l D ka _ Z _ a0 v1 h) k1 (by decide) (by decide) rfl wd_445 wd_446 wd_447 wd_448 wd_449 rfl rfl (by decide +kernel) ⟨Nat.le_of_ble_eq_true rfl, Nat.le_of_ble_eq_true rfl⟩ rfl hl.1 rfl (Nat.le_of_ble_eq_true rfl) dX7_inject_2 ⟨show 0 ≤ 0 by omega, show 0 ≤ 0 by omega⟩ (fun r3 S2 H locs h m4 V => ?_)
  have k1 := m4.k k1 (by decide)
  refine lv_if_ne (tgt := 10) X.1.1 X.1.2.1 dX7_inject_5 (by decide) (fun c5 => ?_) (fun c5 => ?_)
  · have h := h.1 c5
    refine lv_aload_n X.1.1 X.1.2.1 dX7_inject_10 rfl (lv_at hl 0 rfl) ?_
    refine lv_aload_n X.1.1 X.1.2.1 dX7_inject_11 rfl (lv_at hl 0 rfl) ?_
    refine gf_X7_93 X V k1 dX7_inject_12 ?_
    refine pf_X7_112 X V k1 dX7_inject_15 (fun H locs V => ?_)
    refine lv_iconst (v := (0 : Int32)) X.1.1 X.1.2.1 dX7_inject_18 (by decide) ?_
    refine lv_istore_n (lv' := [(2, .int (0 : Int32)), (0, .ref a0), (1, .int v1)]) X.1.1 X.1.2.1 dX7_inject_19 rfl hl (by decide) rfl (fun ls hl => ?_)
    obtain ⟨n9, h⟩ := h
    exact sl_X7_inject_20 l D ka sz Z post X hr n9 (sfi S2 50 a0 (fi S2 43 a0)) a0 v1 (0 : Int32) h _ _ _ V (lv_sub hl [1, 2, 0] rfl)
  · have h := h.2 c5
    refine lv_iconst (v := (-1 : Int32)) X.1.1 X.1.2.1 dX7_inject_8 (by decide) ?_
    exact W.iret X.1.1 X.1.2.1 hr (fun t ht _ => V.q (r := (-1 : Int32)) h ht) V.2.1.2.2 dX7_inject_9 X.1.2.2.2.2
abbrev rm_X7_poke : Room := { frames := 1, cells := 0, slots := 0, locals := 21 }
def wp_X7_poke (post : Int32 → HS → Prop) (S : HS) (a0 : Nat) (v1 : Int32) (v2 : Int32) (v3 : Int32) : Prop := kd S a0 = 8 ∧ (wp_X7_isPacket (fun r3 S2 => ((r3 = 0 → post (0 : Int32) S2) ∧ (¬ r3 = 0 → ((v2 < 0 → post (0 : Int32) S2) ∧ (¬ v2 < 0 → ∃ o7 : Nat, fr S2 45 a0 = some o7 ∧ (kd S2 o7 / 32 = 1 ∧ (vp_in v1 (ln S2 o7) ∧ ((((ai S2 o7 v1.toNatClampNeg) ≤ v2 → post (0 : Int32) S2) ∧ (¬ (ai S2 o7 v1.toNatClampNeg) ≤ v2 → ((v3 < (1 : Int32) → post (0 : Int32) S2) ∧ (¬ v3 < (1 : Int32) → ((v3 ≤ (255 : Int32) → ∃ o14 : Nat, fr S2 44 a0 = some o14 ∧ (kd S2 o14 / 32 = 2 ∧ (vp_in (((120 : Int32) * v1) + v2) (ln S2 o14) ∧ (vp_in (((120 : Int32) * v1) + v2) (ln S2 o14) ∧ (post (1 : Int32) (sai S2 o14 (((120 : Int32) * v1) + v2).toNatClampNeg ((((ai S2 o14 (((120 : Int32) * v1) + v2).toNatClampNeg) ^^^ v3).toInt8.toInt32).toInt8.toInt32))))))) ∧ (¬ v3 ≤ (255 : Int32) → post (0 : Int32) S2)))))))))))))) S a0 v1)
set_option maxHeartbeats 400000 in
set_option maxRecDepth 100000 in
theorem sd_X7_poke (l : Launch) (D : va_G) (ka : Nat → ClassId) (sz : Nat) (Z : HS) (post : Int32 → HS → Prop) (a0 : Nat) (v1 : Int32) (v2 : Int32) (v3 : Int32) (h : wp_X7_poke post Z a0 v1 v2 v3) : Met l yX7_poke [Cond.code yX7_poke cX7_poke 4 (some .boolean)] rm_X7_poke (Px D ka Z sz [.ref a0, .int v1, .int v2, .int v3]) (Qx eI post D ka Z sz) 0 0 (fA Z sz) := by
  refine Met.ofW (cc := cX7_poke) (maxL := 4) (ret := (some .boolean)) (by decide) rfl ?_
  intro p e s m args below meth c s₁ B hml hv
  obtain ⟨rfl, X, V, hsz⟩ := Cx.entry B hml hv
  have hr : meth.sig.returnType = (some .boolean) := B.returns
  have hl := lv_entry ([.ref a0, .int v1, .int v2, .int v3]) (n := 4) (Nat.le_of_ble_eq_true rfl)
  rw [lg_entry_eq]
  generalize (lg_sl ([.ref a0, .int v1, .int v2, .int v3]) ++ List.replicate (4 - (lg_sl ([.ref a0, .int v1, .int v2, .int v3])).length) Slot.unset).toArray = ls at hl ⊢
  have hl : lv_has ls 4 [(0, .ref a0), (1, .int v1), (2, .int v2), (3, .int v3)] := hl
  have h : wp_X7_poke post Z a0 v1 v2 v3 := h
  refine lv_aload_n X.1.1 X.1.2.1 dX7_poke_0 rfl (lv_at hl 0 rfl) ?_
  refine lv_iload_n X.1.1 X.1.2.1 dX7_poke_1 rfl (lv_at hl 1 rfl) ?_
  obtain ⟨k1, h⟩ := h
  refine r_callV (k := 8) (n := 1) (As := [.int v1]) X V (sd_X7_isPacket l D ka _ Z _ a0 v1 h) k1 (by decide) (by decide) rfl wd_551 wd_552 wd_447 wd_553 wd_554 rfl rfl (by decide +kernel) ⟨Nat.le_of_ble_eq_true rfl, Nat.le_of_ble_eq_true rfl⟩ rfl hl.1 rfl (Nat.le_of_ble_eq_true rfl) dX7_poke_2 ⟨show 0 ≤ 0 by omega, show 0 ≤ 0 by omega⟩ (fun r3 S2 H locs h m4 V => ?_)
  have k1 := m4.k k1 (by decide)
  refine lv_if_eq (tgt := 34) X.1.1 X.1.2.1 dX7_poke_5 (by decide) (fun c5 => ?_) (fun c5 => ?_)
  · have h := h.1 c5
    refine lv_iconst (v := (0 : Int32)) X.1.1 X.1.2.1 dX7_poke_34 (by decide) ?_
    exact W.zret X.1.1 X.1.2.1 hr (by decide) (fun t ht _ => V.q (r := (0 : Int32)) h ht) V.2.1.2.2 dX7_poke_35 X.1.2.2.2.2
  · have h := h.2 c5
    refine lv_iload_n X.1.1 X.1.2.1 dX7_poke_8 rfl (lv_at hl 2 rfl) ?_
    refine lv_if_lt (tgt := 34) X.1.1 X.1.2.1 dX7_poke_9 (by decide) (fun c6 => ?_) (fun c6 => ?_)
    · have h := h.1 c6
      refine lv_iconst (v := (0 : Int32)) X.1.1 X.1.2.1 dX7_poke_34 (by decide) ?_
      exact W.zret X.1.1 X.1.2.1 hr (by decide) (fun t ht _ => V.q (r := (0 : Int32)) h ht) V.2.1.2.2 dX7_poke_35 X.1.2.2.2.2
    · have h := h.2 c6
      refine lv_iload_n X.1.1 X.1.2.1 dX7_poke_12 rfl (lv_at hl 2 rfl) ?_
      refine lv_aload_n X.1.1 X.1.2.1 dX7_poke_13 rfl (lv_at hl 0 rfl) ?_
      obtain ⟨o7, e8, h⟩ := h
      refine gf_X7_57 X V k1 e8 dX7_poke_14 ?_
      refine lv_iload_n X.1.1 X.1.2.1 dX7_poke_17 rfl (lv_at hl 1 rfl) ?_
      obtain ⟨k9, h⟩ := h
      obtain ⟨i10, h⟩ := h
      refine r_iald X V k9 i10 dX7_poke_18 ?_
      refine lv_icmp_ge (tgt := 34) X.1.1 X.1.2.1 dX7_poke_19 (by decide) (fun c11 => ?_) (fun c11 => ?_)
      · have h := h.1 c11
        refine lv_iconst (v := (0 : Int32)) X.1.1 X.1.2.1 dX7_poke_34 (by decide) ?_
        exact W.zret X.1.1 X.1.2.1 hr (by decide) (fun t ht _ => V.q (r := (0 : Int32)) h ht) V.2.1.2.2 dX7_poke_35 X.1.2.2.2.2
      · have h := h.2 c11
        refine lv_iload_n X.1.1 X.1.2.1 dX7_poke_22 rfl (lv_at hl 3 rfl) ?_
        refine lv_iconst (v := (1 : Int32)) X.1.1 X.1.2.1 dX7_poke_23 (by decide) ?_
        refine lv_icmp_lt (tgt := 34) X.1.1 X.1.2.1 dX7_poke_24 (by decide) (fun c12 => ?_) (fun c12 => ?_)
        · have h := h.1 c12
          refine lv_iconst (v := (0 : Int32)) X.1.1 X.1.2.1 dX7_poke_34 (by decide) ?_
          exact W.zret X.1.1 X.1.2.1 hr (by decide) (fun t ht _ => V.q (r := (0 : Int32)) h ht) V.2.1.2.2 dX7_poke_35 X.1.2.2.2.2
        · have h := h.2 c12
          refine lv_iload_n X.1.1 X.1.2.1 dX7_poke_27 rfl (lv_at hl 3 rfl) ?_
          refine lv_sipush (v := (255 : Int32)) X.1.1 X.1.2.1 dX7_poke_28 (by decide) ?_
          refine lv_icmp_le (tgt := 36) X.1.1 X.1.2.1 dX7_poke_31 (by decide) (fun c13 => ?_) (fun c13 => ?_)
          · have h := h.1 c13
            refine lv_aload_n X.1.1 X.1.2.1 dX7_poke_36 rfl (lv_at hl 0 rfl) ?_
            obtain ⟨o14, e15, h⟩ := h
            refine gf_X7_54 X V k1 e15 dX7_poke_37 ?_
            refine lv_bipush (v := (120 : Int32)) X.1.1 X.1.2.1 dX7_poke_40 (by decide) ?_
            refine lv_iload_n X.1.1 X.1.2.1 dX7_poke_42 rfl (lv_at hl 1 rfl) ?_
            refine lv_imul X.1.1 X.1.2.1 dX7_poke_43 ?_
            refine lv_iload_n X.1.1 X.1.2.1 dX7_poke_44 rfl (lv_at hl 2 rfl) ?_
            refine lv_iadd X.1.1 X.1.2.1 dX7_poke_45 ?_
            refine lv_dup2_11 X.1.1 X.1.2.1 dX7_poke_46 rfl rfl ?_
            obtain ⟨k16, h⟩ := h
            obtain ⟨i17, h⟩ := h
            refine r_bald X V k16 i17 dX7_poke_47 ?_
            refine lv_iload_n X.1.1 X.1.2.1 dX7_poke_48 rfl (lv_at hl 3 rfl) ?_
            refine lv_ixor X.1.1 X.1.2.1 dX7_poke_49 ?_
            refine lv_i2b X.1.1 X.1.2.1 dX7_poke_50 rfl ?_
            obtain ⟨i18, h⟩ := h
            refine r_bast X V k16 i18 dX7_poke_51 (fun H locs V => ?_)
            refine lv_iconst (v := (1 : Int32)) X.1.1 X.1.2.1 dX7_poke_52 (by decide) ?_
            exact W.zret X.1.1 X.1.2.1 hr (by decide) (fun t ht _ => V.q (r := (1 : Int32)) h ht) V.2.1.2.2 dX7_poke_53 X.1.2.2.2.2
          · have h := h.2 c13
            refine lv_iconst (v := (0 : Int32)) X.1.1 X.1.2.1 dX7_poke_34 (by decide) ?_
            exact W.zret X.1.1 X.1.2.1 hr (by decide) (fun t ht _ => V.q (r := (0 : Int32)) h ht) V.2.1.2.2 dX7_poke_35 X.1.2.2.2.2
abbrev rm_X7_flying : Room := { frames := 0, cells := 0, slots := 0, locals := 0 }
def wp_X7_flying (post : Int32 → HS → Prop) (S : HS) (a0 : Nat) : Prop := kd S a0 = 8 ∧ (post (fi S 47 a0) S)
set_option maxHeartbeats 400000 in
set_option maxRecDepth 100000 in
theorem sd_X7_flying (l : Launch) (D : va_G) (ka : Nat → ClassId) (sz : Nat) (Z : HS) (post : Int32 → HS → Prop) (a0 : Nat) (h : wp_X7_flying post Z a0) : Met l yX7_flying [Cond.code yX7_flying cX7_flying 1 (some .int)] rm_X7_flying (Px D ka Z sz [.ref a0]) (Qx eI post D ka Z sz) 0 0 (fA Z sz) := by
  refine Met.ofW (cc := cX7_flying) (maxL := 1) (ret := (some .int)) (by decide) rfl ?_
  intro p e s m args below meth c s₁ B hml hv
  obtain ⟨rfl, X, V, hsz⟩ := Cx.entry B hml hv
  have hr : meth.sig.returnType = (some .int) := B.returns
  have hl := lv_entry ([.ref a0]) (n := 1) (Nat.le_of_ble_eq_true rfl)
  rw [lg_entry_eq]
  generalize (lg_sl ([.ref a0]) ++ List.replicate (1 - (lg_sl ([.ref a0])).length) Slot.unset).toArray = ls at hl ⊢
  have hl : lv_has ls 1 [(0, .ref a0)] := hl
  have h : wp_X7_flying post Z a0 := h
  refine lv_aload_n X.1.1 X.1.2.1 dX7_flying_0 rfl (lv_at hl 0 rfl) ?_
  obtain ⟨k1, h⟩ := h
  refine gf_X7_83 X V k1 dX7_flying_1 ?_
  exact W.iret X.1.1 X.1.2.1 hr (fun t ht _ => V.q (r := (fi Z 47 a0)) h ht) V.2.1.2.2 dX7_flying_4 X.1.2.2.2.2
abbrev rm_X7_packet : Room := { frames := 1, cells := 0, slots := 0, locals := 21 }
def wp_X7_packet (post : Int32 → HS → Prop) (S : HS) (a0 : Nat) (v1 : Int32) (v2 : Int32) : Prop := kd S a0 = 8 ∧ (wp_X7_isPacket (fun r3 S2 => ((r3 = 0 → post (-1 : Int32) S2) ∧ (¬ r3 = 0 → ((v2 < 0 → post (-1 : Int32) S2) ∧ (¬ v2 < 0 → ∃ o7 : Nat, fr S2 45 a0 = some o7 ∧ (kd S2 o7 / 32 = 1 ∧ (vp_in v1 (ln S2 o7) ∧ ((((ai S2 o7 v1.toNatClampNeg) ≤ v2 → post (-1 : Int32) S2) ∧ (¬ (ai S2 o7 v1.toNatClampNeg) ≤ v2 → ∃ o12 : Nat, fr S2 44 a0 = some o12 ∧ (kd S2 o12 / 32 = 2 ∧ (vp_in (((120 : Int32) * v1) + v2) (ln S2 o12) ∧ (post ((ai S2 o12 (((120 : Int32) * v1) + v2).toNatClampNeg) &&& (255 : Int32)) S2))))))))))))) S a0 v1)
set_option maxHeartbeats 400000 in
set_option maxRecDepth 100000 in
theorem sd_X7_packet (l : Launch) (D : va_G) (ka : Nat → ClassId) (sz : Nat) (Z : HS) (post : Int32 → HS → Prop) (a0 : Nat) (v1 : Int32) (v2 : Int32) (h : wp_X7_packet post Z a0 v1 v2) : Met l yX7_packet [Cond.code yX7_packet cX7_packet 3 (some .int)] rm_X7_packet (Px D ka Z sz [.ref a0, .int v1, .int v2]) (Qx eI post D ka Z sz) 0 0 (fA Z sz) := by
  refine Met.ofW (cc := cX7_packet) (maxL := 3) (ret := (some .int)) (by decide) rfl ?_
  intro p e s m args below meth c s₁ B hml hv
  obtain ⟨rfl, X, V, hsz⟩ := Cx.entry B hml hv
  have hr : meth.sig.returnType = (some .int) := B.returns
  have hl := lv_entry ([.ref a0, .int v1, .int v2]) (n := 3) (Nat.le_of_ble_eq_true rfl)
  rw [lg_entry_eq]
  generalize (lg_sl ([.ref a0, .int v1, .int v2]) ++ List.replicate (3 - (lg_sl ([.ref a0, .int v1, .int v2])).length) Slot.unset).toArray = ls at hl ⊢
  have hl : lv_has ls 3 [(0, .ref a0), (1, .int v1), (2, .int v2)] := hl
  have h : wp_X7_packet post Z a0 v1 v2 := h
  refine lv_aload_n X.1.1 X.1.2.1 dX7_packet_0 rfl (lv_at hl 0 rfl) ?_
  refine lv_iload_n X.1.1 X.1.2.1 dX7_packet_1 rfl (lv_at hl 1 rfl) ?_
  obtain ⟨k1, h⟩ := h
  refine r_callV (k := 8) (n := 1) (As := [.int v1]) X V (sd_X7_isPacket l D ka _ Z _ a0 v1 h) k1 (by decide) (by decide) rfl wd_551 wd_552 wd_447 wd_553 wd_554 rfl rfl (by decide +kernel) ⟨Nat.le_of_ble_eq_true rfl, Nat.le_of_ble_eq_true rfl⟩ rfl hl.1 rfl (Nat.le_of_ble_eq_true rfl) dX7_packet_2 ⟨show 0 ≤ 0 by omega, show 0 ≤ 0 by omega⟩ (fun r3 S2 H locs h m4 V => ?_)
  have k1 := m4.k k1 (by decide)
  refine lv_if_eq (tgt := 40) X.1.1 X.1.2.1 dX7_packet_5 (by decide) (fun c5 => ?_) (fun c5 => ?_)
  · have h := h.1 c5
    refine lv_iconst (v := (-1 : Int32)) X.1.1 X.1.2.1 dX7_packet_40 (by decide) ?_
    exact W.iret X.1.1 X.1.2.1 hr (fun t ht _ => V.q (r := (-1 : Int32)) h ht) V.2.1.2.2 dX7_packet_41 X.1.2.2.2.2
  · have h := h.2 c5
    refine lv_iload_n X.1.1 X.1.2.1 dX7_packet_8 rfl (lv_at hl 2 rfl) ?_
    refine lv_if_lt (tgt := 40) X.1.1 X.1.2.1 dX7_packet_9 (by decide) (fun c6 => ?_) (fun c6 => ?_)
    · have h := h.1 c6
      refine lv_iconst (v := (-1 : Int32)) X.1.1 X.1.2.1 dX7_packet_40 (by decide) ?_
      exact W.iret X.1.1 X.1.2.1 hr (fun t ht _ => V.q (r := (-1 : Int32)) h ht) V.2.1.2.2 dX7_packet_41 X.1.2.2.2.2
    · have h := h.2 c6
      refine lv_iload_n X.1.1 X.1.2.1 dX7_packet_12 rfl (lv_at hl 2 rfl) ?_
      refine lv_aload_n X.1.1 X.1.2.1 dX7_packet_13 rfl (lv_at hl 0 rfl) ?_
      obtain ⟨o7, e8, h⟩ := h
      refine gf_X7_57 X V k1 e8 dX7_packet_14 ?_
      refine lv_iload_n X.1.1 X.1.2.1 dX7_packet_17 rfl (lv_at hl 1 rfl) ?_
      obtain ⟨k9, h⟩ := h
      obtain ⟨i10, h⟩ := h
      refine r_iald X V k9 i10 dX7_packet_18 ?_
      refine lv_icmp_ge (tgt := 40) X.1.1 X.1.2.1 dX7_packet_19 (by decide) (fun c11 => ?_) (fun c11 => ?_)
      · have h := h.1 c11
        refine lv_iconst (v := (-1 : Int32)) X.1.1 X.1.2.1 dX7_packet_40 (by decide) ?_
        exact W.iret X.1.1 X.1.2.1 hr (fun t ht _ => V.q (r := (-1 : Int32)) h ht) V.2.1.2.2 dX7_packet_41 X.1.2.2.2.2
      · have h := h.2 c11
        refine lv_aload_n X.1.1 X.1.2.1 dX7_packet_22 rfl (lv_at hl 0 rfl) ?_
        obtain ⟨o12, e13, h⟩ := h
        refine gf_X7_54 X V k1 e13 dX7_packet_23 ?_
        refine lv_bipush (v := (120 : Int32)) X.1.1 X.1.2.1 dX7_packet_26 (by decide) ?_
        refine lv_iload_n X.1.1 X.1.2.1 dX7_packet_28 rfl (lv_at hl 1 rfl) ?_
        refine lv_imul X.1.1 X.1.2.1 dX7_packet_29 ?_
        refine lv_iload_n X.1.1 X.1.2.1 dX7_packet_30 rfl (lv_at hl 2 rfl) ?_
        refine lv_iadd X.1.1 X.1.2.1 dX7_packet_31 ?_
        obtain ⟨k14, h⟩ := h
        obtain ⟨i15, h⟩ := h
        refine r_bald X V k14 i15 dX7_packet_32 ?_
        refine lv_sipush (v := (255 : Int32)) X.1.1 X.1.2.1 dX7_packet_33 (by decide) ?_
        refine lv_iand X.1.1 X.1.2.1 dX7_packet_36 ?_
        refine lv_goto (tgt := 41) X.1.1 X.1.2.1 dX7_packet_37 (by decide) ?_
        exact W.iret X.1.1 X.1.2.1 hr (fun t ht _ => V.q (r := ((ai S2 o12 (((120 : Int32) * v1) + v2).toNatClampNeg) &&& (255 : Int32))) h ht) V.2.1.2.2 dX7_packet_41 X.1.2.2.2.2
abbrev rm_X7_size : Room := { frames := 1, cells := 0, slots := 0, locals := 21 }
def wp_X7_size (post : Int32 → HS → Prop) (S : HS) (a0 : Nat) (v1 : Int32) : Prop := kd S a0 = 8 ∧ (wp_X7_isPacket (fun r3 S2 => ((r3 = 0 → post (-1 : Int32) S2) ∧ (¬ r3 = 0 → ∃ o6 : Nat, fr S2 45 a0 = some o6 ∧ (kd S2 o6 / 32 = 1 ∧ (vp_in v1 (ln S2 o6) ∧ (post (ai S2 o6 v1.toNatClampNeg) S2)))))) S a0 v1)
set_option maxHeartbeats 400000 in
set_option maxRecDepth 100000 in
theorem sd_X7_size (l : Launch) (D : va_G) (ka : Nat → ClassId) (sz : Nat) (Z : HS) (post : Int32 → HS → Prop) (a0 : Nat) (v1 : Int32) (h : wp_X7_size post Z a0 v1) : Met l yX7_size [Cond.code yX7_size cX7_size 2 (some .int)] rm_X7_size (Px D ka Z sz [.ref a0, .int v1]) (Qx eI post D ka Z sz) 0 0 (fA Z sz) := by
  refine Met.ofW (cc := cX7_size) (maxL := 2) (ret := (some .int)) (by decide) rfl ?_
  intro p e s m args below meth c s₁ B hml hv
  obtain ⟨rfl, X, V, hsz⟩ := Cx.entry B hml hv
  have hr : meth.sig.returnType = (some .int) := B.returns
  have hl := lv_entry ([.ref a0, .int v1]) (n := 2) (Nat.le_of_ble_eq_true rfl)
  rw [lg_entry_eq]
  generalize (lg_sl ([.ref a0, .int v1]) ++ List.replicate (2 - (lg_sl ([.ref a0, .int v1])).length) Slot.unset).toArray = ls at hl ⊢
  have hl : lv_has ls 2 [(0, .ref a0), (1, .int v1)] := hl
  have h : wp_X7_size post Z a0 v1 := h
  refine lv_aload_n X.1.1 X.1.2.1 dX7_size_0 rfl (lv_at hl 0 rfl) ?_
  refine lv_iload_n X.1.1 X.1.2.1 dX7_size_1 rfl (lv_at hl 1 rfl) ?_
  obtain ⟨k1, h⟩ := h
  refine r_callV (k := 8) (n := 1) (As := [.int v1]) X V (sd_X7_isPacket l D ka _ Z _ a0 v1 h) k1 (by decide) (by decide) rfl wd_551 wd_552 wd_447 wd_553 wd_554 rfl rfl (by decide +kernel) ⟨Nat.le_of_ble_eq_true rfl, Nat.le_of_ble_eq_true rfl⟩ rfl hl.1 rfl (Nat.le_of_ble_eq_true rfl) dX7_size_2 ⟨show 0 ≤ 0 by omega, show 0 ≤ 0 by omega⟩ (fun r3 S2 H locs h m4 V => ?_)
  have k1 := m4.k k1 (by decide)
  refine lv_if_eq (tgt := 17) X.1.1 X.1.2.1 dX7_size_5 (by decide) (fun c5 => ?_) (fun c5 => ?_)
  · have h := h.1 c5
    refine lv_iconst (v := (-1 : Int32)) X.1.1 X.1.2.1 dX7_size_17 (by decide) ?_
    exact W.iret X.1.1 X.1.2.1 hr (fun t ht _ => V.q (r := (-1 : Int32)) h ht) V.2.1.2.2 dX7_size_18 X.1.2.2.2.2
  · have h := h.2 c5
    refine lv_aload_n X.1.1 X.1.2.1 dX7_size_8 rfl (lv_at hl 0 rfl) ?_
    obtain ⟨o6, e7, h⟩ := h
    refine gf_X7_57 X V k1 e7 dX7_size_9 ?_
    refine lv_iload_n X.1.1 X.1.2.1 dX7_size_12 rfl (lv_at hl 1 rfl) ?_
    obtain ⟨k8, h⟩ := h
    obtain ⟨i9, h⟩ := h
    refine r_iald X V k8 i9 dX7_size_13 ?_
    refine lv_goto (tgt := 18) X.1.1 X.1.2.1 dX7_size_14 (by decide) ?_
    exact W.iret X.1.1 X.1.2.1 hr (fun t ht _ => V.q (r := (ai S2 o6 v1.toNatClampNeg)) h ht) V.2.1.2.2 dX7_size_18 X.1.2.2.2.2
abbrev rm_X7_tick : Room := { frames := 1, cells := 0, slots := 0, locals := 23 }
def wp_X7_tick_32 : Nat → (Int32 → HS → Prop) → (HS → Nat → Int32 → Int32 → Int32 → Prop) → HS → Nat → Int32 → Int32 → Int32 → Int32 → Prop
  | 0, _, _, _, _, _, _, _, _ => False
  | n + 1, post, K18, S, b0, x1, x2, x3, x4 => kd S b0 = 8 ∧ (∃ o6 : Nat, fr S 37 b0 = some o6 ∧ (kd S o6 / 32 = 1 ∧ (vp_in x3 (ln S o6) ∧ ((((((24 : Int32) * x3) + (ai S o6 x3.toNatClampNeg)) ≤ x4 → K18 S b0 x1 x2 (x3 + (1 : Int32))) ∧ (¬ (((24 : Int32) * x3) + (ai S o6 x3.toNatClampNeg)) ≤ x4 → ∃ o11 : Nat, fr S 41 b0 = some o11 ∧ (kd S o11 / 32 = 3 ∧ (vp_in x4 (ln S o11) ∧ (vp_in x4 (ln S o11) ∧ (∃ o16 : Nat, fr (sal S o11 x4.toNatClampNeg ((al S o11 x4.toNatClampNeg) + x1.toInt64)) 41 b0 = some o16 ∧ (kd (sal S o11 x4.toNatClampNeg ((al S o11 x4.toNatClampNeg) + x1.toInt64)) o16 / 32 = 3 ∧ (vp_in x4 (ln (sal S o11 x4.toNatClampNeg ((al S o11 x4.toNatClampNeg) + x1.toInt64)) o16) ∧ ((((lg_cmp (al (sal S o11 x4.toNatClampNeg ((al S o11 x4.toNatClampNeg) + x1.toInt64)) o16 x4.toNatClampNeg) (300 : Int64)) ≤ 0 → wp_X7_tick_32 n post K18 (sal S o11 x4.toNatClampNeg ((al S o11 x4.toNatClampNeg) + x1.toInt64)) b0 x1 x2 x3 (x4 + (1 : Int32))) ∧ (¬ (lg_cmp (al (sal S o11 x4.toNatClampNeg ((al S o11 x4.toNatClampNeg) + x1.toInt64)) o16 x4.toNatClampNeg) (300 : Int64)) ≤ 0 → wp_X7_remove (fun _ S21 => wp_X7_tick_32 n post K18 S21 b0 x1 (x2 + (1 : Int32)) x3 x4) (sal S o11 x4.toNatClampNeg ((al S o11 x4.toNatClampNeg) + x1.toInt64)) b0 x3 x4)))))))))))))))
set_option maxHeartbeats 400000 in
set_option maxRecDepth 100000 in
theorem sl_X7_tick_32 (l : Launch) (D : va_G) (ka : Nat → ClassId) (sz : Nat) (Z : HS) (post : Int32 → HS → Prop) {p : Program} {e : Env} {s : State} {m : MethodId} {args : Array Value} {below : List Frame} {meth : Method} {c : Code} (X : Cx p s m meth c cX7_tick 5 RX7 D ka Z (fA Z sz)) (hr : meth.sig.returnType = (some .int))  {K18 : HS → Nat → Int32 → Int32 → Int32 → Prop} (hK18 : ∀ (S : HS) (b0 : Nat) (x1 : Int32) (x2 : Int32) (x3 : Int32), K18 S b0 x1 x2 x3 → ∀ (H : Heap) (locs : List Loc) (ls : Array Slot), Hv D ka Z s (fA Z sz) S H locs → lv_has ls 5 [(0, .ref b0), (1, .int x1), (2, .int x2), (3, .int x3)] → W p l e rm_X7_tick s m args below meth c H locs 0 0 (MQ below (Qx eI post D ka Z sz) args s 0 0 (fA Z sz)) (F0 m 18 ls [])) : ∀ (n : Nat), ∀ (S : HS) (b0 : Nat) (x1 : Int32) (x2 : Int32) (x3 : Int32) (x4 : Int32), wp_X7_tick_32 n post K18 S b0 x1 x2 x3 x4 → ∀ (H : Heap) (locs : List Loc) (ls : Array Slot), Hv D ka Z s (fA Z sz) S H locs → lv_has ls 5 [(0, .ref b0), (1, .int x1), (2, .int x2), (3, .int x3), (4, .int x4)] → W p l e rm_X7_tick s m args below meth c H locs 0 0 (MQ below (Qx eI post D ka Z sz) args s 0 0 (fA Z sz)) (F0 m 32 ls []) := by
  intro n
  induction n with
  | zero => intro S b0 x1 x2 x3 x4 h; exact h.elim
  | succ n ih =>
    intro S b0 x1 x2 x3 x4 h H locs ls V hl
    refine lv_iload X.1.1 X.1.2.1 dX7_tick_32 (lv_at hl 4 rfl) ?_
    refine lv_bipush (v := (24 : Int32)) X.1.1 X.1.2.1 dX7_tick_34 (by decide) ?_
    refine lv_iload_n X.1.1 X.1.2.1 dX7_tick_36 rfl (lv_at hl 3 rfl) ?_
    refine lv_imul X.1.1 X.1.2.1 dX7_tick_37 ?_
    refine lv_aload_n X.1.1 X.1.2.1 dX7_tick_38 rfl (lv_at hl 0 rfl) ?_
    obtain ⟨k5, h⟩ := h
    obtain ⟨o6, e7, h⟩ := h
    refine gf_X7_35 X V k5 e7 dX7_tick_39 ?_
    refine lv_iload_n X.1.1 X.1.2.1 dX7_tick_42 rfl (lv_at hl 3 rfl) ?_
    obtain ⟨k8, h⟩ := h
    obtain ⟨i9, h⟩ := h
    refine r_iald X V k8 i9 dX7_tick_43 ?_
    refine lv_iadd X.1.1 X.1.2.1 dX7_tick_44 ?_
    refine lv_icmp_ge (tgt := 93) X.1.1 X.1.2.1 dX7_tick_45 (by decide) (fun c10 => ?_) (fun c10 => ?_)
    · have h := h.1 c10
      refine lv_iinc (v := (x3 + (1 : Int32))) (lv' := [(3, .int (x3 + (1 : Int32))), (0, .ref b0), (1, .int x1), (2, .int x2), (4, .int x4)]) X.1.1 X.1.2.1 dX7_tick_93 hl (k := 3) rfl (congrArg (HAdd.hAdd _) (by decide)) (by decide) rfl (fun ls hl => ?_)
      refine lv_goto (tgt := 18) X.1.1 X.1.2.1 dX7_tick_96 (by decide) ?_
      exact hK18 S b0 x1 x2 (x3 + (1 : Int32)) h _ _ _ V (lv_sub hl [1, 2, 3, 0] rfl)
    · have h := h.2 c10
      refine lv_aload_n X.1.1 X.1.2.1 dX7_tick_48 rfl (lv_at hl 0 rfl) ?_
      obtain ⟨o11, e12, h⟩ := h
      refine gf_X7_48 X V k5 e12 dX7_tick_49 ?_
      refine lv_iload X.1.1 X.1.2.1 dX7_tick_52 (lv_at hl 4 rfl) ?_
      refine lv_dup2_11 X.1.1 X.1.2.1 dX7_tick_54 rfl rfl ?_
      obtain ⟨k13, h⟩ := h
      obtain ⟨i14, h⟩ := h
      refine r_lald X V k13 i14 dX7_tick_55 ?_
      refine lv_iload_n X.1.1 X.1.2.1 dX7_tick_56 rfl (lv_at hl 1 rfl) ?_
      refine lv_i2l X.1.1 X.1.2.1 dX7_tick_57 rfl ?_
      refine lv_ladd X.1.1 X.1.2.1 dX7_tick_58 ?_
      obtain ⟨i15, h⟩ := h
      refine r_last X V k13 i15 dX7_tick_59 (fun H locs V => ?_)
      refine lv_aload_n X.1.1 X.1.2.1 dX7_tick_60 rfl (lv_at hl 0 rfl) ?_
      obtain ⟨o16, e17, h⟩ := h
      refine gf_X7_48 X V k5 e17 dX7_tick_61 ?_
      refine lv_iload X.1.1 X.1.2.1 dX7_tick_64 (lv_at hl 4 rfl) ?_
      obtain ⟨k18, h⟩ := h
      obtain ⟨i19, h⟩ := h
      refine r_lald X V k18 i19 dX7_tick_66 ?_
      refine lv_ldc2 (v := (300 : Int64)) X.1.1 X.1.2.1 X.1.2.2.2.1 (X.w wd_559 rfl _) dX7_tick_67 ?_
      refine W.lcmp X.1.1 X.1.2.1 dX7_tick_70 ?_
      refine lv_if_le (tgt := 87) X.1.1 X.1.2.1 dX7_tick_71 (by decide) (fun c20 => ?_) (fun c20 => ?_)
      · have h := h.1 c20
        refine lv_iinc (v := (x4 + (1 : Int32))) (lv' := [(4, .int (x4 + (1 : Int32))), (0, .ref b0), (1, .int x1), (2, .int x2), (3, .int x3)]) X.1.1 X.1.2.1 dX7_tick_87 hl (k := 4) rfl (congrArg (HAdd.hAdd _) (by decide)) (by decide) rfl (fun ls hl => ?_)
        refine lv_goto (tgt := 32) X.1.1 X.1.2.1 dX7_tick_90 (by decide) ?_
        exact ih (sal S o11 x4.toNatClampNeg ((al S o11 x4.toNatClampNeg) + x1.toInt64)) b0 x1 x2 x3 (x4 + (1 : Int32)) h _ _ _ V (lv_sub hl [1, 2, 3, 4, 0] rfl)
      · have h := h.2 c20
        refine lv_aload_n X.1.1 X.1.2.1 dX7_tick_74 rfl (lv_at hl 0 rfl) ?_
        refine lv_iload_n X.1.1 X.1.2.1 dX7_tick_75 rfl (lv_at hl 3 rfl) ?_
        refine lv_iload X.1.1 X.1.2.1 dX7_tick_76 (lv_at hl 4 rfl) ?_
        refine r_callV (k := 8) (n := 2) (As := [.int x3, .int x4]) X V (sd_X7_remove l D ka _ (sal S o11 x4.toNatClampNeg ((al S o11 x4.toNatClampNeg) + x1.toInt64)) _ b0 x3 x4 h) k5 (by decide) (by decide) rfl wd_469 wd_470 wd_447 wd_471 wd_472 rfl rfl (by decide +kernel) ⟨Nat.le_of_ble_eq_true rfl, Nat.le_of_ble_eq_true rfl⟩ rfl hl.1 rfl (Nat.le_of_ble_eq_true rfl) dX7_tick_78 ⟨show 0 ≤ 0 by omega, show 0 ≤ 0 by omega⟩ (fun r22 S21 H locs h m23 V => ?_)
        have k5 := m23.k k5 (by decide)
        have k8 := m23.t k8 (by decide)
        have k13 := m23.t k13 (by decide)
        have k18 := m23.t k18 (by decide)
        refine lv_iinc (v := (x2 + (1 : Int32))) (lv' := [(2, .int (x2 + (1 : Int32))), (0, .ref b0), (1, .int x1), (3, .int x3), (4, .int x4)]) X.1.1 X.1.2.1 dX7_tick_81 hl (k := 2) rfl (congrArg (HAdd.hAdd _) (by decide)) (by decide) rfl (fun ls hl => ?_)
        refine lv_goto (tgt := 32) X.1.1 X.1.2.1 dX7_tick_84 (by decide) ?_
        exact ih S21 b0 x1 (x2 + (1 : Int32)) x3 x4 h _ _ _ V (lv_sub hl [1, 2, 0, 3, 4] rfl)
def wp_X7_tick_18 : Nat → (Int32 → HS → Prop) → HS → Nat → Int32 → Int32 → Int32 → Prop
  | 0, _, _, _, _, _, _ => False
  | n + 1, post, S, b0, x1, x2, x3 => kd S b0 = 8 ∧ ((((fi S 27 b0) ≤ x3 → post x2 S) ∧ (¬ (fi S 27 b0) ≤ x3 → ∃ n9, wp_X7_tick_32 n9 post (fun Sk b0k x1k x2k x3k => wp_X7_tick_18 n post Sk b0k x1k x2k x3k) S b0 x1 x2 x3 ((24 : Int32) * x3))))
set_option maxHeartbeats 400000 in
set_option maxRecDepth 100000 in
theorem sl_X7_tick_18 (l : Launch) (D : va_G) (ka : Nat → ClassId) (sz : Nat) (Z : HS) (post : Int32 → HS → Prop) {p : Program} {e : Env} {s : State} {m : MethodId} {args : Array Value} {below : List Frame} {meth : Method} {c : Code} (X : Cx p s m meth c cX7_tick 5 RX7 D ka Z (fA Z sz)) (hr : meth.sig.returnType = (some .int))  : ∀ (n : Nat), ∀ (S : HS) (b0 : Nat) (x1 : Int32) (x2 : Int32) (x3 : Int32), wp_X7_tick_18 n post S b0 x1 x2 x3 → ∀ (H : Heap) (locs : List Loc) (ls : Array Slot), Hv D ka Z s (fA Z sz) S H locs → lv_has ls 5 [(0, .ref b0), (1, .int x1), (2, .int x2), (3, .int x3)] → W p l e rm_X7_tick s m args below meth c H locs 0 0 (MQ below (Qx eI post D ka Z sz) args s 0 0 (fA Z sz)) (F0 m 18 ls []) := by
  intro n
  induction n with
  | zero => intro S b0 x1 x2 x3 h; exact h.elim
  | succ n ih =>
    intro S b0 x1 x2 x3 h H locs ls V hl
    refine lv_iload_n X.1.1 X.1.2.1 dX7_tick_18 rfl (lv_at hl 3 rfl) ?_
    refine lv_aload_n X.1.1 X.1.2.1 dX7_tick_19 rfl (lv_at hl 0 rfl) ?_
    obtain ⟨k3, h⟩ := h
    refine gf_X7_76 X V k3 dX7_tick_20 ?_
    refine lv_icmp_ge (tgt := 99) X.1.1 X.1.2.1 dX7_tick_23 (by decide) (fun c4 => ?_) (fun c4 => ?_)
    · have h := h.1 c4
      refine lv_iload_n X.1.1 X.1.2.1 dX7_tick_99 rfl (lv_at hl 2 rfl) ?_
      exact W.iret X.1.1 X.1.2.1 hr (fun t ht _ => V.q (r := x2) h ht) V.2.1.2.2 dX7_tick_100 X.1.2.2.2.2
    · have h := h.2 c4
      refine lv_bipush (v := (24 : Int32)) X.1.1 X.1.2.1 dX7_tick_26 (by decide) ?_
      refine lv_iload_n X.1.1 X.1.2.1 dX7_tick_28 rfl (lv_at hl 3 rfl) ?_
      refine lv_imul X.1.1 X.1.2.1 dX7_tick_29 ?_
      refine lv_istore (lv' := [(4, .int ((24 : Int32) * x3)), (0, .ref b0), (1, .int x1), (2, .int x2), (3, .int x3)]) X.1.1 X.1.2.1 dX7_tick_30 hl (by decide) rfl (fun ls hl => ?_)
      obtain ⟨n9, h⟩ := h
      exact sl_X7_tick_32 l D ka sz Z post X hr ih n9 S b0 x1 x2 x3 ((24 : Int32) * x3) h _ _ _ V (lv_sub hl [1, 2, 3, 4, 0] rfl)
def wp_X7_tick (post : Int32 → HS → Prop) (S : HS) (a0 : Nat) (v1 : Int32) : Prop := ((v1 < (1 : Int32) → post (-1 : Int32) S) ∧ (¬ v1 < (1 : Int32) → ((v1 ≤ (1000 : Int32) → ∃ n9, wp_X7_tick_18 n9 post S a0 v1 (0 : Int32) (0 : Int32)) ∧ (¬ v1 ≤ (1000 : Int32) → post (-1 : Int32) S))))
set_option maxHeartbeats 400000 in
set_option maxRecDepth 100000 in
theorem sd_X7_tick (l : Launch) (D : va_G) (ka : Nat → ClassId) (sz : Nat) (Z : HS) (post : Int32 → HS → Prop) (a0 : Nat) (v1 : Int32) (h : wp_X7_tick post Z a0 v1) : Met l yX7_tick [Cond.code yX7_tick cX7_tick 5 (some .int)] rm_X7_tick (Px D ka Z sz [.ref a0, .int v1]) (Qx eI post D ka Z sz) 0 0 (fA Z sz) := by
  refine Met.ofW (cc := cX7_tick) (maxL := 5) (ret := (some .int)) (by decide) rfl ?_
  intro p e s m args below meth c s₁ B hml hv
  obtain ⟨rfl, X, V, hsz⟩ := Cx.entry B hml hv
  have hr : meth.sig.returnType = (some .int) := B.returns
  have hl := lv_entry ([.ref a0, .int v1]) (n := 5) (Nat.le_of_ble_eq_true rfl)
  rw [lg_entry_eq]
  generalize (lg_sl ([.ref a0, .int v1]) ++ List.replicate (5 - (lg_sl ([.ref a0, .int v1])).length) Slot.unset).toArray = ls at hl ⊢
  have hl : lv_has ls 5 [(0, .ref a0), (1, .int v1)] := hl
  have h : wp_X7_tick post Z a0 v1 := h
  refine lv_iload_n X.1.1 X.1.2.1 dX7_tick_0 rfl (lv_at hl 1 rfl) ?_
  refine lv_iconst (v := (1 : Int32)) X.1.1 X.1.2.1 dX7_tick_1 (by decide) ?_
  refine lv_icmp_lt (tgt := 12) X.1.1 X.1.2.1 dX7_tick_2 (by decide) (fun c1 => ?_) (fun c1 => ?_)
  · have h := h.1 c1
    refine lv_iconst (v := (-1 : Int32)) X.1.1 X.1.2.1 dX7_tick_12 (by decide) ?_
    exact W.iret X.1.1 X.1.2.1 hr (fun t ht _ => V.q (r := (-1 : Int32)) h ht) V.2.1.2.2 dX7_tick_13 X.1.2.2.2.2
  · have h := h.2 c1
    refine lv_iload_n X.1.1 X.1.2.1 dX7_tick_5 rfl (lv_at hl 1 rfl) ?_
    refine lv_sipush (v := (1000 : Int32)) X.1.1 X.1.2.1 dX7_tick_6 (by decide) ?_
    refine lv_icmp_le (tgt := 14) X.1.1 X.1.2.1 dX7_tick_9 (by decide) (fun c2 => ?_) (fun c2 => ?_)
    · have h := h.1 c2
      refine lv_iconst (v := (0 : Int32)) X.1.1 X.1.2.1 dX7_tick_14 (by decide) ?_
      refine lv_istore_n (lv' := [(2, .int (0 : Int32)), (0, .ref a0), (1, .int v1)]) X.1.1 X.1.2.1 dX7_tick_15 rfl hl (by decide) rfl (fun ls hl => ?_)
      refine lv_iconst (v := (0 : Int32)) X.1.1 X.1.2.1 dX7_tick_16 (by decide) ?_
      refine lv_istore_n (lv' := [(3, .int (0 : Int32)), (2, .int (0 : Int32)), (0, .ref a0), (1, .int v1)]) X.1.1 X.1.2.1 dX7_tick_17 rfl hl (by decide) rfl (fun ls hl => ?_)
      obtain ⟨n9, h⟩ := h
      exact sl_X7_tick_18 l D ka sz Z post X hr n9 Z a0 v1 (0 : Int32) (0 : Int32) h _ _ _ V (lv_sub hl [2, 3, 1, 0] rfl)
    · have h := h.2 c2
      refine lv_iconst (v := (-1 : Int32)) X.1.1 X.1.2.1 dX7_tick_12 (by decide) ?_
      exact W.iret X.1.1 X.1.2.1 hr (fun t ht _ => V.q (r := (-1 : Int32)) h ht) V.2.1.2.2 dX7_tick_13 X.1.2.2.2.2
abbrev rm_X7_forget : Room := { frames := 1, cells := 0, slots := 0, locals := 21 }
def wp_X7_forget (post : Int32 → HS → Prop) (S : HS) (a0 : Nat) (v1 : Int32) : Prop := kd S a0 = 8 ∧ (wp_X7_isEndpoint (fun r3 S2 => ((¬ r3 = 0 → ∃ o6 : Nat, fr S2 37 a0 = some o6 ∧ (kd S2 o6 / 32 = 1 ∧ (vp_in v1 (ln S2 o6) ∧ (∃ o10 : Nat, fr S2 37 a0 = some o10 ∧ (kd S2 o10 / 32 = 1 ∧ (vp_in v1 (ln S2 o10) ∧ (post (ai S2 o6 v1.toNatClampNeg) (sai S2 o10 v1.toNatClampNeg (0 : Int32))))))))) ∧ (r3 = 0 → post (-1 : Int32) S2))) S a0 v1)
set_option maxHeartbeats 400000 in
set_option maxRecDepth 100000 in
theorem sd_X7_forget (l : Launch) (D : va_G) (ka : Nat → ClassId) (sz : Nat) (Z : HS) (post : Int32 → HS → Prop) (a0 : Nat) (v1 : Int32) (h : wp_X7_forget post Z a0 v1) : Met l yX7_forget [Cond.code yX7_forget cX7_forget 3 (some .int)] rm_X7_forget (Px D ka Z sz [.ref a0, .int v1]) (Qx eI post D ka Z sz) 0 0 (fA Z sz) := by
  refine Met.ofW (cc := cX7_forget) (maxL := 3) (ret := (some .int)) (by decide) rfl ?_
  intro p e s m args below meth c s₁ B hml hv
  obtain ⟨rfl, X, V, hsz⟩ := Cx.entry B hml hv
  have hr : meth.sig.returnType = (some .int) := B.returns
  have hl := lv_entry ([.ref a0, .int v1]) (n := 3) (Nat.le_of_ble_eq_true rfl)
  rw [lg_entry_eq]
  generalize (lg_sl ([.ref a0, .int v1]) ++ List.replicate (3 - (lg_sl ([.ref a0, .int v1])).length) Slot.unset).toArray = ls at hl ⊢
  have hl : lv_has ls 3 [(0, .ref a0), (1, .int v1)] := hl
  have h : wp_X7_forget post Z a0 v1 := h
  refine lv_aload_n X.1.1 X.1.2.1 dX7_forget_0 rfl (lv_at hl 0 rfl) ?_
  refine lv_iload_n X.1.1 X.1.2.1 dX7_forget_1 rfl (lv_at hl 1 rfl) ?_
  obtain ⟨k1, h⟩ := h
  refine r_callV (k := 8) (n := 1) (As := [.int v1]) X V (sd_X7_isEndpoint l D ka _ Z _ a0 v1 h) k1 (by decide) (by decide) rfl wd_445 wd_446 wd_447 wd_448 wd_449 rfl rfl (by decide +kernel) ⟨Nat.le_of_ble_eq_true rfl, Nat.le_of_ble_eq_true rfl⟩ rfl hl.1 rfl (Nat.le_of_ble_eq_true rfl) dX7_forget_2 ⟨show 0 ≤ 0 by omega, show 0 ≤ 0 by omega⟩ (fun r3 S2 H locs h m4 V => ?_)
  have k1 := m4.k k1 (by decide)
  refine lv_if_ne (tgt := 10) X.1.1 X.1.2.1 dX7_forget_5 (by decide) (fun c5 => ?_) (fun c5 => ?_)
  · have h := h.1 c5
    refine lv_aload_n X.1.1 X.1.2.1 dX7_forget_10 rfl (lv_at hl 0 rfl) ?_
    obtain ⟨o6, e7, h⟩ := h
    refine gf_X7_35 X V k1 e7 dX7_forget_11 ?_
    refine lv_iload_n X.1.1 X.1.2.1 dX7_forget_14 rfl (lv_at hl 1 rfl) ?_
    obtain ⟨k8, h⟩ := h
    obtain ⟨i9, h⟩ := h
    refine r_iald X V k8 i9 dX7_forget_15 ?_
    refine lv_istore_n (lv' := [(2, .int (ai S2 o6 v1.toNatClampNeg)), (0, .ref a0), (1, .int v1)]) X.1.1 X.1.2.1 dX7_forget_16 rfl hl (by decide) rfl (fun ls hl => ?_)
    refine lv_aload_n X.1.1 X.1.2.1 dX7_forget_17 rfl (lv_at hl 1 rfl) ?_
    obtain ⟨o10, e11, h⟩ := h
    refine gf_X7_35 X V k1 e11 dX7_forget_18 ?_
    refine lv_iload_n X.1.1 X.1.2.1 dX7_forget_21 rfl (lv_at hl 2 rfl) ?_
    refine lv_iconst (v := (0 : Int32)) X.1.1 X.1.2.1 dX7_forget_22 (by decide) ?_
    obtain ⟨k12, h⟩ := h
    obtain ⟨i13, h⟩ := h
    refine r_iast X V k12 i13 dX7_forget_23 (fun H locs V => ?_)
    refine lv_iload_n X.1.1 X.1.2.1 dX7_forget_24 rfl (lv_at hl 0 rfl) ?_
    exact W.iret X.1.1 X.1.2.1 hr (fun t ht _ => V.q (r := (ai S2 o6 v1.toNatClampNeg)) h ht) V.2.1.2.2 dX7_forget_25 X.1.2.2.2.2
  · have h := h.2 c5
    refine lv_iconst (v := (-1 : Int32)) X.1.1 X.1.2.1 dX7_forget_8 (by decide) ?_
    exact W.iret X.1.1 X.1.2.1 hr (fun t ht _ => V.q (r := (-1 : Int32)) h ht) V.2.1.2.2 dX7_forget_9 X.1.2.2.2.2
abbrev rm_X7_known : Room := { frames := 1, cells := 0, slots := 0, locals := 21 }
def wp_X7_known (post : Int32 → HS → Prop) (S : HS) (a0 : Nat) (v1 : Int32) : Prop := kd S a0 = 8 ∧ (wp_X7_isEndpoint (fun r3 S2 => ((r3 = 0 → post (-1 : Int32) S2) ∧ (¬ r3 = 0 → ∃ o6 : Nat, fr S2 37 a0 = some o6 ∧ (kd S2 o6 / 32 = 1 ∧ (vp_in v1 (ln S2 o6) ∧ (post (ai S2 o6 v1.toNatClampNeg) S2)))))) S a0 v1)
set_option maxHeartbeats 400000 in
set_option maxRecDepth 100000 in
theorem sd_X7_known (l : Launch) (D : va_G) (ka : Nat → ClassId) (sz : Nat) (Z : HS) (post : Int32 → HS → Prop) (a0 : Nat) (v1 : Int32) (h : wp_X7_known post Z a0 v1) : Met l yX7_known [Cond.code yX7_known cX7_known 2 (some .int)] rm_X7_known (Px D ka Z sz [.ref a0, .int v1]) (Qx eI post D ka Z sz) 0 0 (fA Z sz) := by
  refine Met.ofW (cc := cX7_known) (maxL := 2) (ret := (some .int)) (by decide) rfl ?_
  intro p e s m args below meth c s₁ B hml hv
  obtain ⟨rfl, X, V, hsz⟩ := Cx.entry B hml hv
  have hr : meth.sig.returnType = (some .int) := B.returns
  have hl := lv_entry ([.ref a0, .int v1]) (n := 2) (Nat.le_of_ble_eq_true rfl)
  rw [lg_entry_eq]
  generalize (lg_sl ([.ref a0, .int v1]) ++ List.replicate (2 - (lg_sl ([.ref a0, .int v1])).length) Slot.unset).toArray = ls at hl ⊢
  have hl : lv_has ls 2 [(0, .ref a0), (1, .int v1)] := hl
  have h : wp_X7_known post Z a0 v1 := h
  refine lv_aload_n X.1.1 X.1.2.1 dX7_known_0 rfl (lv_at hl 0 rfl) ?_
  refine lv_iload_n X.1.1 X.1.2.1 dX7_known_1 rfl (lv_at hl 1 rfl) ?_
  obtain ⟨k1, h⟩ := h
  refine r_callV (k := 8) (n := 1) (As := [.int v1]) X V (sd_X7_isEndpoint l D ka _ Z _ a0 v1 h) k1 (by decide) (by decide) rfl wd_445 wd_446 wd_447 wd_448 wd_449 rfl rfl (by decide +kernel) ⟨Nat.le_of_ble_eq_true rfl, Nat.le_of_ble_eq_true rfl⟩ rfl hl.1 rfl (Nat.le_of_ble_eq_true rfl) dX7_known_2 ⟨show 0 ≤ 0 by omega, show 0 ≤ 0 by omega⟩ (fun r3 S2 H locs h m4 V => ?_)
  have k1 := m4.k k1 (by decide)
  refine lv_if_eq (tgt := 17) X.1.1 X.1.2.1 dX7_known_5 (by decide) (fun c5 => ?_) (fun c5 => ?_)
  · have h := h.1 c5
    refine lv_iconst (v := (-1 : Int32)) X.1.1 X.1.2.1 dX7_known_17 (by decide) ?_
    exact W.iret X.1.1 X.1.2.1 hr (fun t ht _ => V.q (r := (-1 : Int32)) h ht) V.2.1.2.2 dX7_known_18 X.1.2.2.2.2
  · have h := h.2 c5
    refine lv_aload_n X.1.1 X.1.2.1 dX7_known_8 rfl (lv_at hl 0 rfl) ?_
    obtain ⟨o6, e7, h⟩ := h
    refine gf_X7_35 X V k1 e7 dX7_known_9 ?_
    refine lv_iload_n X.1.1 X.1.2.1 dX7_known_12 rfl (lv_at hl 1 rfl) ?_
    obtain ⟨k8, h⟩ := h
    obtain ⟨i9, h⟩ := h
    refine r_iald X V k8 i9 dX7_known_13 ?_
    refine lv_goto (tgt := 18) X.1.1 X.1.2.1 dX7_known_14 (by decide) ?_
    exact W.iret X.1.1 X.1.2.1 hr (fun t ht _ => V.q (r := (ai S2 o6 v1.toNatClampNeg)) h ht) V.2.1.2.2 dX7_known_18 X.1.2.2.2.2
abbrev rm_X7_knows : Room := { frames := 1, cells := 0, slots := 0, locals := 21 }
def wp_X7_knows (post : Int64 → HS → Prop) (S : HS) (a0 : Nat) (v1 : Int32) (v2 : Int32) (v3 : Int32) : Prop := kd S a0 = 8 ∧ (wp_X7_isEndpoint (fun r3 S2 => ((r3 = 0 → post (-1 : Int64) S2) ∧ (¬ r3 = 0 → ((v2 < 0 → post (-1 : Int64) S2) ∧ (¬ v2 < 0 → ∃ o7 : Nat, fr S2 37 a0 = some o7 ∧ (kd S2 o7 / 32 = 1 ∧ (vp_in v1 (ln S2 o7) ∧ (((v2 < (ai S2 o7 v1.toNatClampNeg) → ((v3 = (0 : Int32) → ∃ o13 : Nat, fr S2 38 a0 = some o13 ∧ (kd S2 o13 / 32 = 1 ∧ (vp_in (((24 : Int32) * v1) + v2) (ln S2 o13) ∧ (post ((ai S2 o13 (((24 : Int32) * v1) + v2).toNatClampNeg).toInt64) S2)))) ∧ (v3 = (1 : Int32) → ∃ o17 : Nat, fr S2 39 a0 = some o17 ∧ (kd S2 o17 / 32 = 3 ∧ (vp_in (((24 : Int32) * v1) + v2) (ln S2 o17) ∧ (post (al S2 o17 (((24 : Int32) * v1) + v2).toNatClampNeg) S2)))) ∧ (v3 = (2 : Int32) → ∃ o21 : Nat, fr S2 40 a0 = some o21 ∧ (kd S2 o21 / 32 = 1 ∧ (vp_in (((24 : Int32) * v1) + v2) (ln S2 o21) ∧ (((0 ≤ (ai S2 o21 (((24 : Int32) * v1) + v2).toNatClampNeg) → post (-1 : Int64) S2) ∧ (¬ 0 ≤ (ai S2 o21 (((24 : Int32) * v1) + v2).toNatClampNeg) → ∃ o26 : Nat, fr S2 40 a0 = some o26 ∧ (kd S2 o26 / 32 = 1 ∧ (vp_in (((24 : Int32) * v1) + v2) (ln S2 o26) ∧ (post (((-1 : Int32) - (ai S2 o26 (((24 : Int32) * v1) + v2).toNatClampNeg)).toInt64) S2))))))))) ∧ (v3 = (3 : Int32) → ∃ o30 : Nat, fr S2 40 a0 = some o30 ∧ (kd S2 o30 / 32 = 1 ∧ (vp_in (((24 : Int32) * v1) + v2) (ln S2 o30) ∧ (((0 ≤ (ai S2 o30 (((24 : Int32) * v1) + v2).toNatClampNeg) → ∃ o35 : Nat, fr S2 40 a0 = some o35 ∧ (kd S2 o35 / 32 = 1 ∧ (vp_in (((24 : Int32) * v1) + v2) (ln S2 o35) ∧ (post ((ai S2 o35 (((24 : Int32) * v1) + v2).toNatClampNeg).toInt64) S2)))) ∧ (¬ 0 ≤ (ai S2 o30 (((24 : Int32) * v1) + v2).toNatClampNeg) → post (-1 : Int64) S2)))))) ∧ (v3 = (4 : Int32) → ∃ o39 : Nat, fr S2 41 a0 = some o39 ∧ (kd S2 o39 / 32 = 3 ∧ (vp_in (((24 : Int32) * v1) + v2) (ln S2 o39) ∧ (post (al S2 o39 (((24 : Int32) * v1) + v2).toNatClampNeg) S2)))) ∧ (¬ v3 = (0 : Int32) → ¬ v3 = (1 : Int32) → ¬ v3 = (2 : Int32) → ¬ v3 = (3 : Int32) → ¬ v3 = (4 : Int32) → post (-1 : Int64) S2))) ∧ (¬ v2 < (ai S2 o7 v1.toNatClampNeg) → post (-1 : Int64) S2)))))))))) S a0 v1)
set_option maxHeartbeats 400000 in
set_option maxRecDepth 100000 in
theorem sd_X7_knows (l : Launch) (D : va_G) (ka : Nat → ClassId) (sz : Nat) (Z : HS) (post : Int64 → HS → Prop) (a0 : Nat) (v1 : Int32) (v2 : Int32) (v3 : Int32) (h : wp_X7_knows post Z a0 v1 v2 v3) : Met l yX7_knows [Cond.code yX7_knows cX7_knows 5 (some .long)] rm_X7_knows (Px D ka Z sz [.ref a0, .int v1, .int v2, .int v3]) (Qx eL post D ka Z sz) 0 0 (fA Z sz) := by
  refine Met.ofW (cc := cX7_knows) (maxL := 5) (ret := (some .long)) (by decide) rfl ?_
  intro p e s m args below meth c s₁ B hml hv
  obtain ⟨rfl, X, V, hsz⟩ := Cx.entry B hml hv
  have hr : meth.sig.returnType = (some .long) := B.returns
  have hl := lv_entry ([.ref a0, .int v1, .int v2, .int v3]) (n := 5) (Nat.le_of_ble_eq_true rfl)
  rw [lg_entry_eq]
  generalize (lg_sl ([.ref a0, .int v1, .int v2, .int v3]) ++ List.replicate (5 - (lg_sl ([.ref a0, .int v1, .int v2, .int v3])).length) Slot.unset).toArray = ls at hl ⊢
  have hl : lv_has ls 5 [(0, .ref a0), (1, .int v1), (2, .int v2), (3, .int v3)] := hl
  have h : wp_X7_knows post Z a0 v1 v2 v3 := h
  refine lv_aload_n X.1.1 X.1.2.1 dX7_knows_0 rfl (lv_at hl 0 rfl) ?_
  refine lv_iload_n X.1.1 X.1.2.1 dX7_knows_1 rfl (lv_at hl 1 rfl) ?_
  obtain ⟨k1, h⟩ := h
  refine r_callV (k := 8) (n := 1) (As := [.int v1]) X V (sd_X7_isEndpoint l D ka _ Z _ a0 v1 h) k1 (by decide) (by decide) rfl wd_445 wd_446 wd_447 wd_448 wd_449 rfl rfl (by decide +kernel) ⟨Nat.le_of_ble_eq_true rfl, Nat.le_of_ble_eq_true rfl⟩ rfl hl.1 rfl (Nat.le_of_ble_eq_true rfl) dX7_knows_2 ⟨show 0 ≤ 0 by omega, show 0 ≤ 0 by omega⟩ (fun r3 S2 H locs h m4 V => ?_)
  have k1 := m4.k k1 (by decide)
  refine lv_if_eq (tgt := 22) X.1.1 X.1.2.1 dX7_knows_5 (by decide) (fun c5 => ?_) (fun c5 => ?_)
  · have h := h.1 c5
    refine lv_ldc2 (v := (-1 : Int64)) X.1.1 X.1.2.1 X.1.2.2.2.1 (X.w wd_560 rfl _) dX7_knows_22 ?_
    exact W.lret X.1.1 X.1.2.1 hr (fun t ht _ => V.q (r := (-1 : Int64)) h ht) V.2.1.2.2 dX7_knows_25 X.1.2.2.2.2
  · have h := h.2 c5
    refine lv_iload_n X.1.1 X.1.2.1 dX7_knows_8 rfl (lv_at hl 2 rfl) ?_
    refine lv_if_lt (tgt := 22) X.1.1 X.1.2.1 dX7_knows_9 (by decide) (fun c6 => ?_) (fun c6 => ?_)
    · have h := h.1 c6
      refine lv_ldc2 (v := (-1 : Int64)) X.1.1 X.1.2.1 X.1.2.2.2.1 (X.w wd_560 rfl _) dX7_knows_22 ?_
      exact W.lret X.1.1 X.1.2.1 hr (fun t ht _ => V.q (r := (-1 : Int64)) h ht) V.2.1.2.2 dX7_knows_25 X.1.2.2.2.2
    · have h := h.2 c6
      refine lv_iload_n X.1.1 X.1.2.1 dX7_knows_12 rfl (lv_at hl 2 rfl) ?_
      refine lv_aload_n X.1.1 X.1.2.1 dX7_knows_13 rfl (lv_at hl 0 rfl) ?_
      obtain ⟨o7, e8, h⟩ := h
      refine gf_X7_35 X V k1 e8 dX7_knows_14 ?_
      refine lv_iload_n X.1.1 X.1.2.1 dX7_knows_17 rfl (lv_at hl 1 rfl) ?_
      obtain ⟨k9, h⟩ := h
      obtain ⟨i10, h⟩ := h
      refine r_iald X V k9 i10 dX7_knows_18 ?_
      refine lv_icmp_lt (tgt := 26) X.1.1 X.1.2.1 dX7_knows_19 (by decide) (fun c11 => ?_) (fun c11 => ?_)
      · have h := h.1 c11
        refine lv_bipush (v := (24 : Int32)) X.1.1 X.1.2.1 dX7_knows_26 (by decide) ?_
        refine lv_iload_n X.1.1 X.1.2.1 dX7_knows_28 rfl (lv_at hl 1 rfl) ?_
        refine lv_imul X.1.1 X.1.2.1 dX7_knows_29 ?_
        refine lv_iload_n X.1.1 X.1.2.1 dX7_knows_30 rfl (lv_at hl 2 rfl) ?_
        refine lv_iadd X.1.1 X.1.2.1 dX7_knows_31 ?_
        refine lv_istore (lv' := [(4, .int (((24 : Int32) * v1) + v2)), (0, .ref a0), (1, .int v1), (2, .int v2), (3, .int v3)]) X.1.1 X.1.2.1 dX7_knows_32 hl (by decide) rfl (fun ls hl => ?_)
        refine lv_iload_n X.1.1 X.1.2.1 dX7_knows_34 rfl (lv_at hl 4 rfl) ?_
        by_cases c12_0 : v3 = (0 : Int32)
        · have h := h.1 c12_0
          refine lv_tableIn (off := 33) (tgt := 68) X.1.1 X.1.2.1 dX7_knows_35 (by rw [c12_0]; decide) (by rw [c12_0]; decide) (by rw [c12_0]; rfl) (by decide) ?_
          refine lv_aload_n X.1.1 X.1.2.1 dX7_knows_68 rfl (lv_at hl 1 rfl) ?_
          obtain ⟨o13, e14, h⟩ := h
          refine gf_X7_38 X V k1 e14 dX7_knows_69 ?_
          refine lv_iload X.1.1 X.1.2.1 dX7_knows_72 (lv_at hl 0 rfl) ?_
          obtain ⟨k15, h⟩ := h
          obtain ⟨i16, h⟩ := h
          refine r_iald X V k15 i16 dX7_knows_74 ?_
          refine lv_i2l X.1.1 X.1.2.1 dX7_knows_75 rfl ?_
          exact W.lret X.1.1 X.1.2.1 hr (fun t ht _ => V.q (r := (ai S2 o13 (((24 : Int32) * v1) + v2).toNatClampNeg).toInt64) h ht) V.2.1.2.2 dX7_knows_76 X.1.2.2.2.2
        have h := h.2
        by_cases c12_1 : v3 = (1 : Int32)
        · have h := h.1 c12_1
          refine lv_tableIn (off := 42) (tgt := 77) X.1.1 X.1.2.1 dX7_knows_35 (by rw [c12_1]; decide) (by rw [c12_1]; decide) (by rw [c12_1]; rfl) (by decide) ?_
          refine lv_aload_n X.1.1 X.1.2.1 dX7_knows_77 rfl (lv_at hl 1 rfl) ?_
          obtain ⟨o17, e18, h⟩ := h
          refine gf_X7_41 X V k1 e18 dX7_knows_78 ?_
          refine lv_iload X.1.1 X.1.2.1 dX7_knows_81 (lv_at hl 0 rfl) ?_
          obtain ⟨k19, h⟩ := h
          obtain ⟨i20, h⟩ := h
          refine r_lald X V k19 i20 dX7_knows_83 ?_
          exact W.lret X.1.1 X.1.2.1 hr (fun t ht _ => V.q (r := (al S2 o17 (((24 : Int32) * v1) + v2).toNatClampNeg)) h ht) V.2.1.2.2 dX7_knows_84 X.1.2.2.2.2
        have h := h.2
        by_cases c12_2 : v3 = (2 : Int32)
        · have h := h.1 c12_2
          refine lv_tableIn (off := 50) (tgt := 85) X.1.1 X.1.2.1 dX7_knows_35 (by rw [c12_2]; decide) (by rw [c12_2]; decide) (by rw [c12_2]; rfl) (by decide) ?_
          refine lv_aload_n X.1.1 X.1.2.1 dX7_knows_85 rfl (lv_at hl 1 rfl) ?_
          obtain ⟨o21, e22, h⟩ := h
          refine gf_X7_45 X V k1 e22 dX7_knows_86 ?_
          refine lv_iload X.1.1 X.1.2.1 dX7_knows_89 (lv_at hl 0 rfl) ?_
          obtain ⟨k23, h⟩ := h
          obtain ⟨i24, h⟩ := h
          refine r_iald X V k23 i24 dX7_knows_91 ?_
          refine lv_if_ge (tgt := 108) X.1.1 X.1.2.1 dX7_knows_92 (by decide) (fun c25 => ?_) (fun c25 => ?_)
          · have h := h.1 c25
            refine lv_ldc2 (v := (-1 : Int64)) X.1.1 X.1.2.1 X.1.2.2.2.1 (X.w wd_560 rfl _) dX7_knows_108 ?_
            exact W.lret X.1.1 X.1.2.1 hr (fun t ht _ => V.q (r := (-1 : Int64)) h ht) V.2.1.2.2 dX7_knows_111 X.1.2.2.2.2
          · have h := h.2 c25
            refine lv_iconst (v := (-1 : Int32)) X.1.1 X.1.2.1 dX7_knows_95 (by decide) ?_
            refine lv_aload_n X.1.1 X.1.2.1 dX7_knows_96 rfl (lv_at hl 1 rfl) ?_
            obtain ⟨o26, e27, h⟩ := h
            refine gf_X7_45 X V k1 e27 dX7_knows_97 ?_
            refine lv_iload X.1.1 X.1.2.1 dX7_knows_100 (lv_at hl 0 rfl) ?_
            obtain ⟨k28, h⟩ := h
            obtain ⟨i29, h⟩ := h
            refine r_iald X V k28 i29 dX7_knows_102 ?_
            refine lv_isub X.1.1 X.1.2.1 dX7_knows_103 ?_
            refine lv_i2l X.1.1 X.1.2.1 dX7_knows_104 rfl ?_
            refine lv_goto (tgt := 111) X.1.1 X.1.2.1 dX7_knows_105 (by decide) ?_
            exact W.lret X.1.1 X.1.2.1 hr (fun t ht _ => V.q (r := ((-1 : Int32) - (ai S2 o26 (((24 : Int32) * v1) + v2).toNatClampNeg)).toInt64) h ht) V.2.1.2.2 dX7_knows_111 X.1.2.2.2.2
        have h := h.2
        by_cases c12_3 : v3 = (3 : Int32)
        · have h := h.1 c12_3
          refine lv_tableIn (off := 77) (tgt := 112) X.1.1 X.1.2.1 dX7_knows_35 (by rw [c12_3]; decide) (by rw [c12_3]; decide) (by rw [c12_3]; rfl) (by decide) ?_
          refine lv_aload_n X.1.1 X.1.2.1 dX7_knows_112 rfl (lv_at hl 1 rfl) ?_
          obtain ⟨o30, e31, h⟩ := h
          refine gf_X7_45 X V k1 e31 dX7_knows_113 ?_
          refine lv_iload X.1.1 X.1.2.1 dX7_knows_116 (lv_at hl 0 rfl) ?_
          obtain ⟨k32, h⟩ := h
          obtain ⟨i33, h⟩ := h
          refine r_iald X V k32 i33 dX7_knows_118 ?_
          refine lv_if_ge (tgt := 128) X.1.1 X.1.2.1 dX7_knows_119 (by decide) (fun c34 => ?_) (fun c34 => ?_)
          · have h := h.1 c34
            refine lv_aload_n X.1.1 X.1.2.1 dX7_knows_128 rfl (lv_at hl 1 rfl) ?_
            obtain ⟨o35, e36, h⟩ := h
            refine gf_X7_45 X V k1 e36 dX7_knows_129 ?_
            refine lv_iload X.1.1 X.1.2.1 dX7_knows_132 (lv_at hl 0 rfl) ?_
            obtain ⟨k37, h⟩ := h
            obtain ⟨i38, h⟩ := h
            refine r_iald X V k37 i38 dX7_knows_134 ?_
            refine lv_i2l X.1.1 X.1.2.1 dX7_knows_135 rfl ?_
            exact W.lret X.1.1 X.1.2.1 hr (fun t ht _ => V.q (r := (ai S2 o35 (((24 : Int32) * v1) + v2).toNatClampNeg).toInt64) h ht) V.2.1.2.2 dX7_knows_136 X.1.2.2.2.2
          · have h := h.2 c34
            refine lv_ldc2 (v := (-1 : Int64)) X.1.1 X.1.2.1 X.1.2.2.2.1 (X.w wd_560 rfl _) dX7_knows_122 ?_
            refine lv_goto (tgt := 136) X.1.1 X.1.2.1 dX7_knows_125 (by decide) ?_
            exact W.lret X.1.1 X.1.2.1 hr (fun t ht _ => V.q (r := (-1 : Int64)) h ht) V.2.1.2.2 dX7_knows_136 X.1.2.2.2.2
        have h := h.2
        by_cases c12_4 : v3 = (4 : Int32)
        · have h := h.1 c12_4
          refine lv_tableIn (off := 102) (tgt := 137) X.1.1 X.1.2.1 dX7_knows_35 (by rw [c12_4]; decide) (by rw [c12_4]; decide) (by rw [c12_4]; rfl) (by decide) ?_
          refine lv_aload_n X.1.1 X.1.2.1 dX7_knows_137 rfl (lv_at hl 1 rfl) ?_
          obtain ⟨o39, e40, h⟩ := h
          refine gf_X7_48 X V k1 e40 dX7_knows_138 ?_
          refine lv_iload X.1.1 X.1.2.1 dX7_knows_141 (lv_at hl 0 rfl) ?_
          obtain ⟨k41, h⟩ := h
          obtain ⟨i42, h⟩ := h
          refine r_lald X V k41 i42 dX7_knows_143 ?_
          exact W.lret X.1.1 X.1.2.1 hr (fun t ht _ => V.q (r := (al S2 o39 (((24 : Int32) * v1) + v2).toNatClampNeg)) h ht) V.2.1.2.2 dX7_knows_144 X.1.2.2.2.2
        have h := h.2
        have h := h c12_0 c12_1 c12_2 c12_3 c12_4
        refine lv_tableOut (tgt := 145) X.1.1 X.1.2.1 dX7_knows_35 (sw_out 4 _ (by intro j hj; rcases (show j = 0 ∨ j = 1 ∨ j = 2 ∨ j = 3 ∨ j = 4 by omega) with rfl | rfl | rfl | rfl | rfl <;> first | exact c12_0 | exact c12_1 | exact c12_2 | exact c12_3 | exact c12_4)) (by decide) ?_
        refine lv_ldc2 (v := (-1 : Int64)) X.1.1 X.1.2.1 X.1.2.2.2.1 (X.w wd_560 rfl _) dX7_knows_145 ?_
        exact W.lret X.1.1 X.1.2.1 hr (fun t ht _ => V.q (r := (-1 : Int64)) h ht) V.2.1.2.2 dX7_knows_148 X.1.2.2.2.2
      · have h := h.2 c11
        refine lv_ldc2 (v := (-1 : Int64)) X.1.1 X.1.2.1 X.1.2.2.2.1 (X.w wd_560 rfl _) dX7_knows_22 ?_
        exact W.lret X.1.1 X.1.2.1 hr (fun t ht _ => V.q (r := (-1 : Int64)) h ht) V.2.1.2.2 dX7_knows_25 X.1.2.2.2.2
abbrev rm_X7_got : Room := { frames := 1, cells := 0, slots := 0, locals := 21 }
def wp_X7_got (post : Int32 → HS → Prop) (S : HS) (a0 : Nat) (v1 : Int32) : Prop := kd S a0 = 8 ∧ (wp_X7_isStation (fun r3 S2 => ((r3 = 0 → post (-1 : Int32) S2) ∧ (¬ r3 = 0 → ∃ o6 : Nat, fr S2 32 a0 = some o6 ∧ (kd S2 o6 / 32 = 1 ∧ (vp_in v1 (ln S2 o6) ∧ (post (ai S2 o6 v1.toNatClampNeg) S2)))))) S a0 v1)
set_option maxHeartbeats 400000 in
set_option maxRecDepth 100000 in
theorem sd_X7_got (l : Launch) (D : va_G) (ka : Nat → ClassId) (sz : Nat) (Z : HS) (post : Int32 → HS → Prop) (a0 : Nat) (v1 : Int32) (h : wp_X7_got post Z a0 v1) : Met l yX7_got [Cond.code yX7_got cX7_got 2 (some .int)] rm_X7_got (Px D ka Z sz [.ref a0, .int v1]) (Qx eI post D ka Z sz) 0 0 (fA Z sz) := by
  refine Met.ofW (cc := cX7_got) (maxL := 2) (ret := (some .int)) (by decide) rfl ?_
  intro p e s m args below meth c s₁ B hml hv
  obtain ⟨rfl, X, V, hsz⟩ := Cx.entry B hml hv
  have hr : meth.sig.returnType = (some .int) := B.returns
  have hl := lv_entry ([.ref a0, .int v1]) (n := 2) (Nat.le_of_ble_eq_true rfl)
  rw [lg_entry_eq]
  generalize (lg_sl ([.ref a0, .int v1]) ++ List.replicate (2 - (lg_sl ([.ref a0, .int v1])).length) Slot.unset).toArray = ls at hl ⊢
  have hl : lv_has ls 2 [(0, .ref a0), (1, .int v1)] := hl
  have h : wp_X7_got post Z a0 v1 := h
  refine lv_aload_n X.1.1 X.1.2.1 dX7_got_0 rfl (lv_at hl 0 rfl) ?_
  refine lv_iload_n X.1.1 X.1.2.1 dX7_got_1 rfl (lv_at hl 1 rfl) ?_
  obtain ⟨k1, h⟩ := h
  refine r_callV (k := 8) (n := 1) (As := [.int v1]) X V (sd_X7_isStation l D ka _ Z _ a0 v1 h) k1 (by decide) (by decide) rfl wd_455 wd_456 wd_447 wd_457 wd_458 rfl rfl (by decide +kernel) ⟨Nat.le_of_ble_eq_true rfl, Nat.le_of_ble_eq_true rfl⟩ rfl hl.1 rfl (Nat.le_of_ble_eq_true rfl) dX7_got_2 ⟨show 0 ≤ 0 by omega, show 0 ≤ 0 by omega⟩ (fun r3 S2 H locs h m4 V => ?_)
  have k1 := m4.k k1 (by decide)
  refine lv_if_eq (tgt := 17) X.1.1 X.1.2.1 dX7_got_5 (by decide) (fun c5 => ?_) (fun c5 => ?_)
  · have h := h.1 c5
    refine lv_iconst (v := (-1 : Int32)) X.1.1 X.1.2.1 dX7_got_17 (by decide) ?_
    exact W.iret X.1.1 X.1.2.1 hr (fun t ht _ => V.q (r := (-1 : Int32)) h ht) V.2.1.2.2 dX7_got_18 X.1.2.2.2.2
  · have h := h.2 c5
    refine lv_aload_n X.1.1 X.1.2.1 dX7_got_8 rfl (lv_at hl 0 rfl) ?_
    obtain ⟨o6, e7, h⟩ := h
    refine gf_X7_19 X V k1 e7 dX7_got_9 ?_
    refine lv_iload_n X.1.1 X.1.2.1 dX7_got_12 rfl (lv_at hl 1 rfl) ?_
    obtain ⟨k8, h⟩ := h
    obtain ⟨i9, h⟩ := h
    refine r_iald X V k8 i9 dX7_got_13 ?_
    refine lv_goto (tgt := 18) X.1.1 X.1.2.1 dX7_got_14 (by decide) ?_
    exact W.iret X.1.1 X.1.2.1 hr (fun t ht _ => V.q (r := (ai S2 o6 v1.toNatClampNeg)) h ht) V.2.1.2.2 dX7_got_18 X.1.2.2.2.2
abbrev rm_X7_isFrame : Room := { frames := 1, cells := 0, slots := 0, locals := 21 }
def wp_X7_isFrame (post : Int32 → HS → Prop) (S : HS) (a0 : Nat) (v1 : Int32) (v2 : Int32) : Prop := kd S a0 = 8 ∧ (wp_X7_isStation (fun r3 S2 => ((r3 = 0 → post (0 : Int32) S2) ∧ (¬ r3 = 0 → ((v2 < 0 → post (0 : Int32) S2) ∧ (¬ v2 < 0 → (((6 : Int32) ≤ v2 → post (0 : Int32) S2) ∧ (¬ (6 : Int32) ≤ v2 → ∃ o8 : Nat, fr S2 32 a0 = some o8 ∧ (kd S2 o8 / 32 = 1 ∧ (vp_in v1 (ln S2 o8) ∧ ((((ai S2 o8 v1.toNatClampNeg) ≤ v2 → post (0 : Int32) S2) ∧ (¬ (ai S2 o8 v1.toNatClampNeg) ≤ v2 → post (1 : Int32) S2)))))))))))) S a0 v1)
set_option maxHeartbeats 400000 in
set_option maxRecDepth 100000 in
theorem sd_X7_isFrame (l : Launch) (D : va_G) (ka : Nat → ClassId) (sz : Nat) (Z : HS) (post : Int32 → HS → Prop) (a0 : Nat) (v1 : Int32) (v2 : Int32) (h : wp_X7_isFrame post Z a0 v1 v2) : Met l yX7_isFrame [Cond.code yX7_isFrame cX7_isFrame 3 (some .boolean)] rm_X7_isFrame (Px D ka Z sz [.ref a0, .int v1, .int v2]) (Qx eI post D ka Z sz) 0 0 (fA Z sz) := by
  refine Met.ofW (cc := cX7_isFrame) (maxL := 3) (ret := (some .boolean)) (by decide) rfl ?_
  intro p e s m args below meth c s₁ B hml hv
  obtain ⟨rfl, X, V, hsz⟩ := Cx.entry B hml hv
  have hr : meth.sig.returnType = (some .boolean) := B.returns
  have hl := lv_entry ([.ref a0, .int v1, .int v2]) (n := 3) (Nat.le_of_ble_eq_true rfl)
  rw [lg_entry_eq]
  generalize (lg_sl ([.ref a0, .int v1, .int v2]) ++ List.replicate (3 - (lg_sl ([.ref a0, .int v1, .int v2])).length) Slot.unset).toArray = ls at hl ⊢
  have hl : lv_has ls 3 [(0, .ref a0), (1, .int v1), (2, .int v2)] := hl
  have h : wp_X7_isFrame post Z a0 v1 v2 := h
  refine lv_aload_n X.1.1 X.1.2.1 dX7_isFrame_0 rfl (lv_at hl 0 rfl) ?_
  refine lv_iload_n X.1.1 X.1.2.1 dX7_isFrame_1 rfl (lv_at hl 1 rfl) ?_
  obtain ⟨k1, h⟩ := h
  refine r_callV (k := 8) (n := 1) (As := [.int v1]) X V (sd_X7_isStation l D ka _ Z _ a0 v1 h) k1 (by decide) (by decide) rfl wd_455 wd_456 wd_447 wd_457 wd_458 rfl rfl (by decide +kernel) ⟨Nat.le_of_ble_eq_true rfl, Nat.le_of_ble_eq_true rfl⟩ rfl hl.1 rfl (Nat.le_of_ble_eq_true rfl) dX7_isFrame_2 ⟨show 0 ≤ 0 by omega, show 0 ≤ 0 by omega⟩ (fun r3 S2 H locs h m4 V => ?_)
  have k1 := m4.k k1 (by decide)
  refine lv_if_eq (tgt := 32) X.1.1 X.1.2.1 dX7_isFrame_5 (by decide) (fun c5 => ?_) (fun c5 => ?_)
  · have h := h.1 c5
    refine lv_iconst (v := (0 : Int32)) X.1.1 X.1.2.1 dX7_isFrame_32 (by decide) ?_
    exact W.zret X.1.1 X.1.2.1 hr (by decide) (fun t ht _ => V.q (r := (0 : Int32)) h ht) V.2.1.2.2 dX7_isFrame_33 X.1.2.2.2.2
  · have h := h.2 c5
    refine lv_iload_n X.1.1 X.1.2.1 dX7_isFrame_8 rfl (lv_at hl 2 rfl) ?_
    refine lv_if_lt (tgt := 32) X.1.1 X.1.2.1 dX7_isFrame_9 (by decide) (fun c6 => ?_) (fun c6 => ?_)
    · have h := h.1 c6
      refine lv_iconst (v := (0 : Int32)) X.1.1 X.1.2.1 dX7_isFrame_32 (by decide) ?_
      exact W.zret X.1.1 X.1.2.1 hr (by decide) (fun t ht _ => V.q (r := (0 : Int32)) h ht) V.2.1.2.2 dX7_isFrame_33 X.1.2.2.2.2
    · have h := h.2 c6
      refine lv_iload_n X.1.1 X.1.2.1 dX7_isFrame_12 rfl (lv_at hl 2 rfl) ?_
      refine lv_bipush (v := (6 : Int32)) X.1.1 X.1.2.1 dX7_isFrame_13 (by decide) ?_
      refine lv_icmp_ge (tgt := 32) X.1.1 X.1.2.1 dX7_isFrame_15 (by decide) (fun c7 => ?_) (fun c7 => ?_)
      · have h := h.1 c7
        refine lv_iconst (v := (0 : Int32)) X.1.1 X.1.2.1 dX7_isFrame_32 (by decide) ?_
        exact W.zret X.1.1 X.1.2.1 hr (by decide) (fun t ht _ => V.q (r := (0 : Int32)) h ht) V.2.1.2.2 dX7_isFrame_33 X.1.2.2.2.2
      · have h := h.2 c7
        refine lv_iload_n X.1.1 X.1.2.1 dX7_isFrame_18 rfl (lv_at hl 2 rfl) ?_
        refine lv_aload_n X.1.1 X.1.2.1 dX7_isFrame_19 rfl (lv_at hl 0 rfl) ?_
        obtain ⟨o8, e9, h⟩ := h
        refine gf_X7_19 X V k1 e9 dX7_isFrame_20 ?_
        refine lv_iload_n X.1.1 X.1.2.1 dX7_isFrame_23 rfl (lv_at hl 1 rfl) ?_
        obtain ⟨k10, h⟩ := h
        obtain ⟨i11, h⟩ := h
        refine r_iald X V k10 i11 dX7_isFrame_24 ?_
        refine lv_icmp_ge (tgt := 32) X.1.1 X.1.2.1 dX7_isFrame_25 (by decide) (fun c12 => ?_) (fun c12 => ?_)
        · have h := h.1 c12
          refine lv_iconst (v := (0 : Int32)) X.1.1 X.1.2.1 dX7_isFrame_32 (by decide) ?_
          exact W.zret X.1.1 X.1.2.1 hr (by decide) (fun t ht _ => V.q (r := (0 : Int32)) h ht) V.2.1.2.2 dX7_isFrame_33 X.1.2.2.2.2
        · have h := h.2 c12
          refine lv_iconst (v := (1 : Int32)) X.1.1 X.1.2.1 dX7_isFrame_28 (by decide) ?_
          refine lv_goto (tgt := 33) X.1.1 X.1.2.1 dX7_isFrame_29 (by decide) ?_
          exact W.zret X.1.1 X.1.2.1 hr (by decide) (fun t ht _ => V.q (r := (1 : Int32)) h ht) V.2.1.2.2 dX7_isFrame_33 X.1.2.2.2.2
abbrev rm_X7_length : Room := { frames := 2, cells := 0, slots := 0, locals := 43 }
def wp_X7_length (post : Int32 → HS → Prop) (S : HS) (a0 : Nat) (v1 : Int32) (v2 : Int32) : Prop := kd S a0 = 8 ∧ (wp_X7_isFrame (fun r3 S2 => ((r3 = 0 → post (-1 : Int32) S2) ∧ (¬ r3 = 0 → ∃ o6 : Nat, fr S2 34 a0 = some o6 ∧ (kd S2 o6 / 32 = 1 ∧ (vp_in (((6 : Int32) * v1) + v2) (ln S2 o6) ∧ (post (ai S2 o6 (((6 : Int32) * v1) + v2).toNatClampNeg) S2)))))) S a0 v1 v2)
set_option maxHeartbeats 400000 in
set_option maxRecDepth 100000 in
theorem sd_X7_length (l : Launch) (D : va_G) (ka : Nat → ClassId) (sz : Nat) (Z : HS) (post : Int32 → HS → Prop) (a0 : Nat) (v1 : Int32) (v2 : Int32) (h : wp_X7_length post Z a0 v1 v2) : Met l yX7_length [Cond.code yX7_length cX7_length 3 (some .int)] rm_X7_length (Px D ka Z sz [.ref a0, .int v1, .int v2]) (Qx eI post D ka Z sz) 0 0 (fA Z sz) := by
  refine Met.ofW (cc := cX7_length) (maxL := 3) (ret := (some .int)) (by decide) rfl ?_
  intro p e s m args below meth c s₁ B hml hv
  obtain ⟨rfl, X, V, hsz⟩ := Cx.entry B hml hv
  have hr : meth.sig.returnType = (some .int) := B.returns
  have hl := lv_entry ([.ref a0, .int v1, .int v2]) (n := 3) (Nat.le_of_ble_eq_true rfl)
  rw [lg_entry_eq]
  generalize (lg_sl ([.ref a0, .int v1, .int v2]) ++ List.replicate (3 - (lg_sl ([.ref a0, .int v1, .int v2])).length) Slot.unset).toArray = ls at hl ⊢
  have hl : lv_has ls 3 [(0, .ref a0), (1, .int v1), (2, .int v2)] := hl
  have h : wp_X7_length post Z a0 v1 v2 := h
  refine lv_aload_n X.1.1 X.1.2.1 dX7_length_0 rfl (lv_at hl 0 rfl) ?_
  refine lv_iload_n X.1.1 X.1.2.1 dX7_length_1 rfl (lv_at hl 1 rfl) ?_
  refine lv_iload_n X.1.1 X.1.2.1 dX7_length_2 rfl (lv_at hl 2 rfl) ?_
  obtain ⟨k1, h⟩ := h
  refine r_callV (k := 8) (n := 2) (As := [.int v1, .int v2]) X V (sd_X7_isFrame l D ka _ Z _ a0 v1 v2 h) k1 (by decide) (by decide) rfl wd_561 wd_562 wd_447 wd_563 wd_564 rfl rfl (by decide +kernel) ⟨Nat.le_of_ble_eq_true rfl, Nat.le_of_ble_eq_true rfl⟩ rfl hl.1 rfl (Nat.le_of_ble_eq_true rfl) dX7_length_3 ⟨show 0 ≤ 0 by omega, show 0 ≤ 0 by omega⟩ (fun r3 S2 H locs h m4 V => ?_)
  have k1 := m4.k k1 (by decide)
  refine lv_if_eq (tgt := 23) X.1.1 X.1.2.1 dX7_length_6 (by decide) (fun c5 => ?_) (fun c5 => ?_)
  · have h := h.1 c5
    refine lv_iconst (v := (-1 : Int32)) X.1.1 X.1.2.1 dX7_length_23 (by decide) ?_
    exact W.iret X.1.1 X.1.2.1 hr (fun t ht _ => V.q (r := (-1 : Int32)) h ht) V.2.1.2.2 dX7_length_24 X.1.2.2.2.2
  · have h := h.2 c5
    refine lv_aload_n X.1.1 X.1.2.1 dX7_length_9 rfl (lv_at hl 0 rfl) ?_
    obtain ⟨o6, e7, h⟩ := h
    refine gf_X7_26 X V k1 e7 dX7_length_10 ?_
    refine lv_bipush (v := (6 : Int32)) X.1.1 X.1.2.1 dX7_length_13 (by decide) ?_
    refine lv_iload_n X.1.1 X.1.2.1 dX7_length_15 rfl (lv_at hl 1 rfl) ?_
    refine lv_imul X.1.1 X.1.2.1 dX7_length_16 ?_
    refine lv_iload_n X.1.1 X.1.2.1 dX7_length_17 rfl (lv_at hl 2 rfl) ?_
    refine lv_iadd X.1.1 X.1.2.1 dX7_length_18 ?_
    obtain ⟨k8, h⟩ := h
    obtain ⟨i9, h⟩ := h
    refine r_iald X V k8 i9 dX7_length_19 ?_
    refine lv_goto (tgt := 24) X.1.1 X.1.2.1 dX7_length_20 (by decide) ?_
    exact W.iret X.1.1 X.1.2.1 hr (fun t ht _ => V.q (r := (ai S2 o6 (((6 : Int32) * v1) + v2).toNatClampNeg)) h ht) V.2.1.2.2 dX7_length_24 X.1.2.2.2.2
abbrev rm_X7_frame : Room := { frames := 3, cells := 0, slots := 0, locals := 65 }
def wp_X7_frame (post : Int32 → HS → Prop) (S : HS) (a0 : Nat) (v1 : Int32) (v2 : Int32) (v3 : Int32) : Prop := ((v3 < 0 → post (-1 : Int32) S) ∧ (¬ v3 < 0 → kd S a0 = 8 ∧ (wp_X7_length (fun r4 S3 => ((r4 ≤ v3 → post (-1 : Int32) S3) ∧ (¬ r4 ≤ v3 → ∃ o7 : Nat, fr S3 33 a0 = some o7 ∧ (kd S3 o7 / 32 = 2 ∧ (vp_in (((120 : Int32) * (((6 : Int32) * v1) + v2)) + v3) (ln S3 o7) ∧ (post ((ai S3 o7 (((120 : Int32) * (((6 : Int32) * v1) + v2)) + v3).toNatClampNeg) &&& (255 : Int32)) S3)))))) S a0 v1 v2)))
set_option maxHeartbeats 400000 in
set_option maxRecDepth 100000 in
theorem sd_X7_frame (l : Launch) (D : va_G) (ka : Nat → ClassId) (sz : Nat) (Z : HS) (post : Int32 → HS → Prop) (a0 : Nat) (v1 : Int32) (v2 : Int32) (v3 : Int32) (h : wp_X7_frame post Z a0 v1 v2 v3) : Met l yX7_frame [Cond.code yX7_frame cX7_frame 4 (some .int)] rm_X7_frame (Px D ka Z sz [.ref a0, .int v1, .int v2, .int v3]) (Qx eI post D ka Z sz) 0 0 (fA Z sz) := by
  refine Met.ofW (cc := cX7_frame) (maxL := 4) (ret := (some .int)) (by decide) rfl ?_
  intro p e s m args below meth c s₁ B hml hv
  obtain ⟨rfl, X, V, hsz⟩ := Cx.entry B hml hv
  have hr : meth.sig.returnType = (some .int) := B.returns
  have hl := lv_entry ([.ref a0, .int v1, .int v2, .int v3]) (n := 4) (Nat.le_of_ble_eq_true rfl)
  rw [lg_entry_eq]
  generalize (lg_sl ([.ref a0, .int v1, .int v2, .int v3]) ++ List.replicate (4 - (lg_sl ([.ref a0, .int v1, .int v2, .int v3])).length) Slot.unset).toArray = ls at hl ⊢
  have hl : lv_has ls 4 [(0, .ref a0), (1, .int v1), (2, .int v2), (3, .int v3)] := hl
  have h : wp_X7_frame post Z a0 v1 v2 v3 := h
  refine lv_iload_n X.1.1 X.1.2.1 dX7_frame_0 rfl (lv_at hl 3 rfl) ?_
  refine lv_if_lt (tgt := 37) X.1.1 X.1.2.1 dX7_frame_1 (by decide) (fun c1 => ?_) (fun c1 => ?_)
  · have h := h.1 c1
    refine lv_iconst (v := (-1 : Int32)) X.1.1 X.1.2.1 dX7_frame_37 (by decide) ?_
    exact W.iret X.1.1 X.1.2.1 hr (fun t ht _ => V.q (r := (-1 : Int32)) h ht) V.2.1.2.2 dX7_frame_38 X.1.2.2.2.2
  · have h := h.2 c1
    refine lv_iload_n X.1.1 X.1.2.1 dX7_frame_4 rfl (lv_at hl 3 rfl) ?_
    refine lv_aload_n X.1.1 X.1.2.1 dX7_frame_5 rfl (lv_at hl 0 rfl) ?_
    refine lv_iload_n X.1.1 X.1.2.1 dX7_frame_6 rfl (lv_at hl 1 rfl) ?_
    refine lv_iload_n X.1.1 X.1.2.1 dX7_frame_7 rfl (lv_at hl 2 rfl) ?_
    obtain ⟨k2, h⟩ := h
    refine r_callV (k := 8) (n := 2) (As := [.int v1, .int v2]) X V (sd_X7_length l D ka _ Z _ a0 v1 v2 h) k2 (by decide) (by decide) rfl wd_565 wd_566 wd_447 wd_567 wd_568 rfl rfl (by decide +kernel) ⟨Nat.le_of_ble_eq_true rfl, Nat.le_of_ble_eq_true rfl⟩ rfl hl.1 rfl (Nat.le_of_ble_eq_true rfl) dX7_frame_8 ⟨show 0 ≤ 0 by omega, show 0 ≤ 0 by omega⟩ (fun r4 S3 H locs h m5 V => ?_)
    have k2 := m5.k k2 (by decide)
    refine lv_icmp_ge (tgt := 37) X.1.1 X.1.2.1 dX7_frame_11 (by decide) (fun c6 => ?_) (fun c6 => ?_)
    · have h := h.1 c6
      refine lv_iconst (v := (-1 : Int32)) X.1.1 X.1.2.1 dX7_frame_37 (by decide) ?_
      exact W.iret X.1.1 X.1.2.1 hr (fun t ht _ => V.q (r := (-1 : Int32)) h ht) V.2.1.2.2 dX7_frame_38 X.1.2.2.2.2
    · have h := h.2 c6
      refine lv_aload_n X.1.1 X.1.2.1 dX7_frame_14 rfl (lv_at hl 0 rfl) ?_
      obtain ⟨o7, e8, h⟩ := h
      refine gf_X7_22 X V k2 e8 dX7_frame_15 ?_
      refine lv_bipush (v := (120 : Int32)) X.1.1 X.1.2.1 dX7_frame_18 (by decide) ?_
      refine lv_bipush (v := (6 : Int32)) X.1.1 X.1.2.1 dX7_frame_20 (by decide) ?_
      refine lv_iload_n X.1.1 X.1.2.1 dX7_frame_22 rfl (lv_at hl 1 rfl) ?_
      refine lv_imul X.1.1 X.1.2.1 dX7_frame_23 ?_
      refine lv_iload_n X.1.1 X.1.2.1 dX7_frame_24 rfl (lv_at hl 2 rfl) ?_
      refine lv_iadd X.1.1 X.1.2.1 dX7_frame_25 ?_
      refine lv_imul X.1.1 X.1.2.1 dX7_frame_26 ?_
      refine lv_iload_n X.1.1 X.1.2.1 dX7_frame_27 rfl (lv_at hl 3 rfl) ?_
      refine lv_iadd X.1.1 X.1.2.1 dX7_frame_28 ?_
      obtain ⟨k9, h⟩ := h
      obtain ⟨i10, h⟩ := h
      refine r_bald X V k9 i10 dX7_frame_29 ?_
      refine lv_sipush (v := (255 : Int32)) X.1.1 X.1.2.1 dX7_frame_30 (by decide) ?_
      refine lv_iand X.1.1 X.1.2.1 dX7_frame_33 ?_
      refine lv_goto (tgt := 38) X.1.1 X.1.2.1 dX7_frame_34 (by decide) ?_
      exact W.iret X.1.1 X.1.2.1 hr (fun t ht _ => V.q (r := ((ai S3 o7 (((120 : Int32) * (((6 : Int32) * v1) + v2)) + v3).toNatClampNeg) &&& (255 : Int32))) h ht) V.2.1.2.2 dX7_frame_38 X.1.2.2.2.2
abbrev rm_X7_count : Room := { frames := 0, cells := 0, slots := 0, locals := 0 }
def wp_X7_count (post : Int32 → HS → Prop) (S : HS) (a0 : Nat) (v1 : Int32) : Prop := ((v1 < 0 → post (-1 : Int32) S) ∧ (¬ v1 < 0 → (((12 : Int32) < v1 → post (-1 : Int32) S) ∧ (¬ (12 : Int32) < v1 → kd S a0 = 8 ∧ (∃ o4 : Nat, fr S 48 a0 = some o4 ∧ (kd S o4 / 32 = 1 ∧ (vp_in v1 (ln S o4) ∧ (post (ai S o4 v1.toNatClampNeg) S))))))))
set_option maxHeartbeats 400000 in
set_option maxRecDepth 100000 in
theorem sd_X7_count (l : Launch) (D : va_G) (ka : Nat → ClassId) (sz : Nat) (Z : HS) (post : Int32 → HS → Prop) (a0 : Nat) (v1 : Int32) (h : wp_X7_count post Z a0 v1) : Met l yX7_count [Cond.code yX7_count cX7_count 2 (some .int)] rm_X7_count (Px D ka Z sz [.ref a0, .int v1]) (Qx eI post D ka Z sz) 0 0 (fA Z sz) := by
  refine Met.ofW (cc := cX7_count) (maxL := 2) (ret := (some .int)) (by decide) rfl ?_
  intro p e s m args below meth c s₁ B hml hv
  obtain ⟨rfl, X, V, hsz⟩ := Cx.entry B hml hv
  have hr : meth.sig.returnType = (some .int) := B.returns
  have hl := lv_entry ([.ref a0, .int v1]) (n := 2) (Nat.le_of_ble_eq_true rfl)
  rw [lg_entry_eq]
  generalize (lg_sl ([.ref a0, .int v1]) ++ List.replicate (2 - (lg_sl ([.ref a0, .int v1])).length) Slot.unset).toArray = ls at hl ⊢
  have hl : lv_has ls 2 [(0, .ref a0), (1, .int v1)] := hl
  have h : wp_X7_count post Z a0 v1 := h
  refine lv_iload_n X.1.1 X.1.2.1 dX7_count_0 rfl (lv_at hl 1 rfl) ?_
  refine lv_if_lt (tgt := 19) X.1.1 X.1.2.1 dX7_count_1 (by decide) (fun c1 => ?_) (fun c1 => ?_)
  · have h := h.1 c1
    refine lv_iconst (v := (-1 : Int32)) X.1.1 X.1.2.1 dX7_count_19 (by decide) ?_
    exact W.iret X.1.1 X.1.2.1 hr (fun t ht _ => V.q (r := (-1 : Int32)) h ht) V.2.1.2.2 dX7_count_20 X.1.2.2.2.2
  · have h := h.2 c1
    refine lv_iload_n X.1.1 X.1.2.1 dX7_count_4 rfl (lv_at hl 1 rfl) ?_
    refine lv_bipush (v := (12 : Int32)) X.1.1 X.1.2.1 dX7_count_5 (by decide) ?_
    refine lv_icmp_gt (tgt := 19) X.1.1 X.1.2.1 dX7_count_7 (by decide) (fun c2 => ?_) (fun c2 => ?_)
    · have h := h.1 c2
      refine lv_iconst (v := (-1 : Int32)) X.1.1 X.1.2.1 dX7_count_19 (by decide) ?_
      exact W.iret X.1.1 X.1.2.1 hr (fun t ht _ => V.q (r := (-1 : Int32)) h ht) V.2.1.2.2 dX7_count_20 X.1.2.2.2.2
    · have h := h.2 c2
      refine lv_aload_n X.1.1 X.1.2.1 dX7_count_10 rfl (lv_at hl 0 rfl) ?_
      obtain ⟨k3, h⟩ := h
      obtain ⟨o4, e5, h⟩ := h
      refine gf_X7_63 X V k3 e5 dX7_count_11 ?_
      refine lv_iload_n X.1.1 X.1.2.1 dX7_count_14 rfl (lv_at hl 1 rfl) ?_
      obtain ⟨k6, h⟩ := h
      obtain ⟨i7, h⟩ := h
      refine r_iald X V k6 i7 dX7_count_15 ?_
      refine lv_goto (tgt := 20) X.1.1 X.1.2.1 dX7_count_16 (by decide) ?_
      exact W.iret X.1.1 X.1.2.1 hr (fun t ht _ => V.q (r := (ai Z o4 v1.toNatClampNeg)) h ht) V.2.1.2.2 dX7_count_20 X.1.2.2.2.2
