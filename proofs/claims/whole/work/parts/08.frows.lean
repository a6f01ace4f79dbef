section FR
variable {p : Program} {l : Launch} {e : Env} {R : Room} {s : State} {m : MethodId} {args : Array Value} {below : List Frame} {meth : Method} {c : Code} {H : Heap} {locs : List Loc} {cells slots : Nat} {Q : State → Prop}
variable {cc : ByteArray} {nL : Nat} {own : String} {D : va_G} {ka : Nat → ClassId} {Z : HS} {A : Nat → Prop} {S : HS} {pc : Nat} {ls : Array Slot} {rest : List Value} {a : Nat}
theorem pf_X3_9 (X : Cx p s m meth c cc nL RX3 D ka Z A) (V : Hv D ka Z s A S H locs) (hk : kd S a = 5) (hin2 : meth.name = "<init>") {v : Nat} (hdg : decode cc pc = .ok (.putfield 9, 3)) (kk : ∀ (H1 : Heap) (locs1 : List Loc), Hv D ka Z s A (sfr S 14 a (some v)) H1 locs1 → W p l e R s m args below meth c H1 locs1 cells slots Q (F0 m (pc + 3) ls rest)) : W p l e R s m args below meth c H locs cells slots Q (F0 m pc ls (.ref v :: .ref a :: rest)) := by
  refine r_putF (S' := (sfr S 14 a (some v))) X V hin2 (C := RX3) (T := TX3) (N := 2) (ci := 4) (k := 0) (ty := .array .int) rfl in_X3 tyX3 tyX3_ok nmX3 (by decide) wd_4 (fun _ h => h) rfl rfl rfl rfl rfl ⟨by rw [hk]; decide, by rw [hk]; decide⟩ (wF_5 hk) (Nat.le_of_ble_eq_true rfl) rfl rfl rfl (fun b hb => wF_sfr hb) ?_ hdg kk
  rw [wF_5 (S := (sfr S 14 a (some v))) hk]
  show Sum.inr (4, [va_rf (va_up (fr S) 14 (va_up (fr S 14) a (some v)) 14 a), Value.int (fi S 15 a)]) = _
  rw [up2_self]
  rfl
theorem gf_X3_15 (X : Cx p s m meth c cc nL RX3 D ka Z A) (V : Hv D ka Z s A S H locs) (hk : kd S a = 5) (hdg : decode cc pc = .ok (.getfield 15, 3)) (kk : W p l e R s m args below meth c H locs cells slots Q (F0 m (pc + 3) ls (.int (fi S 15 a) :: rest))) : W p l e R s m args below meth c H locs cells slots Q (F0 m pc ls (.ref a :: rest)) :=
  r_get X V (C := RX3) (T := TX3) (N := 2) (ci := 4) (k := 1) rfl in_X3 (by decide) wd_5 (fun _ h => h) ⟨by rw [hk]; decide, by rw [hk]; decide⟩ (wF_5 hk) rfl hdg kk
theorem gf_X3_9 (X : Cx p s m meth c cc nL RX3 D ka Z A) (V : Hv D ka Z s A S H locs) (hk : kd S a = 5) {b : Nat} (hb : fr S 14 a = some b) (hdg : decode cc pc = .ok (.getfield 9, 3)) (kk : W p l e R s m args below meth c H locs cells slots Q (F0 m (pc + 3) ls (.ref b :: rest))) : W p l e R s m args below meth c H locs cells slots Q (F0 m pc ls (.ref a :: rest)) :=
  r_get X V (C := RX3) (T := TX3) (N := 2) (ci := 4) (k := 0) rfl in_X3 (by decide) wd_4 (fun _ h => h) ⟨by rw [hk]; decide, by rw [hk]; decide⟩ (wF_5 hk) (show some (va_rf (fr S 14 a)) = some (Value.ref b) by rw [hb]; rfl) hdg kk
theorem pf_X3_15 (X : Cx p s m meth c cc nL RX3 D ka Z A) (V : Hv D ka Z s A S H locs) (hk : kd S a = 5) {v : Int32} (hdg : decode cc pc = .ok (.putfield 15, 3)) (kk : ∀ (H1 : Heap) (locs1 : List Loc), Hv D ka Z s A (sfi S 15 a v) H1 locs1 → W p l e R s m args below meth c H1 locs1 cells slots Q (F0 m (pc + 3) ls rest)) : W p l e R s m args below meth c H locs cells slots Q (F0 m pc ls (.int v :: .ref a :: rest)) := by
  refine r_put (S' := (sfi S 15 a v)) X V (C := RX3) (T := TX3) (N := 2) (ci := 4) (k := 1) (ty := .int) rfl in_X3 tyX3 tyX3_ok nmX3 (by decide) wd_5 (fun _ h => h) rfl rfl rfl rfl ⟨by rw [hk]; decide, by rw [hk]; decide⟩ (wF_5 hk) (Nat.le_of_ble_eq_true rfl) rfl rfl rfl (fun b hb => wF_sfi hb) ?_ hdg kk
  rw [wF_5 (S := (sfi S 15 a v)) hk]
  show Sum.inr (4, [va_rf (fr S 14 a), Value.int (va_up (fi S) 15 (va_up (fi S 15) a v) 15 a)]) = _
  rw [up2_self]
  rfl
theorem pf_Jxc12de_7 (X : Cx p s m meth c cc nL RJxc12de D ka Z A) (V : Hv D ka Z s A S H locs) (hk : kd S a = 1) {v : Int32} (hdg : decode cc pc = .ok (.putfield 7, 3)) (kk : ∀ (H1 : Heap) (locs1 : List Loc), Hv D ka Z s A (sfi S 0 a v) H1 locs1 → W p l e R s m args below meth c H1 locs1 cells slots Q (F0 m (pc + 3) ls rest)) : W p l e R s m args below meth c H locs cells slots Q (F0 m pc ls (.int v :: .ref a :: rest)) := by
  refine r_put (S' := (sfi S 0 a v)) X V (C := RJx4a65c) (T := TJx4a65c) (N := 3) (ci := 0) (k := 0) (ty := .int) rfl in_Jx4a65c tyJx4a65c tyJx4a65c_ok nmJx4a65c (by decide) wd_21 (fun _ h => h) rfl rfl rfl rfl ⟨by rw [hk]; decide, by rw [hk]; decide⟩ (wF_1 hk) (Nat.le_of_ble_eq_true rfl) rfl rfl rfl (fun b hb => wF_sfi hb) ?_ hdg kk
  rw [wF_1 (S := (sfi S 0 a v)) hk]
  show Sum.inr (0, [Value.int (va_up (fi S) 0 (va_up (fi S 0) a v) 0 a), va_rf (fr S 1 a), Value.int (fi S 2 a)]) = _
  rw [up2_self]
  rfl
theorem pf_Jx4a65c_9 (X : Cx p s m meth c cc nL RJx4a65c D ka Z A) (V : Hv D ka Z s A S H locs) (hk : kd S a = 1) {v : Nat} (hdg : decode cc pc = .ok (.putfield 9, 3)) (kk : ∀ (H1 : Heap) (locs1 : List Loc), Hv D ka Z s A (sfr S 1 a (some v)) H1 locs1 → W p l e R s m args below meth c H1 locs1 cells slots Q (F0 m (pc + 3) ls rest)) : W p l e R s m args below meth c H locs cells slots Q (F0 m pc ls (.ref v :: .ref a :: rest)) := by
  refine r_put (S' := (sfr S 1 a (some v))) X V (C := RJx4a65c) (T := TJx4a65c) (N := 3) (ci := 0) (k := 1) (ty := .array (.object "java/lang/Object")) rfl in_Jx4a65c tyJx4a65c tyJx4a65c_ok nmJx4a65c (by decide) wd_27 (fun _ h => h) rfl rfl rfl rfl ⟨by rw [hk]; decide, by rw [hk]; decide⟩ (wF_1 hk) (Nat.le_of_ble_eq_true rfl) rfl rfl rfl (fun b hb => wF_sfr hb) ?_ hdg kk
  rw [wF_1 (S := (sfr S 1 a (some v))) hk]
  show Sum.inr (0, [Value.int (fi S 0 a), va_rf (va_up (fr S) 1 (va_up (fr S 1) a (some v)) 1 a), Value.int (fi S 2 a)]) = _
  rw [up2_self]
  rfl
theorem gf_Jx4a65c_48 (X : Cx p s m meth c cc nL RJx4a65c D ka Z A) (V : Hv D ka Z s A S H locs) (hk : kd S a = 1) (hdg : decode cc pc = .ok (.getfield 48, 3)) (kk : W p l e R s m args below meth c H locs cells slots Q (F0 m (pc + 3) ls (.int (fi S 2 a) :: rest))) : W p l e R s m args below meth c H locs cells slots Q (F0 m pc ls (.ref a :: rest)) :=
  r_get X V (C := RJx4a65c) (T := TJx4a65c) (N := 3) (ci := 0) (k := 2) rfl in_Jx4a65c (by decide) wd_28 (fun _ h => h) ⟨by rw [hk]; decide, by rw [hk]; decide⟩ (wF_1 hk) rfl hdg kk
theorem gf_Jx4a65c_9 (X : Cx p s m meth c cc nL RJx4a65c D ka Z A) (V : Hv D ka Z s A S H locs) (hk : kd S a = 1) {b : Nat} (hb : fr S 1 a = some b) (hdg : decode cc pc = .ok (.getfield 9, 3)) (kk : W p l e R s m args below meth c H locs cells slots Q (F0 m (pc + 3) ls (.ref b :: rest))) : W p l e R s m args below meth c H locs cells slots Q (F0 m pc ls (.ref a :: rest)) :=
  r_get X V (C := RJx4a65c) (T := TJx4a65c) (N := 3) (ci := 0) (k := 1) rfl in_Jx4a65c (by decide) wd_27 (fun _ h => h) ⟨by rw [hk]; decide, by rw [hk]; decide⟩ (wF_1 hk) (show some (va_rf (fr S 1 a)) = some (Value.ref b) by rw [hb]; rfl) hdg kk
theorem pf_Jx4a65c_48 (X : Cx p s m meth c cc nL RJx4a65c D ka Z A) (V : Hv D ka Z s A S H locs) (hk : kd S a = 1) {v : Int32} (hdg : decode cc pc = .ok (.putfield 48, 3)) (kk : ∀ (H1 : Heap) (locs1 : List Loc), Hv D ka Z s A (sfi S 2 a v) H1 locs1 → W p l e R s m args below meth c H1 locs1 cells slots Q (F0 m (pc + 3) ls rest)) : W p l e R s m args below meth c H locs cells slots Q (F0 m pc ls (.int v :: .ref a :: rest)) := by
  refine r_put (S' := (sfi S 2 a v)) X V (C := RJx4a65c) (T := TJx4a65c) (N := 3) (ci := 0) (k := 2) (ty := .int) rfl in_Jx4a65c tyJx4a65c tyJx4a65c_ok nmJx4a65c (by decide) wd_28 (fun _ h => h) rfl rfl rfl rfl ⟨by rw [hk]; decide, by rw [hk]; decide⟩ (wF_1 hk) (Nat.le_of_ble_eq_true rfl) rfl rfl rfl (fun b hb => wF_sfi hb) ?_ hdg kk
  rw [wF_1 (S := (sfi S 2 a v)) hk]
  show Sum.inr (0, [Value.int (fi S 0 a), va_rf (fr S 1 a), Value.int (va_up (fi S) 2 (va_up (fi S 2) a v) 2 a)]) = _
  rw [up2_self]
  rfl
theorem gf_Jx4a65c_63 (X : Cx p s m meth c cc nL RJx4a65c D ka Z A) (V : Hv D ka Z s A S H locs) (hk : kd S a = 1) (hdg : decode cc pc = .ok (.getfield 63, 3)) (kk : W p l e R s m args below meth c H locs cells slots Q (F0 m (pc + 3) ls (.int (fi S 0 a) :: rest))) : W p l e R s m args below meth c H locs cells slots Q (F0 m pc ls (.ref a :: rest)) :=
  r_get X V (C := RJx4a65c) (T := TJx4a65c) (N := 3) (ci := 0) (k := 0) rfl in_Jx4a65c (by decide) wd_83 (fun x hx => u_same (X.w wd_84 rfl #[]) x hx) ⟨by rw [hk]; decide, by rw [hk]; decide⟩ (wF_1 hk) rfl hdg kk
theorem pf_Jx4a65c_63 (X : Cx p s m meth c cc nL RJx4a65c D ka Z A) (V : Hv D ka Z s A S H locs) (hk : kd S a = 1) {v : Int32} (hdg : decode cc pc = .ok (.putfield 63, 3)) (kk : ∀ (H1 : Heap) (locs1 : List Loc), Hv D ka Z s A (sfi S 0 a v) H1 locs1 → W p l e R s m args below meth c H1 locs1 cells slots Q (F0 m (pc + 3) ls rest)) : W p l e R s m args below meth c H locs cells slots Q (F0 m pc ls (.int v :: .ref a :: rest)) := by
  refine r_put (S' := (sfi S 0 a v)) X V (C := RJx4a65c) (T := TJx4a65c) (N := 3) (ci := 0) (k := 0) (ty := .int) rfl in_Jx4a65c tyJx4a65c tyJx4a65c_ok nmJx4a65c (by decide) wd_83 (fun x hx => u_same (X.w wd_84 rfl #[]) x hx) rfl rfl rfl rfl ⟨by rw [hk]; decide, by rw [hk]; decide⟩ (wF_1 hk) (Nat.le_of_ble_eq_true rfl) rfl rfl rfl (fun b hb => wF_sfi hb) ?_ hdg kk
  rw [wF_1 (S := (sfi S 0 a v)) hk]
  show Sum.inr (0, [Value.int (va_up (fi S) 0 (va_up (fi S 0) a v) 0 a), va_rf (fr S 1 a), Value.int (fi S 2 a)]) = _
  rw [up2_self]
  rfl
theorem nw_X0_9 (X : Cx p s m meth c cc nL RX0 D ka Z A) (V : Hv D ka Z s A S H locs) (hcells : cells + 1 ≤ R.cells) (hslots : slots + 3 ≤ R.slots) (hdg : decode cc pc = .ok (.new 9, 3)) (kk : ∀ (q : Nat) (H1 : Heap), kd S q = 0 → Hv D ka Z s A (snw S q 1 0) H1 locs → W p l e R s m args below meth c H1 locs (cells + 1) (slots + 3) Q (F0 m (pc + 3) ls (.ref q :: rest))) : W p l e R s m args below meth c H locs cells slots Q (F0 m pc ls rest) := by
  refine r_new X V (C := RJx4a65c) (T := TJx4a65c) (N := 3) (ci := 0) (k := 1) (fs := [.int 0, .null, .int 0]) rfl in_Jx4a65c tyJx4a65c tyJx4a65c_ok wd_95 wd_96 wd_39 (by decide) (by decide) (by decide +kernel) (fun q => ?_) hcells hslots hdg kk
  obtain ⟨e1, -, e3, e4, e5, -⟩ := snw_F (ka := ka) (S := S) (q := q) (k := 1) (n := 0)
  rw [wF_1 e1]
  simp only [e3, e4, e5] <;> rfl
theorem pf_X0_12 (X : Cx p s m meth c cc nL RX0 D ka Z A) (V : Hv D ka Z s A S H locs) (hk : kd S a = 2) (hin2 : meth.name = "<init>") {v : Nat} (hdg : decode cc pc = .ok (.putfield 12, 3)) (kk : ∀ (H1 : Heap) (locs1 : List Loc), Hv D ka Z s A (sfr S 4 a (some v)) H1 locs1 → W p l e R s m args below meth c H1 locs1 cells slots Q (F0 m (pc + 3) ls rest)) : W p l e R s m args below meth c H locs cells slots Q (F0 m pc ls (.ref v :: .ref a :: rest)) := by
  refine r_putF (S' := (sfr S 4 a (some v))) X V hin2 (C := RX0) (T := TX0) (N := 4) (ci := 1) (k := 1) (ty := .object "java/util/ArrayList") rfl in_X0 tyX0 tyX0_ok nmX0 (by decide) wd_100 (fun _ h => h) rfl rfl rfl rfl rfl ⟨by rw [hk]; decide, by rw [hk]; decide⟩ (wF_2 hk) (Nat.le_of_ble_eq_true rfl) rfl rfl rfl (fun b hb => wF_sfr hb) ?_ hdg kk
  rw [wF_2 (S := (sfr S 4 a (some v))) hk]
  show Sum.inr (1, [Value.int (fi S 3 a), va_rf (va_up (fr S) 4 (va_up (fr S 4) a (some v)) 4 a), va_rf (fr S 5 a), Value.int (fi S 6 a)]) = _
  rw [up2_self]
  rfl
theorem pf_X0_18 (X : Cx p s m meth c cc nL RX0 D ka Z A) (V : Hv D ka Z s A S H locs) (hk : kd S a = 2) (hin2 : meth.name = "<init>") {v : Nat} (hdg : decode cc pc = .ok (.putfield 18, 3)) (kk : ∀ (H1 : Heap) (locs1 : List Loc), Hv D ka Z s A (sfr S 5 a (some v)) H1 locs1 → W p l e R s m args below meth c H1 locs1 cells slots Q (F0 m (pc + 3) ls rest)) : W p l e R s m args below meth c H locs cells slots Q (F0 m pc ls (.ref v :: .ref a :: rest)) := by
  refine r_putF (S' := (sfr S 5 a (some v))) X V hin2 (C := RX0) (T := TX0) (N := 4) (ci := 1) (k := 2) (ty := .array .int) rfl in_X0 tyX0 tyX0_ok nmX0 (by decide) wd_101 (fun _ h => h) rfl rfl rfl rfl rfl ⟨by rw [hk]; decide, by rw [hk]; decide⟩ (wF_2 hk) (Nat.le_of_ble_eq_true rfl) rfl rfl rfl (fun b hb => wF_sfr hb) ?_ hdg kk
  rw [wF_2 (S := (sfr S 5 a (some v))) hk]
  show Sum.inr (1, [Value.int (fi S 3 a), va_rf (fr S 4 a), va_rf (va_up (fr S) 5 (va_up (fr S 5) a (some v)) 5 a), Value.int (fi S 6 a)]) = _
  rw [up2_self]
  rfl
theorem pf_X0_22 (X : Cx p s m meth c cc nL RX0 D ka Z A) (V : Hv D ka Z s A S H locs) (hk : kd S a = 2) (hin2 : meth.name = "<init>") {v : Int32} (hdg : decode cc pc = .ok (.putfield 22, 3)) (kk : ∀ (H1 : Heap) (locs1 : List Loc), Hv D ka Z s A (sfi S 3 a v) H1 locs1 → W p l e R s m args below meth c H1 locs1 cells slots Q (F0 m (pc + 3) ls rest)) : W p l e R s m args below meth c H locs cells slots Q (F0 m pc ls (.int v :: .ref a :: rest)) := by
  refine r_putF (S' := (sfi S 3 a v)) X V hin2 (C := RX0) (T := TX0) (N := 4) (ci := 1) (k := 0) (ty := .int) rfl in_X0 tyX0 tyX0_ok nmX0 (by decide) wd_102 (fun _ h => h) rfl rfl rfl rfl rfl ⟨by rw [hk]; decide, by rw [hk]; decide⟩ (wF_2 hk) (Nat.le_of_ble_eq_true rfl) rfl rfl rfl (fun b hb => wF_sfi hb) ?_ hdg kk
  rw [wF_2 (S := (sfi S 3 a v)) hk]
  show Sum.inr (1, [Value.int (va_up (fi S) 3 (va_up (fi S 3) a v) 3 a), va_rf (fr S 4 a), va_rf (fr S 5 a), Value.int (fi S 6 a)]) = _
  rw [up2_self]
  rfl
theorem gf_X0_12 (X : Cx p s m meth c cc nL RX0 D ka Z A) (V : Hv D ka Z s A S H locs) (hk : kd S a = 2) {b : Nat} (hb : fr S 4 a = some b) (hdg : decode cc pc = .ok (.getfield 12, 3)) (kk : W p l e R s m args below meth c H locs cells slots Q (F0 m (pc + 3) ls (.ref b :: rest))) : W p l e R s m args below meth c H locs cells slots Q (F0 m pc ls (.ref a :: rest)) :=
  r_get X V (C := RX0) (T := TX0) (N := 4) (ci := 1) (k := 1) rfl in_X0 (by decide) wd_100 (fun _ h => h) ⟨by rw [hk]; decide, by rw [hk]; decide⟩ (wF_2 hk) (show some (va_rf (fr S 4 a)) = some (Value.ref b) by rw [hb]; rfl) hdg kk
theorem pf_X0_29 (X : Cx p s m meth c cc nL RX0 D ka Z A) (V : Hv D ka Z s A S H locs) (hk : kd S a = 2) {v : Int32} (hdg : decode cc pc = .ok (.putfield 29, 3)) (kk : ∀ (H1 : Heap) (locs1 : List Loc), Hv D ka Z s A (sfi S 6 a v) H1 locs1 → W p l e R s m args below meth c H1 locs1 cells slots Q (F0 m (pc + 3) ls rest)) : W p l e R s m args below meth c H locs cells slots Q (F0 m pc ls (.int v :: .ref a :: rest)) := by
  refine r_put (S' := (sfi S 6 a v)) X V (C := RX0) (T := TX0) (N := 4) (ci := 1) (k := 3) (ty := .int) rfl in_X0 tyX0 tyX0_ok nmX0 (by decide) wd_107 (fun _ h => h) rfl rfl rfl rfl ⟨by rw [hk]; decide, by rw [hk]; decide⟩ (wF_2 hk) (Nat.le_of_ble_eq_true rfl) rfl rfl rfl (fun b hb => wF_sfi hb) ?_ hdg kk
  rw [wF_2 (S := (sfi S 6 a v)) hk]
  show Sum.inr (1, [Value.int (fi S 3 a), va_rf (fr S 4 a), va_rf (fr S 5 a), Value.int (va_up (fi S) 6 (va_up (fi S 6) a v) 6 a)]) = _
  rw [up2_self]
  rfl
theorem gf_X0_18 (X : Cx p s m meth c cc nL RX0 D ka Z A) (V : Hv D ka Z s A S H locs) (hk : kd S a = 2) {b : Nat} (hb : fr S 5 a = some b) (hdg : decode cc pc = .ok (.getfield 18, 3)) (kk : W p l e R s m args below meth c H locs cells slots Q (F0 m (pc + 3) ls (.ref b :: rest))) : W p l e R s m args below meth c H locs cells slots Q (F0 m pc ls (.ref a :: rest)) :=
  r_get X V (C := RX0) (T := TX0) (N := 4) (ci := 1) (k := 2) rfl in_X0 (by decide) wd_101 (fun _ h => h) ⟨by rw [hk]; decide, by rw [hk]; decide⟩ (wF_2 hk) (show some (va_rf (fr S 5 a)) = some (Value.ref b) by rw [hb]; rfl) hdg kk
theorem gf_X0_48 (X : Cx p s m meth c cc nL RX0 D ka Z A) (V : Hv D ka Z s A S H locs) (hk : kd S a = 3) (hdg : decode cc pc = .ok (.getfield 48, 3)) (kk : W p l e R s m args below meth c H locs cells slots Q (F0 m (pc + 3) ls (.int (fi S 7 a) :: rest))) : W p l e R s m args below meth c H locs cells slots Q (F0 m pc ls (.ref a :: rest)) :=
  r_getN X V (C := RX1) (T := TX1) (N := 5) (ci := 2) (k := 0) rfl in_X1 (by decide) wd_122 (fun _ h => h) ⟨by rw [hk]; decide, by rw [hk]; decide⟩ (wF_3 hk) rfl hdg kk
theorem gf_X0_51 (X : Cx p s m meth c cc nL RX0 D ka Z A) (V : Hv D ka Z s A S H locs) (hk : kd S a = 3) (hdg : decode cc pc = .ok (.getfield 51, 3)) (kk : W p l e R s m args below meth c H locs cells slots Q (F0 m (pc + 3) ls (.long (fl S 8 a) :: rest))) : W p l e R s m args below meth c H locs cells slots Q (F0 m pc ls (.ref a :: rest)) :=
  r_getN X V (C := RX1) (T := TX1) (N := 5) (ci := 2) (k := 1) rfl in_X1 (by decide) wd_123 (fun _ h => h) ⟨by rw [hk]; decide, by rw [hk]; decide⟩ (wF_3 hk) rfl hdg kk
theorem gf_X0_63 (X : Cx p s m meth c cc nL RX0 D ka Z A) (V : Hv D ka Z s A S H locs) (hk : kd S a = 3) (hdg : decode cc pc = .ok (.getfield 63, 3)) (kk : W p l e R s m args below meth c H locs cells slots Q (F0 m (pc + 3) ls (.int (fi S 11 a) :: rest))) : W p l e R s m args below meth c H locs cells slots Q (F0 m pc ls (.ref a :: rest)) :=
  r_getN X V (C := RX1) (T := TX1) (N := 5) (ci := 2) (k := 4) rfl in_X1 (by decide) wd_132 (fun _ h => h) ⟨by rw [hk]; decide, by rw [hk]; decide⟩ (wF_3 hk) rfl hdg kk
theorem pf_X0_63 (X : Cx p s m meth c cc nL RX0 D ka Z A) (V : Hv D ka Z s A S H locs) (hk : kd S a = 3) {v : Int32} (hdg : decode cc pc = .ok (.putfield 63, 3)) (kk : ∀ (H1 : Heap) (locs1 : List Loc), Hv D ka Z s A (sfi S 11 a v) H1 locs1 → W p l e R s m args below meth c H1 locs1 cells slots Q (F0 m (pc + 3) ls rest)) : W p l e R s m args below meth c H locs cells slots Q (F0 m pc ls (.int v :: .ref a :: rest)) := by
  refine r_putN (S' := (sfi S 11 a v)) X V (C := RX1) (T := TX1) (N := 5) (ci := 2) (k := 4) (ty := .int) rfl in_X1 tyX1 tyX1_ok nmX1 (by decide) wd_132 (fun _ h => h) rfl rfl rfl rfl ⟨by rw [hk]; decide, by rw [hk]; decide⟩ (wF_3 hk) (Nat.le_of_ble_eq_true rfl) rfl rfl rfl (fun b hb => wF_sfi hb) ?_ hdg kk
  rw [wF_3 (S := (sfi S 11 a v)) hk]
  show Sum.inr (2, [Value.int (fi S 7 a), Value.long (fl S 8 a), Value.int (fi S 9 a), Value.int (fi S 10 a), Value.int (va_up (fi S) 11 (va_up (fi S 11) a v) 11 a)]) = _
  rw [up2_self]
  rfl
theorem pf_X1_9 (X : Cx p s m meth c cc nL RX1 D ka Z A) (V : Hv D ka Z s A S H locs) (hk : kd S a = 3) (hin2 : meth.name = "<init>") {v : Int32} (hdg : decode cc pc = .ok (.putfield 9, 3)) (kk : ∀ (H1 : Heap) (locs1 : List Loc), Hv D ka Z s A (sfi S 7 a v) H1 locs1 → W p l e R s m args below meth c H1 locs1 cells slots Q (F0 m (pc + 3) ls rest)) : W p l e R s m args below meth c H locs cells slots Q (F0 m pc ls (.int v :: .ref a :: rest)) := by
  refine r_putF (S' := (sfi S 7 a v)) X V hin2 (C := RX1) (T := TX1) (N := 5) (ci := 2) (k := 0) (ty := .int) rfl in_X1 tyX1 tyX1_ok nmX1 (by decide) wd_142 (fun _ h => h) rfl rfl rfl rfl rfl ⟨by rw [hk]; decide, by rw [hk]; decide⟩ (wF_3 hk) (Nat.le_of_ble_eq_true rfl) rfl rfl rfl (fun b hb => wF_sfi hb) ?_ hdg kk
  rw [wF_3 (S := (sfi S 7 a v)) hk]
  show Sum.inr (2, [Value.int (va_up (fi S) 7 (va_up (fi S 7) a v) 7 a), Value.long (fl S 8 a), Value.int (fi S 9 a), Value.int (fi S 10 a), Value.int (fi S 11 a)]) = _
  rw [up2_self]
  rfl
theorem pf_X1_15 (X : Cx p s m meth c cc nL RX1 D ka Z A) (V : Hv D ka Z s A S H locs) (hk : kd S a = 3) (hin2 : meth.name = "<init>") {v : Int64} (hdg : decode cc pc = .ok (.putfield 15, 3)) (kk : ∀ (H1 : Heap) (locs1 : List Loc), Hv D ka Z s A (sfl S 8 a v) H1 locs1 → W p l e R s m args below meth c H1 locs1 cells slots Q (F0 m (pc + 3) ls rest)) : W p l e R s m args below meth c H locs cells slots Q (F0 m pc ls (.long v :: .ref a :: rest)) := by
  refine r_putF (S' := (sfl S 8 a v)) X V hin2 (C := RX1) (T := TX1) (N := 5) (ci := 2) (k := 1) (ty := .long) rfl in_X1 tyX1 tyX1_ok nmX1 (by decide) wd_143 (fun _ h => h) rfl rfl rfl rfl rfl ⟨by rw [hk]; decide, by rw [hk]; decide⟩ (wF_3 hk) (Nat.le_of_ble_eq_true rfl) rfl rfl rfl (fun b hb => wF_sfl hb) ?_ hdg kk
  rw [wF_3 (S := (sfl S 8 a v)) hk]
  show Sum.inr (2, [Value.int (fi S 7 a), Value.long (va_up (fl S) 8 (va_up (fl S 8) a v) 8 a), Value.int (fi S 9 a), Value.int (fi S 10 a), Value.int (fi S 11 a)]) = _
  rw [up2_self]
  rfl
theorem pf_X1_19 (X : Cx p s m meth c cc nL RX1 D ka Z A) (V : Hv D ka Z s A S H locs) (hk : kd S a = 3) (hin2 : meth.name = "<init>") {v : Int32} (hdg : decode cc pc = .ok (.putfield 19, 3)) (kk : ∀ (H1 : Heap) (locs1 : List Loc), Hv D ka Z s A (sfi S 9 a v) H1 locs1 → W p l e R s m args below meth c H1 locs1 cells slots Q (F0 m (pc + 3) ls rest)) : W p l e R s m args below meth c H locs cells slots Q (F0 m pc ls (.int v :: .ref a :: rest)) := by
  refine r_putF (S' := (sfi S 9 a v)) X V hin2 (C := RX1) (T := TX1) (N := 5) (ci := 2) (k := 2) (ty := .int) rfl in_X1 tyX1 tyX1_ok nmX1 (by decide) wd_144 (fun _ h => h) rfl rfl rfl rfl rfl ⟨by rw [hk]; decide, by rw [hk]; decide⟩ (wF_3 hk) (Nat.le_of_ble_eq_true rfl) rfl rfl rfl (fun b hb => wF_sfi hb) ?_ hdg kk
  rw [wF_3 (S := (sfi S 9 a v)) hk]
  show Sum.inr (2, [Value.int (fi S 7 a), Value.long (fl S 8 a), Value.int (va_up (fi S) 9 (va_up (fi S 9) a v) 9 a), Value.int (fi S 10 a), Value.int (fi S 11 a)]) = _
  rw [up2_self]
  rfl
theorem pf_X1_22 (X : Cx p s m meth c cc nL RX1 D ka Z A) (V : Hv D ka Z s A S H locs) (hk : kd S a = 3) (hin2 : meth.name = "<init>") {v : Int32} (hdg : decode cc pc = .ok (.putfield 22, 3)) (kk : ∀ (H1 : Heap) (locs1 : List Loc), Hv D ka Z s A (sfi S 10 a v) H1 locs1 → W p l e R s m args below meth c H1 locs1 cells slots Q (F0 m (pc + 3) ls rest)) : W p l e R s m args below meth c H locs cells slots Q (F0 m pc ls (.int v :: .ref a :: rest)) := by
  refine r_putF (S' := (sfi S 10 a v)) X V hin2 (C := RX1) (T := TX1) (N := 5) (ci := 2) (k := 3) (ty := .int) rfl in_X1 tyX1 tyX1_ok nmX1 (by decide) wd_145 (fun _ h => h) rfl rfl rfl rfl rfl ⟨by rw [hk]; decide, by rw [hk]; decide⟩ (wF_3 hk) (Nat.le_of_ble_eq_true rfl) rfl rfl rfl (fun b hb => wF_sfi hb) ?_ hdg kk
  rw [wF_3 (S := (sfi S 10 a v)) hk]
  show Sum.inr (2, [Value.int (fi S 7 a), Value.long (fl S 8 a), Value.int (fi S 9 a), Value.int (va_up (fi S) 10 (va_up (fi S 10) a v) 10 a), Value.int (fi S 11 a)]) = _
  rw [up2_self]
  rfl
theorem gf_X1_19 (X : Cx p s m meth c cc nL RX1 D ka Z A) (V : Hv D ka Z s A S H locs) (hk : kd S a = 3) (hdg : decode cc pc = .ok (.getfield 19, 3)) (kk : W p l e R s m args below meth c H locs cells slots Q (F0 m (pc + 3) ls (.int (fi S 9 a) :: rest))) : W p l e R s m args below meth c H locs cells slots Q (F0 m pc ls (.ref a :: rest)) :=
  r_get X V (C := RX1) (T := TX1) (N := 5) (ci := 2) (k := 2) rfl in_X1 (by decide) wd_144 (fun _ h => h) ⟨by rw [hk]; decide, by rw [hk]; decide⟩ (wF_3 hk) rfl hdg kk
theorem gf_X1_22 (X : Cx p s m meth c cc nL RX1 D ka Z A) (V : Hv D ka Z s A S H locs) (hk : kd S a = 3) (hdg : decode cc pc = .ok (.getfield 22, 3)) (kk : W p l e R s m args below meth c H locs cells slots Q (F0 m (pc + 3) ls (.int (fi S 10 a) :: rest))) : W p l e R s m args below meth c H locs cells slots Q (F0 m pc ls (.ref a :: rest)) :=
  r_get X V (C := RX1) (T := TX1) (N := 5) (ci := 2) (k := 3) rfl in_X1 (by decide) wd_145 (fun _ h => h) ⟨by rw [hk]; decide, by rw [hk]; decide⟩ (wF_3 hk) rfl hdg kk
theorem gf_X1_9 (X : Cx p s m meth c cc nL RX1 D ka Z A) (V : Hv D ka Z s A S H locs) (hk : kd S a = 3) (hdg : decode cc pc = .ok (.getfield 9, 3)) (kk : W p l e R s m args below meth c H locs cells slots Q (F0 m (pc + 3) ls (.int (fi S 7 a) :: rest))) : W p l e R s m args below meth c H locs cells slots Q (F0 m pc ls (.ref a :: rest)) :=
  r_get X V (C := RX1) (T := TX1) (N := 5) (ci := 2) (k := 0) rfl in_X1 (by decide) wd_142 (fun _ h => h) ⟨by rw [hk]; decide, by rw [hk]; decide⟩ (wF_3 hk) rfl hdg kk
theorem gf_X1_15 (X : Cx p s m meth c cc nL RX1 D ka Z A) (V : Hv D ka Z s A S H locs) (hk : kd S a = 3) (hdg : decode cc pc = .ok (.getfield 15, 3)) (kk : W p l e R s m args below meth c H locs cells slots Q (F0 m (pc + 3) ls (.long (fl S 8 a) :: rest))) : W p l e R s m args below meth c H locs cells slots Q (F0 m pc ls (.ref a :: rest)) :=
  r_get X V (C := RX1) (T := TX1) (N := 5) (ci := 2) (k := 1) rfl in_X1 (by decide) wd_143 (fun _ h => h) ⟨by rw [hk]; decide, by rw [hk]; decide⟩ (wF_3 hk) rfl hdg kk
theorem gf_X1_25 (X : Cx p s m meth c cc nL RX1 D ka Z A) (V : Hv D ka Z s A S H locs) (hk : kd S a = 3) (hdg : decode cc pc = .ok (.getfield 25, 3)) (kk : W p l e R s m args below meth c H locs cells slots Q (F0 m (pc + 3) ls (.int (fi S 11 a) :: rest))) : W p l e R s m args below meth c H locs cells slots Q (F0 m pc ls (.ref a :: rest)) :=
  r_get X V (C := RX1) (T := TX1) (N := 5) (ci := 2) (k := 4) rfl in_X1 (by decide) wd_146 (fun _ h => h) ⟨by rw [hk]; decide, by rw [hk]; decide⟩ (wF_3 hk) rfl hdg kk
theorem pf_X2_7 (X : Cx p s m meth c cc nL RX2 D ka Z A) (V : Hv D ka Z s A S H locs) (hk : kd S a = 4) (hin2 : meth.name = "<init>") {v : Nat} (hdg : decode cc pc = .ok (.putfield 7, 3)) (kk : ∀ (H1 : Heap) (locs1 : List Loc), Hv D ka Z s A (sfr S 12 a (some v)) H1 locs1 → W p l e R s m args below meth c H1 locs1 cells slots Q (F0 m (pc + 3) ls rest)) : W p l e R s m args below meth c H locs cells slots Q (F0 m pc ls (.ref v :: .ref a :: rest)) := by
  refine r_putF (S' := (sfr S 12 a (some v))) X V hin2 (C := RX2) (T := TX2) (N := 2) (ci := 3) (k := 0) (ty := .object "OverlayFabric$Row") rfl in_X2 tyX2 tyX2_ok nmX2 (by decide) wd_149 (fun _ h => h) rfl rfl rfl rfl rfl ⟨by rw [hk]; decide, by rw [hk]; decide⟩ (wF_4 hk) (Nat.le_of_ble_eq_true rfl) rfl rfl rfl (fun b hb => wF_sfr hb) ?_ hdg kk
  rw [wF_4 (S := (sfr S 12 a (some v))) hk]
  show Sum.inr (3, [va_rf (va_up (fr S) 12 (va_up (fr S 12) a (some v)) 12 a), Value.int (fi S 13 a)]) = _
  rw [up2_self]
  rfl
theorem pf_X2_13 (X : Cx p s m meth c cc nL RX2 D ka Z A) (V : Hv D ka Z s A S H locs) (hk : kd S a = 4) (hin2 : meth.name = "<init>") {v : Int32} (hdg : decode cc pc = .ok (.putfield 13, 3)) (kk : ∀ (H1 : Heap) (locs1 : List Loc), Hv D ka Z s A (sfi S 13 a v) H1 locs1 → W p l e R s m args below meth c H1 locs1 cells slots Q (F0 m (pc + 3) ls rest)) : W p l e R s m args below meth c H locs cells slots Q (F0 m pc ls (.int v :: .ref a :: rest)) := by
  refine r_putF (S' := (sfi S 13 a v)) X V hin2 (C := RX2) (T := TX2) (N := 2) (ci := 3) (k := 1) (ty := .int) rfl in_X2 tyX2 tyX2_ok nmX2 (by decide) wd_150 (fun _ h => h) rfl rfl rfl rfl rfl ⟨by rw [hk]; decide, by rw [hk]; decide⟩ (wF_4 hk) (Nat.le_of_ble_eq_true rfl) rfl rfl rfl (fun b hb => wF_sfi hb) ?_ hdg kk
  rw [wF_4 (S := (sfi S 13 a v)) hk]
  show Sum.inr (3, [va_rf (fr S 12 a), Value.int (va_up (fi S) 13 (va_up (fi S 13) a v) 13 a)]) = _
  rw [up2_self]
  rfl
theorem pf_X4_11 (X : Cx p s m meth c cc nL RX4 D ka Z A) (V : Hv D ka Z s A S H locs) (hk : kd S a = 6) (hin2 : meth.name = "<init>") {v : Nat} (hdg : decode cc pc = .ok (.putfield 11, 3)) (kk : ∀ (H1 : Heap) (locs1 : List Loc), Hv D ka Z s A (sfr S 18 a (some v)) H1 locs1 → W p l e R s m args below meth c H1 locs1 cells slots Q (F0 m (pc + 3) ls rest)) : W p l e R s m args below meth c H locs cells slots Q (F0 m pc ls (.ref v :: .ref a :: rest)) := by
  refine r_putF (S' := (sfr S 18 a (some v))) X V hin2 (C := RX4) (T := TX4) (N := 5) (ci := 5) (k := 2) (ty := .array (.object "OverlayFabric$Row")) rfl in_X4 tyX4 tyX4_ok nmX4 (by decide) wd_154 (fun _ h => h) rfl rfl rfl rfl rfl ⟨by rw [hk]; decide, by rw [hk]; decide⟩ (wF_6 hk) (Nat.le_of_ble_eq_true rfl) rfl rfl rfl (fun b hb => wF_sfr hb) ?_ hdg kk
  rw [wF_6 (S := (sfr S 18 a (some v))) hk]
  show Sum.inr (5, [Value.int (fi S 16 a), Value.long (fl S 17 a), va_rf (va_up (fr S) 18 (va_up (fr S 18) a (some v)) 18 a), Value.int (fi S 19 a), Value.int (fi S 20 a)]) = _
  rw [up2_self]
  rfl
theorem pf_X4_15 (X : Cx p s m meth c cc nL RX4 D ka Z A) (V : Hv D ka Z s A S H locs) (hk : kd S a = 6) {v : Int32} (hdg : decode cc pc = .ok (.putfield 15, 3)) (kk : ∀ (H1 : Heap) (locs1 : List Loc), Hv D ka Z s A (sfi S 19 a v) H1 locs1 → W p l e R s m args below meth c H1 locs1 cells slots Q (F0 m (pc + 3) ls rest)) : W p l e R s m args below meth c H locs cells slots Q (F0 m pc ls (.int v :: .ref a :: rest)) := by
  refine r_put (S' := (sfi S 19 a v)) X V (C := RX4) (T := TX4) (N := 5) (ci := 5) (k := 3) (ty := .int) rfl in_X4 tyX4 tyX4_ok nmX4 (by decide) wd_155 (fun _ h => h) rfl rfl rfl rfl ⟨by rw [hk]; decide, by rw [hk]; decide⟩ (wF_6 hk) (Nat.le_of_ble_eq_true rfl) rfl rfl rfl (fun b hb => wF_sfi hb) ?_ hdg kk
  rw [wF_6 (S := (sfi S 19 a v)) hk]
  show Sum.inr (5, [Value.int (fi S 16 a), Value.long (fl S 17 a), va_rf (fr S 18 a), Value.int (va_up (fi S) 19 (va_up (fi S 19) a v) 19 a), Value.int (fi S 20 a)]) = _
  rw [up2_self]
  rfl
theorem pf_X4_19 (X : Cx p s m meth c cc nL RX4 D ka Z A) (V : Hv D ka Z s A S H locs) (hk : kd S a = 6) (hin2 : meth.name = "<init>") {v : Int32} (hdg : decode cc pc = .ok (.putfield 19, 3)) (kk : ∀ (H1 : Heap) (locs1 : List Loc), Hv D ka Z s A (sfi S 16 a v) H1 locs1 → W p l e R s m args below meth c H1 locs1 cells slots Q (F0 m (pc + 3) ls rest)) : W p l e R s m args below meth c H locs cells slots Q (F0 m pc ls (.int v :: .ref a :: rest)) := by
  refine r_putF (S' := (sfi S 16 a v)) X V hin2 (C := RX4) (T := TX4) (N := 5) (ci := 5) (k := 0) (ty := .int) rfl in_X4 tyX4 tyX4_ok nmX4 (by decide) wd_156 (fun _ h => h) rfl rfl rfl rfl rfl ⟨by rw [hk]; decide, by rw [hk]; decide⟩ (wF_6 hk) (Nat.le_of_ble_eq_true rfl) rfl rfl rfl (fun b hb => wF_sfi hb) ?_ hdg kk
  rw [wF_6 (S := (sfi S 16 a v)) hk]
  show Sum.inr (5, [Value.int (va_up (fi S) 16 (va_up (fi S 16) a v) 16 a), Value.long (fl S 17 a), va_rf (fr S 18 a), Value.int (fi S 19 a), Value.int (fi S 20 a)]) = _
  rw [up2_self]
  rfl
theorem pf_X4_26 (X : Cx p s m meth c cc nL RX4 D ka Z A) (V : Hv D ka Z s A S H locs) (hk : kd S a = 6) (hin2 : meth.name = "<init>") {v : Int64} (hdg : decode cc pc = .ok (.putfield 26, 3)) (kk : ∀ (H1 : Heap) (locs1 : List Loc), Hv D ka Z s A (sfl S 17 a v) H1 locs1 → W p l e R s m args below meth c H1 locs1 cells slots Q (F0 m (pc + 3) ls rest)) : W p l e R s m args below meth c H locs cells slots Q (F0 m pc ls (.long v :: .ref a :: rest)) := by
  refine r_putF (S' := (sfl S 17 a v)) X V hin2 (C := RX4) (T := TX4) (N := 5) (ci := 5) (k := 1) (ty := .long) rfl in_X4 tyX4 tyX4_ok nmX4 (by decide) wd_159 (fun _ h => h) rfl rfl rfl rfl rfl ⟨by rw [hk]; decide, by rw [hk]; decide⟩ (wF_6 hk) (Nat.le_of_ble_eq_true rfl) rfl rfl rfl (fun b hb => wF_sfl hb) ?_ hdg kk
  rw [wF_6 (S := (sfl S 17 a v)) hk]
  show Sum.inr (5, [Value.int (fi S 16 a), Value.long (va_up (fl S) 17 (va_up (fl S 17) a v) 17 a), va_rf (fr S 18 a), Value.int (fi S 19 a), Value.int (fi S 20 a)]) = _
  rw [up2_self]
  rfl
theorem gf_X4_15 (X : Cx p s m meth c cc nL RX4 D ka Z A) (V : Hv D ka Z s A S H locs) (hk : kd S a = 6) (hdg : decode cc pc = .ok (.getfield 15, 3)) (kk : W p l e R s m args below meth c H locs cells slots Q (F0 m (pc + 3) ls (.int (fi S 19 a) :: rest))) : W p l e R s m args below meth c H locs cells slots Q (F0 m pc ls (.ref a :: rest)) :=
  r_get X V (C := RX4) (T := TX4) (N := 5) (ci := 5) (k := 3) rfl in_X4 (by decide) wd_155 (fun _ h => h) ⟨by rw [hk]; decide, by rw [hk]; decide⟩ (wF_6 hk) rfl hdg kk
theorem gf_X4_19 (X : Cx p s m meth c cc nL RX4 D ka Z A) (V : Hv D ka Z s A S H locs) (hk : kd S a = 6) (hdg : decode cc pc = .ok (.getfield 19, 3)) (kk : W p l e R s m args below meth c H locs cells slots Q (F0 m (pc + 3) ls (.int (fi S 16 a) :: rest))) : W p l e R s m args below meth c H locs cells slots Q (F0 m pc ls (.ref a :: rest)) :=
  r_get X V (C := RX4) (T := TX4) (N := 5) (ci := 5) (k := 0) rfl in_X4 (by decide) wd_156 (fun _ h => h) ⟨by rw [hk]; decide, by rw [hk]; decide⟩ (wF_6 hk) rfl hdg kk
theorem gf_X4_11 (X : Cx p s m meth c cc nL RX4 D ka Z A) (V : Hv D ka Z s A S H locs) (hk : kd S a = 6) {b : Nat} (hb : fr S 18 a = some b) (hdg : decode cc pc = .ok (.getfield 11, 3)) (kk : W p l e R s m args below meth c H locs cells slots Q (F0 m (pc + 3) ls (.ref b :: rest))) : W p l e R s m args below meth c H locs cells slots Q (F0 m pc ls (.ref a :: rest)) :=
  r_get X V (C := RX4) (T := TX4) (N := 5) (ci := 5) (k := 2) rfl in_X4 (by decide) wd_154 (fun _ h => h) ⟨by rw [hk]; decide, by rw [hk]; decide⟩ (wF_6 hk) (show some (va_rf (fr S 18 a)) = some (Value.ref b) by rw [hb]; rfl) hdg kk
theorem gf_X4_30 (X : Cx p s m meth c cc nL RX4 D ka Z A) (V : Hv D ka Z s A S H locs) (hk : kd S a = 6) (hdg : decode cc pc = .ok (.getfield 30, 3)) (kk : W p l e R s m args below meth c H locs cells slots Q (F0 m (pc + 3) ls (.int (fi S 20 a) :: rest))) : W p l e R s m args below meth c H locs cells slots Q (F0 m pc ls (.ref a :: rest)) :=
  r_get X V (C := RX4) (T := TX4) (N := 5) (ci := 5) (k := 4) rfl in_X4 (by decide) wd_160 (fun _ h => h) ⟨by rw [hk]; decide, by rw [hk]; decide⟩ (wF_6 hk) rfl hdg kk
theorem pf_X4_30 (X : Cx p s m meth c cc nL RX4 D ka Z A) (V : Hv D ka Z s A S H locs) (hk : kd S a = 6) {v : Int32} (hdg : decode cc pc = .ok (.putfield 30, 3)) (kk : ∀ (H1 : Heap) (locs1 : List Loc), Hv D ka Z s A (sfi S 20 a v) H1 locs1 → W p l e R s m args below meth c H1 locs1 cells slots Q (F0 m (pc + 3) ls rest)) : W p l e R s m args below meth c H locs cells slots Q (F0 m pc ls (.int v :: .ref a :: rest)) := by
  refine r_put (S' := (sfi S 20 a v)) X V (C := RX4) (T := TX4) (N := 5) (ci := 5) (k := 4) (ty := .int) rfl in_X4 tyX4 tyX4_ok nmX4 (by decide) wd_160 (fun _ h => h) rfl rfl rfl rfl ⟨by rw [hk]; decide, by rw [hk]; decide⟩ (wF_6 hk) (Nat.le_of_ble_eq_true rfl) rfl rfl rfl (fun b hb => wF_sfi hb) ?_ hdg kk
  rw [wF_6 (S := (sfi S 20 a v)) hk]
  show Sum.inr (5, [Value.int (fi S 16 a), Value.long (fl S 17 a), va_rf (fr S 18 a), Value.int (fi S 19 a), Value.int (va_up (fi S) 20 (va_up (fi S 20) a v) 20 a)]) = _
  rw [up2_self]
  rfl
theorem nw_X5_11 (X : Cx p s m meth c cc nL RX5 D ka Z A) (V : Hv D ka Z s A S H locs) (hcells : cells + 1 ≤ R.cells) (hslots : slots + 2 ≤ R.slots) (hdg : decode cc pc = .ok (.new 11, 3)) (kk : ∀ (q : Nat) (H1 : Heap), kd S q = 0 → Hv D ka Z s A (snw S q 5 0) H1 locs → W p l e R s m args below meth c H1 locs (cells + 1) (slots + 2) Q (F0 m (pc + 3) ls (.ref q :: rest))) : W p l e R s m args below meth c H locs cells slots Q (F0 m pc ls rest) := by
  refine r_new X V (C := RX3) (T := TX3) (N := 2) (ci := 4) (k := 5) (fs := [.null, .int 0]) rfl in_X3 tyX3 tyX3_ok wd_161 wd_162 wd_8 (by decide) (by decide) (by decide +kernel) (fun q => ?_) hcells hslots hdg kk
  obtain ⟨e1, -, e3, e4, e5, -⟩ := snw_F (ka := ka) (S := S) (q := q) (k := 5) (n := 0)
  rw [wF_5 e1]
  simp only [e3, e4, e5] <;> rfl
theorem gf_X5_13 (X : Cx p s m meth c cc nL RX5 D ka Z A) (V : Hv D ka Z s A S H locs) (hk : kd S a = 5) (hdg : decode cc pc = .ok (.getfield 13, 3)) (kk : W p l e R s m args below meth c H locs cells slots Q (F0 m (pc + 3) ls (.int (fi S 15 a) :: rest))) : W p l e R s m args below meth c H locs cells slots Q (F0 m pc ls (.ref a :: rest)) :=
  r_getN X V (C := RX3) (T := TX3) (N := 2) (ci := 4) (k := 1) rfl in_X3 (by decide) wd_163 (fun _ h => h) ⟨by rw [hk]; decide, by rw [hk]; decide⟩ (wF_5 hk) rfl hdg kk
theorem pf_X6_11 (X : Cx p s m meth c cc nL RX6 D ka Z A) (V : Hv D ka Z s A S H locs) (hk : kd S a = 7) (hin2 : meth.name = "<init>") {v : Nat} (hdg : decode cc pc = .ok (.putfield 11, 3)) (kk : ∀ (H1 : Heap) (locs1 : List Loc), Hv D ka Z s A (sfr S 21 a (some v)) H1 locs1 → W p l e R s m args below meth c H1 locs1 cells slots Q (F0 m (pc + 3) ls rest)) : W p l e R s m args below meth c H locs cells slots Q (F0 m pc ls (.ref v :: .ref a :: rest)) := by
  refine r_putF (S' := (sfr S 21 a (some v))) X V hin2 (C := RX6) (T := TX6) (N := 6) (ci := 6) (k := 0) (ty := .array (.object "OverlayFabric$Endpoint")) rfl in_X6 tyX6 tyX6_ok nmX6 (by decide) wd_228 (fun _ h => h) rfl rfl rfl rfl rfl ⟨by rw [hk]; decide, by rw [hk]; decide⟩ (wF_7 hk) (Nat.le_of_ble_eq_true rfl) rfl rfl rfl (fun b hb => wF_sfr hb) ?_ hdg kk
  rw [wF_7 (S := (sfr S 21 a (some v))) hk]
  show Sum.inr (6, [va_rf (va_up (fr S) 21 (va_up (fr S 21) a (some v)) 21 a), va_rf (fr S 22 a), va_rf (fr S 23 a), va_rf (fr S 24 a), va_rf (fr S 25 a), Value.int (fi S 26 a)]) = _
  rw [up2_self]
  rfl
theorem nw_X6_15 (X : Cx p s m meth c cc nL RX6 D ka Z A) (V : Hv D ka Z s A S H locs) (hcells : cells + 1 ≤ R.cells) (hslots : slots + 3 ≤ R.slots) (hdg : decode cc pc = .ok (.new 15, 3)) (kk : ∀ (q : Nat) (H1 : Heap), kd S q = 0 → Hv D ka Z s A (snw S q 1 0) H1 locs → W p l e R s m args below meth c H1 locs (cells + 1) (slots + 3) Q (F0 m (pc + 3) ls (.ref q :: rest))) : W p l e R s m args below meth c H locs cells slots Q (F0 m pc ls rest) := by
  refine r_new X V (C := RJx4a65c) (T := TJx4a65c) (N := 3) (ci := 0) (k := 1) (fs := [.int 0, .null, .int 0]) rfl in_Jx4a65c tyJx4a65c tyJx4a65c_ok wd_229 wd_96 wd_39 (by decide) (by decide) (by decide +kernel) (fun q => ?_) hcells hslots hdg kk
  obtain ⟨e1, -, e3, e4, e5, -⟩ := snw_F (ka := ka) (S := S) (q := q) (k := 1) (n := 0)
  rw [wF_1 e1]
  simp only [e3, e4, e5] <;> rfl
theorem pf_X6_18 (X : Cx p s m meth c cc nL RX6 D ka Z A) (V : Hv D ka Z s A S H locs) (hk : kd S a = 7) (hin2 : meth.name = "<init>") {v : Nat} (hdg : decode cc pc = .ok (.putfield 18, 3)) (kk : ∀ (H1 : Heap) (locs1 : List Loc), Hv D ka Z s A (sfr S 22 a (some v)) H1 locs1 → W p l e R s m args below meth c H1 locs1 cells slots Q (F0 m (pc + 3) ls rest)) : W p l e R s m args below meth c H locs cells slots Q (F0 m pc ls (.ref v :: .ref a :: rest)) := by
  refine r_putF (S' := (sfr S 22 a (some v))) X V hin2 (C := RX6) (T := TX6) (N := 6) (ci := 6) (k := 1) (ty := .object "java/util/ArrayList") rfl in_X6 tyX6 tyX6_ok nmX6 (by decide) wd_231 (fun _ h => h) rfl rfl rfl rfl rfl ⟨by rw [hk]; decide, by rw [hk]; decide⟩ (wF_7 hk) (Nat.le_of_ble_eq_true rfl) rfl rfl rfl (fun b hb => wF_sfr hb) ?_ hdg kk
  rw [wF_7 (S := (sfr S 22 a (some v))) hk]
  show Sum.inr (6, [va_rf (fr S 21 a), va_rf (va_up (fr S) 22 (va_up (fr S 22) a (some v)) 22 a), va_rf (fr S 23 a), va_rf (fr S 24 a), va_rf (fr S 25 a), Value.int (fi S 26 a)]) = _
  rw [up2_self]
  rfl
theorem pf_X6_22 (X : Cx p s m meth c cc nL RX6 D ka Z A) (V : Hv D ka Z s A S H locs) (hk : kd S a = 7) (hin2 : meth.name = "<init>") {v : Nat} (hdg : decode cc pc = .ok (.putfield 22, 3)) (kk : ∀ (H1 : Heap) (locs1 : List Loc), Hv D ka Z s A (sfr S 23 a (some v)) H1 locs1 → W p l e R s m args below meth c H1 locs1 cells slots Q (F0 m (pc + 3) ls rest)) : W p l e R s m args below meth c H locs cells slots Q (F0 m pc ls (.ref v :: .ref a :: rest)) := by
  refine r_putF (S' := (sfr S 23 a (some v))) X V hin2 (C := RX6) (T := TX6) (N := 6) (ci := 6) (k := 2) (ty := .object "java/util/ArrayList") rfl in_X6 tyX6 tyX6_ok nmX6 (by decide) wd_232 (fun _ h => h) rfl rfl rfl rfl rfl ⟨by rw [hk]; decide, by rw [hk]; decide⟩ (wF_7 hk) (Nat.le_of_ble_eq_true rfl) rfl rfl rfl (fun b hb => wF_sfr hb) ?_ hdg kk
  rw [wF_7 (S := (sfr S 23 a (some v))) hk]
  show Sum.inr (6, [va_rf (fr S 21 a), va_rf (fr S 22 a), va_rf (va_up (fr S) 23 (va_up (fr S 23) a (some v)) 23 a), va_rf (fr S 24 a), va_rf (fr S 25 a), Value.int (fi S 26 a)]) = _
  rw [up2_self]
  rfl
theorem nw_X6_25 (X : Cx p s m meth c cc nL RX6 D ka Z A) (V : Hv D ka Z s A S H locs) (hcells : cells + 1 ≤ R.cells) (hslots : slots + 2 ≤ R.slots) (hdg : decode cc pc = .ok (.new 25, 3)) (kk : ∀ (q : Nat) (H1 : Heap), kd S q = 0 → Hv D ka Z s A (snw S q 5 0) H1 locs → W p l e R s m args below meth c H1 locs (cells + 1) (slots + 2) Q (F0 m (pc + 3) ls (.ref q :: rest))) : W p l e R s m args below meth c H locs cells slots Q (F0 m pc ls rest) := by
  refine r_new X V (C := RX3) (T := TX3) (N := 2) (ci := 4) (k := 5) (fs := [.null, .int 0]) rfl in_X3 tyX3 tyX3_ok wd_233 wd_162 wd_8 (by decide) (by decide) (by decide +kernel) (fun q => ?_) hcells hslots hdg kk
  obtain ⟨e1, -, e3, e4, e5, -⟩ := snw_F (ka := ka) (S := S) (q := q) (k := 5) (n := 0)
  rw [wF_5 e1]
  simp only [e3, e4, e5] <;> rfl
theorem pf_X6_30 (X : Cx p s m meth c cc nL RX6 D ka Z A) (V : Hv D ka Z s A S H locs) (hk : kd S a = 7) (hin2 : meth.name = "<init>") {v : Nat} (hdg : decode cc pc = .ok (.putfield 30, 3)) (kk : ∀ (H1 : Heap) (locs1 : List Loc), Hv D ka Z s A (sfr S 24 a (some v)) H1 locs1 → W p l e R s m args below meth c H1 locs1 cells slots Q (F0 m (pc + 3) ls rest)) : W p l e R s m args below meth c H locs cells slots Q (F0 m pc ls (.ref v :: .ref a :: rest)) := by
  refine r_putF (S' := (sfr S 24 a (some v))) X V hin2 (C := RX6) (T := TX6) (N := 6) (ci := 6) (k := 3) (ty := .object "OverlayFabric$Row") rfl in_X6 tyX6 tyX6_ok nmX6 (by decide) wd_235 (fun _ h => h) rfl rfl rfl rfl rfl ⟨by rw [hk]; decide, by rw [hk]; decide⟩ (wF_7 hk) (Nat.le_of_ble_eq_true rfl) rfl rfl rfl (fun b hb => wF_sfr hb) ?_ hdg kk
  rw [wF_7 (S := (sfr S 24 a (some v))) hk]
  show Sum.inr (6, [va_rf (fr S 21 a), va_rf (fr S 22 a), va_rf (fr S 23 a), va_rf (va_up (fr S) 24 (va_up (fr S 24) a (some v)) 24 a), va_rf (fr S 25 a), Value.int (fi S 26 a)]) = _
  rw [up2_self]
  rfl
theorem pf_X6_34 (X : Cx p s m meth c cc nL RX6 D ka Z A) (V : Hv D ka Z s A S H locs) (hk : kd S a = 7) (hin2 : meth.name = "<init>") {v : Nat} (hdg : decode cc pc = .ok (.putfield 34, 3)) (kk : ∀ (H1 : Heap) (locs1 : List Loc), Hv D ka Z s A (sfr S 25 a (some v)) H1 locs1 → W p l e R s m args below meth c H1 locs1 cells slots Q (F0 m (pc + 3) ls rest)) : W p l e R s m args below meth c H locs cells slots Q (F0 m pc ls (.ref v :: .ref a :: rest)) := by
  refine r_putF (S' := (sfr S 25 a (some v))) X V hin2 (C := RX6) (T := TX6) (N := 6) (ci := 6) (k := 4) (ty := .array .int) rfl in_X6 tyX6 tyX6_ok nmX6 (by decide) wd_236 (fun _ h => h) rfl rfl rfl rfl rfl ⟨by rw [hk]; decide, by rw [hk]; decide⟩ (wF_7 hk) (Nat.le_of_ble_eq_true rfl) rfl rfl rfl (fun b hb => wF_sfr hb) ?_ hdg kk
  rw [wF_7 (S := (sfr S 25 a (some v))) hk]
  show Sum.inr (6, [va_rf (fr S 21 a), va_rf (fr S 22 a), va_rf (fr S 23 a), va_rf (fr S 24 a), va_rf (va_up (fr S) 25 (va_up (fr S 25) a (some v)) 25 a), Value.int (fi S 26 a)]) = _
  rw [up2_self]
  rfl
theorem pf_X6_38 (X : Cx p s m meth c cc nL RX6 D ka Z A) (V : Hv D ka Z s A S H locs) (hk : kd S a = 7) {v : Int32} (hdg : decode cc pc = .ok (.putfield 38, 3)) (kk : ∀ (H1 : Heap) (locs1 : List Loc), Hv D ka Z s A (sfi S 26 a v) H1 locs1 → W p l e R s m args below meth c H1 locs1 cells slots Q (F0 m (pc + 3) ls rest)) : W p l e R s m args below meth c H locs cells slots Q (F0 m pc ls (.int v :: .ref a :: rest)) := by
  refine r_put (S' := (sfi S 26 a v)) X V (C := RX6) (T := TX6) (N := 6) (ci := 6) (k := 5) (ty := .int) rfl in_X6 tyX6 tyX6_ok nmX6 (by decide) wd_237 (fun _ h => h) rfl rfl rfl rfl ⟨by rw [hk]; decide, by rw [hk]; decide⟩ (wF_7 hk) (Nat.le_of_ble_eq_true rfl) rfl rfl rfl (fun b hb => wF_sfi hb) ?_ hdg kk
  rw [wF_7 (S := (sfi S 26 a v)) hk]
  show Sum.inr (6, [va_rf (fr S 21 a), va_rf (fr S 22 a), va_rf (fr S 23 a), va_rf (fr S 24 a), va_rf (fr S 25 a), Value.int (va_up (fi S) 26 (va_up (fi S 26) a v) 26 a)]) = _
  rw [up2_self]
  rfl
theorem gf_X6_11 (X : Cx p s m meth c cc nL RX6 D ka Z A) (V : Hv D ka Z s A S H locs) (hk : kd S a = 7) {b : Nat} (hb : fr S 21 a = some b) (hdg : decode cc pc = .ok (.getfield 11, 3)) (kk : W p l e R s m args below meth c H locs cells slots Q (F0 m (pc + 3) ls (.ref b :: rest))) : W p l e R s m args below meth c H locs cells slots Q (F0 m pc ls (.ref a :: rest)) :=
  r_get X V (C := RX6) (T := TX6) (N := 6) (ci := 6) (k := 0) rfl in_X6 (by decide) wd_228 (fun _ h => h) ⟨by rw [hk]; decide, by rw [hk]; decide⟩ (wF_7 hk) (show some (va_rf (fr S 21 a)) = some (Value.ref b) by rw [hb]; rfl) hdg kk
theorem nw_X6_9 (X : Cx p s m meth c cc nL RX6 D ka Z A) (V : Hv D ka Z s A S H locs) (hcells : cells + 1 ≤ R.cells) (hslots : slots + 4 ≤ R.slots) (hdg : decode cc pc = .ok (.new 9, 3)) (kk : ∀ (q : Nat) (H1 : Heap), kd S q = 0 → Hv D ka Z s A (snw S q 2 0) H1 locs → W p l e R s m args below meth c H1 locs (cells + 1) (slots + 4) Q (F0 m (pc + 3) ls (.ref q :: rest))) : W p l e R s m args below meth c H locs cells slots Q (F0 m pc ls rest) := by
  refine r_new X V (C := RX0) (T := TX0) (N := 4) (ci := 1) (k := 2) (fs := [.int 0, .null, .null, .int 0]) rfl in_X0 tyX0 tyX0_ok wd_226 wd_238 wd_119 (by decide) (by decide) (by decide +kernel) (fun q => ?_) hcells hslots hdg kk
  obtain ⟨e1, -, e3, e4, e5, -⟩ := snw_F (ka := ka) (S := S) (q := q) (k := 2) (n := 0)
  rw [wF_2 e1]
  simp only [e3, e4, e5] <;> rfl
theorem gf_X6_18 (X : Cx p s m meth c cc nL RX6 D ka Z A) (V : Hv D ka Z s A S H locs) (hk : kd S a = 7) {b : Nat} (hb : fr S 22 a = some b) (hdg : decode cc pc = .ok (.getfield 18, 3)) (kk : W p l e R s m args below meth c H locs cells slots Q (F0 m (pc + 3) ls (.ref b :: rest))) : W p l e R s m args below meth c H locs cells slots Q (F0 m pc ls (.ref a :: rest)) :=
  r_get X V (C := RX6) (T := TX6) (N := 6) (ci := 6) (k := 1) rfl in_X6 (by decide) wd_231 (fun _ h => h) ⟨by rw [hk]; decide, by rw [hk]; decide⟩ (wF_7 hk) (show some (va_rf (fr S 22 a)) = some (Value.ref b) by rw [hb]; rfl) hdg kk
theorem gf_X6_22 (X : Cx p s m meth c cc nL RX6 D ka Z A) (V : Hv D ka Z s A S H locs) (hk : kd S a = 7) {b : Nat} (hb : fr S 23 a = some b) (hdg : decode cc pc = .ok (.getfield 22, 3)) (kk : W p l e R s m args below meth c H locs cells slots Q (F0 m (pc + 3) ls (.ref b :: rest))) : W p l e R s m args below meth c H locs cells slots Q (F0 m pc ls (.ref a :: rest)) :=
  r_get X V (C := RX6) (T := TX6) (N := 6) (ci := 6) (k := 2) rfl in_X6 (by decide) wd_232 (fun _ h => h) ⟨by rw [hk]; decide, by rw [hk]; decide⟩ (wF_7 hk) (show some (va_rf (fr S 23 a)) = some (Value.ref b) by rw [hb]; rfl) hdg kk
theorem gf_X6_34 (X : Cx p s m meth c cc nL RX6 D ka Z A) (V : Hv D ka Z s A S H locs) (hk : kd S a = 7) {b : Nat} (hb : fr S 25 a = some b) (hdg : decode cc pc = .ok (.getfield 34, 3)) (kk : W p l e R s m args below meth c H locs cells slots Q (F0 m (pc + 3) ls (.ref b :: rest))) : W p l e R s m args below meth c H locs cells slots Q (F0 m pc ls (.ref a :: rest)) :=
  r_get X V (C := RX6) (T := TX6) (N := 6) (ci := 6) (k := 4) rfl in_X6 (by decide) wd_236 (fun _ h => h) ⟨by rw [hk]; decide, by rw [hk]; decide⟩ (wF_7 hk) (show some (va_rf (fr S 25 a)) = some (Value.ref b) by rw [hb]; rfl) hdg kk
theorem gf_X6_38 (X : Cx p s m meth c cc nL RX6 D ka Z A) (V : Hv D ka Z s A S H locs) (hk : kd S a = 7) (hdg : decode cc pc = .ok (.getfield 38, 3)) (kk : W p l e R s m args below meth c H locs cells slots Q (F0 m (pc + 3) ls (.int (fi S 26 a) :: rest))) : W p l e R s m args below meth c H locs cells slots Q (F0 m pc ls (.ref a :: rest)) :=
  r_get X V (C := RX6) (T := TX6) (N := 6) (ci := 6) (k := 5) rfl in_X6 (by decide) wd_237 (fun _ h => h) ⟨by rw [hk]; decide, by rw [hk]; decide⟩ (wF_7 hk) rfl hdg kk
theorem nw_X6_58 (X : Cx p s m meth c cc nL RX6 D ka Z A) (V : Hv D ka Z s A S H locs) (hcells : cells + 1 ≤ R.cells) (hslots : slots + 5 ≤ R.slots) (hdg : decode cc pc = .ok (.new 58, 3)) (kk : ∀ (q : Nat) (H1 : Heap), kd S q = 0 → Hv D ka Z s A (snw S q 6 0) H1 locs → W p l e R s m args below meth c H1 locs (cells + 1) (slots + 5) Q (F0 m (pc + 3) ls (.ref q :: rest))) : W p l e R s m args below meth c H locs cells slots Q (F0 m pc ls rest) := by
  refine r_new X V (C := RX4) (T := TX4) (N := 5) (ci := 5) (k := 6) (fs := [.int 0, .long 0, .null, .int 0, .int 0]) rfl in_X4 tyX4 tyX4_ok wd_254 wd_255 wd_256 (by decide) (by decide) (by decide +kernel) (fun q => ?_) hcells hslots hdg kk
  obtain ⟨e1, -, e3, e4, e5, -⟩ := snw_F (ka := ka) (S := S) (q := q) (k := 6) (n := 0)
  rw [wF_6 e1]
  simp only [e3, e4, e5] <;> rfl
theorem pf_X6_71 (X : Cx p s m meth c cc nL RX6 D ka Z A) (V : Hv D ka Z s A S H locs) (hk : kd S a = 6) {v : Int32} (hdg : decode cc pc = .ok (.putfield 71, 3)) (kk : ∀ (H1 : Heap) (locs1 : List Loc), Hv D ka Z s A (sfi S 19 a v) H1 locs1 → W p l e R s m args below meth c H1 locs1 cells slots Q (F0 m (pc + 3) ls rest)) : W p l e R s m args below meth c H locs cells slots Q (F0 m pc ls (.int v :: .ref a :: rest)) := by
  refine r_putN (S' := (sfi S 19 a v)) X V (C := RX4) (T := TX4) (N := 5) (ci := 5) (k := 3) (ty := .int) rfl in_X4 tyX4 tyX4_ok nmX4 (by decide) wd_269 (fun _ h => h) rfl rfl rfl rfl ⟨by rw [hk]; decide, by rw [hk]; decide⟩ (wF_6 hk) (Nat.le_of_ble_eq_true rfl) rfl rfl rfl (fun b hb => wF_sfi hb) ?_ hdg kk
  rw [wF_6 (S := (sfi S 19 a v)) hk]
  show Sum.inr (5, [Value.int (fi S 16 a), Value.long (fl S 17 a), va_rf (fr S 18 a), Value.int (va_up (fi S) 19 (va_up (fi S 19) a v) 19 a), Value.int (fi S 20 a)]) = _
  rw [up2_self]
  rfl
theorem gf_X6_30 (X : Cx p s m meth c cc nL RX6 D ka Z A) (V : Hv D ka Z s A S H locs) (hk : kd S a = 7) {b : Nat} (hb : fr S 24 a = some b) (hdg : decode cc pc = .ok (.getfield 30, 3)) (kk : W p l e R s m args below meth c H locs cells slots Q (F0 m (pc + 3) ls (.ref b :: rest))) : W p l e R s m args below meth c H locs cells slots Q (F0 m pc ls (.ref a :: rest)) :=
  r_get X V (C := RX6) (T := TX6) (N := 6) (ci := 6) (k := 3) rfl in_X6 (by decide) wd_235 (fun _ h => h) ⟨by rw [hk]; decide, by rw [hk]; decide⟩ (wF_7 hk) (show some (va_rf (fr S 24 a)) = some (Value.ref b) by rw [hb]; rfl) hdg kk
theorem gf_X6_80 (X : Cx p s m meth c cc nL RX6 D ka Z A) (V : Hv D ka Z s A S H locs) (hk : kd S a = 5) (hdg : decode cc pc = .ok (.getfield 80, 3)) (kk : W p l e R s m args below meth c H locs cells slots Q (F0 m (pc + 3) ls (.int (fi S 15 a) :: rest))) : W p l e R s m args below meth c H locs cells slots Q (F0 m pc ls (.ref a :: rest)) :=
  r_getN X V (C := RX3) (T := TX3) (N := 2) (ci := 4) (k := 1) rfl in_X3 (by decide) wd_274 (fun _ h => h) ⟨by rw [hk]; decide, by rw [hk]; decide⟩ (wF_5 hk) rfl hdg kk
theorem gf_X6_205 (X : Cx p s m meth c cc nL RX6 D ka Z A) (V : Hv D ka Z s A S H locs) (hk : kd S a = 3) (hdg : decode cc pc = .ok (.getfield 205, 3)) (kk : W p l e R s m args below meth c H locs cells slots Q (F0 m (pc + 3) ls (.int (fi S 7 a) :: rest))) : W p l e R s m args below meth c H locs cells slots Q (F0 m pc ls (.ref a :: rest)) :=
  r_getN X V (C := RX1) (T := TX1) (N := 5) (ci := 2) (k := 0) rfl in_X1 (by decide) wd_276 (fun _ h => h) ⟨by rw [hk]; decide, by rw [hk]; decide⟩ (wF_3 hk) rfl hdg kk
theorem gf_X6_206 (X : Cx p s m meth c cc nL RX6 D ka Z A) (V : Hv D ka Z s A S H locs) (hk : kd S a = 3) (hdg : decode cc pc = .ok (.getfield 206, 3)) (kk : W p l e R s m args below meth c H locs cells slots Q (F0 m (pc + 3) ls (.long (fl S 8 a) :: rest))) : W p l e R s m args below meth c H locs cells slots Q (F0 m pc ls (.ref a :: rest)) :=
  r_getN X V (C := RX1) (T := TX1) (N := 5) (ci := 2) (k := 1) rfl in_X1 (by decide) wd_277 (fun _ h => h) ⟨by rw [hk]; decide, by rw [hk]; decide⟩ (wF_3 hk) rfl hdg kk
theorem gf_X6_174 (X : Cx p s m meth c cc nL RX6 D ka Z A) (V : Hv D ka Z s A S H locs) (hk : kd S a = 2) {b : Nat} (hb : fr S 4 a = some b) (hdg : decode cc pc = .ok (.getfield 174, 3)) (kk : W p l e R s m args below meth c H locs cells slots Q (F0 m (pc + 3) ls (.ref b :: rest))) : W p l e R s m args below meth c H locs cells slots Q (F0 m pc ls (.ref a :: rest)) :=
  r_getN X V (C := RX0) (T := TX0) (N := 4) (ci := 1) (k := 1) rfl in_X0 (by decide) wd_284 (fun _ h => h) ⟨by rw [hk]; decide, by rw [hk]; decide⟩ (wF_2 hk) (show some (va_rf (fr S 4 a)) = some (Value.ref b) by rw [hb]; rfl) hdg kk
theorem pf_X6_215 (X : Cx p s m meth c cc nL RX6 D ka Z A) (V : Hv D ka Z s A S H locs) (hk : kd S a = 3) {v : Int32} (hdg : decode cc pc = .ok (.putfield 215, 3)) (kk : ∀ (H1 : Heap) (locs1 : List Loc), Hv D ka Z s A (sfi S 11 a v) H1 locs1 → W p l e R s m args below meth c H1 locs1 cells slots Q (F0 m (pc + 3) ls rest)) : W p l e R s m args below meth c H locs cells slots Q (F0 m pc ls (.int v :: .ref a :: rest)) := by
  refine r_putN (S' := (sfi S 11 a v)) X V (C := RX1) (T := TX1) (N := 5) (ci := 2) (k := 4) (ty := .int) rfl in_X1 tyX1 tyX1_ok nmX1 (by decide) wd_299 (fun _ h => h) rfl rfl rfl rfl ⟨by rw [hk]; decide, by rw [hk]; decide⟩ (wF_3 hk) (Nat.le_of_ble_eq_true rfl) rfl rfl rfl (fun b hb => wF_sfi hb) ?_ hdg kk
  rw [wF_3 (S := (sfi S 11 a v)) hk]
  show Sum.inr (2, [Value.int (fi S 7 a), Value.long (fl S 8 a), Value.int (fi S 9 a), Value.int (fi S 10 a), Value.int (va_up (fi S) 11 (va_up (fi S 11) a v) 11 a)]) = _
  rw [up2_self]
  rfl
theorem gf_X6_241 (X : Cx p s m meth c cc nL RX6 D ka Z A) (V : Hv D ka Z s A S H locs) (hk : kd S a = 2) (hdg : decode cc pc = .ok (.getfield 241, 3)) (kk : W p l e R s m args below meth c H locs cells slots Q (F0 m (pc + 3) ls (.int (fi S 6 a) :: rest))) : W p l e R s m args below meth c H locs cells slots Q (F0 m pc ls (.ref a :: rest)) :=
  r_getN X V (C := RX0) (T := TX0) (N := 4) (ci := 1) (k := 3) rfl in_X0 (by decide) wd_312 (fun _ h => h) ⟨by rw [hk]; decide, by rw [hk]; decide⟩ (wF_2 hk) rfl hdg kk
theorem gf_X6_114 (X : Cx p s m meth c cc nL RX6 D ka Z A) (V : Hv D ka Z s A S H locs) (hk : kd S a = 2) (hdg : decode cc pc = .ok (.getfield 114, 3)) (kk : W p l e R s m args below meth c H locs cells slots Q (F0 m (pc + 3) ls (.int (fi S 3 a) :: rest))) : W p l e R s m args below meth c H locs cells slots Q (F0 m pc ls (.ref a :: rest)) :=
  r_getN X V (C := RX0) (T := TX0) (N := 4) (ci := 1) (k := 0) rfl in_X0 (by decide) wd_313 (fun _ h => h) ⟨by rw [hk]; decide, by rw [hk]; decide⟩ (wF_2 hk) rfl hdg kk
theorem pf_X6_241 (X : Cx p s m meth c cc nL RX6 D ka Z A) (V : Hv D ka Z s A S H locs) (hk : kd S a = 2) {v : Int32} (hdg : decode cc pc = .ok (.putfield 241, 3)) (kk : ∀ (H1 : Heap) (locs1 : List Loc), Hv D ka Z s A (sfi S 6 a v) H1 locs1 → W p l e R s m args below meth c H1 locs1 cells slots Q (F0 m (pc + 3) ls rest)) : W p l e R s m args below meth c H locs cells slots Q (F0 m pc ls (.int v :: .ref a :: rest)) := by
  refine r_putN (S' := (sfi S 6 a v)) X V (C := RX0) (T := TX0) (N := 4) (ci := 1) (k := 3) (ty := .int) rfl in_X0 tyX0 tyX0_ok nmX0 (by decide) wd_312 (fun _ h => h) rfl rfl rfl rfl ⟨by rw [hk]; decide, by rw [hk]; decide⟩ (wF_2 hk) (Nat.le_of_ble_eq_true rfl) rfl rfl rfl (fun b hb => wF_sfi hb) ?_ hdg kk
  rw [wF_2 (S := (sfi S 6 a v)) hk]
  show Sum.inr (1, [Value.int (fi S 3 a), va_rf (fr S 4 a), va_rf (fr S 5 a), Value.int (va_up (fi S) 6 (va_up (fi S 6) a v) 6 a)]) = _
  rw [up2_self]
  rfl
theorem nw_X6_146 (X : Cx p s m meth c cc nL RX6 D ka Z A) (V : Hv D ka Z s A S H locs) (hcells : cells + 1 ≤ R.cells) (hslots : slots + 2 ≤ R.slots) (hdg : decode cc pc = .ok (.new 146, 3)) (kk : ∀ (q : Nat) (H1 : Heap), kd S q = 0 → Hv D ka Z s A (snw S q 4 0) H1 locs → W p l e R s m args below meth c H1 locs (cells + 1) (slots + 2) Q (F0 m (pc + 3) ls (.ref q :: rest))) : W p l e R s m args below meth c H locs cells slots Q (F0 m pc ls rest) := by
  refine r_new X V (C := RX2) (T := TX2) (N := 2) (ci := 3) (k := 4) (fs := [.null, .int 0]) rfl in_X2 tyX2 tyX2_ok wd_317 wd_318 wd_319 (by decide) (by decide) (by decide +kernel) (fun q => ?_) hcells hslots hdg kk
  obtain ⟨e1, -, e3, e4, e5, -⟩ := snw_F (ka := ka) (S := S) (q := q) (k := 4) (n := 0)
  rw [wF_4 e1]
  simp only [e3, e4, e5] <;> rfl
theorem gf_X6_71 (X : Cx p s m meth c cc nL RX6 D ka Z A) (V : Hv D ka Z s A S H locs) (hk : kd S a = 6) (hdg : decode cc pc = .ok (.getfield 71, 3)) (kk : W p l e R s m args below meth c H locs cells slots Q (F0 m (pc + 3) ls (.int (fi S 19 a) :: rest))) : W p l e R s m args below meth c H locs cells slots Q (F0 m pc ls (.ref a :: rest)) :=
  r_getN X V (C := RX4) (T := TX4) (N := 5) (ci := 5) (k := 3) rfl in_X4 (by decide) wd_269 (fun _ h => h) ⟨by rw [hk]; decide, by rw [hk]; decide⟩ (wF_6 hk) rfl hdg kk
theorem gf_X6_89 (X : Cx p s m meth c cc nL RX6 D ka Z A) (V : Hv D ka Z s A S H locs) (hk : kd S a = 6) (hdg : decode cc pc = .ok (.getfield 89, 3)) (kk : W p l e R s m args below meth c H locs cells slots Q (F0 m (pc + 3) ls (.long (fl S 17 a) :: rest))) : W p l e R s m args below meth c H locs cells slots Q (F0 m pc ls (.ref a :: rest)) :=
  r_getN X V (C := RX4) (T := TX4) (N := 5) (ci := 5) (k := 1) rfl in_X4 (by decide) wd_334 (fun _ h => h) ⟨by rw [hk]; decide, by rw [hk]; decide⟩ (wF_6 hk) rfl hdg kk
theorem nw_X6_98 (X : Cx p s m meth c cc nL RX6 D ka Z A) (V : Hv D ka Z s A S H locs) (hcells : cells + 1 ≤ R.cells) (hslots : slots + 5 ≤ R.slots) (hdg : decode cc pc = .ok (.new 98, 3)) (kk : ∀ (q : Nat) (H1 : Heap), kd S q = 0 → Hv D ka Z s A (snw S q 3 0) H1 locs → W p l e R s m args below meth c H1 locs (cells + 1) (slots + 5) Q (F0 m (pc + 3) ls (.ref q :: rest))) : W p l e R s m args below meth c H locs cells slots Q (F0 m pc ls rest) := by
  refine r_new X V (C := RX1) (T := TX1) (N := 5) (ci := 2) (k := 3) (fs := [.int 0, .long 0, .int 0, .int 0, .int 0]) rfl in_X1 tyX1 tyX1_ok wd_342 wd_343 wd_296 (by decide) (by decide) (by decide +kernel) (fun q => ?_) hcells hslots hdg kk
  obtain ⟨e1, -, e3, e4, e5, -⟩ := snw_F (ka := ka) (S := S) (q := q) (k := 3) (n := 0)
  rw [wF_3 e1]
  simp only [e3, e4, e5] <;> rfl
theorem gf_X6_100 (X : Cx p s m meth c cc nL RX6 D ka Z A) (V : Hv D ka Z s A S H locs) (hk : kd S a = 6) (hdg : decode cc pc = .ok (.getfield 100, 3)) (kk : W p l e R s m args below meth c H locs cells slots Q (F0 m (pc + 3) ls (.int (fi S 16 a) :: rest))) : W p l e R s m args below meth c H locs cells slots Q (F0 m pc ls (.ref a :: rest)) :=
  r_getN X V (C := RX4) (T := TX4) (N := 5) (ci := 5) (k := 0) rfl in_X4 (by decide) wd_344 (fun _ h => h) ⟨by rw [hk]; decide, by rw [hk]; decide⟩ (wF_6 hk) rfl hdg kk
theorem gf_X6_125 (X : Cx p s m meth c cc nL RX6 D ka Z A) (V : Hv D ka Z s A S H locs) (hk : kd S a = 3) (hdg : decode cc pc = .ok (.getfield 125, 3)) (kk : W p l e R s m args below meth c H locs cells slots Q (F0 m (pc + 3) ls (.int (fi S 10 a) :: rest))) : W p l e R s m args below meth c H locs cells slots Q (F0 m pc ls (.ref a :: rest)) :=
  r_getN X V (C := RX1) (T := TX1) (N := 5) (ci := 2) (k := 3) rfl in_X1 (by decide) wd_364 (fun _ h => h) ⟨by rw [hk]; decide, by rw [hk]; decide⟩ (wF_3 hk) rfl hdg kk
theorem gf_X6_128 (X : Cx p s m meth c cc nL RX6 D ka Z A) (V : Hv D ka Z s A S H locs) (hk : kd S a = 3) (hdg : decode cc pc = .ok (.getfield 128, 3)) (kk : W p l e R s m args below meth c H locs cells slots Q (F0 m (pc + 3) ls (.int (fi S 9 a) :: rest))) : W p l e R s m args below meth c H locs cells slots Q (F0 m pc ls (.ref a :: rest)) :=
  r_getN X V (C := RX1) (T := TX1) (N := 5) (ci := 2) (k := 2) rfl in_X1 (by decide) wd_369 (fun _ h => h) ⟨by rw [hk]; decide, by rw [hk]; decide⟩ (wF_3 hk) rfl hdg kk
theorem gf_X6_145 (X : Cx p s m meth c cc nL RX6 D ka Z A) (V : Hv D ka Z s A S H locs) (hk : kd S a = 4) {b : Nat} (hb : fr S 12 a = some b) (hdg : decode cc pc = .ok (.getfield 145, 3)) (kk : W p l e R s m args below meth c H locs cells slots Q (F0 m (pc + 3) ls (.ref b :: rest))) : W p l e R s m args below meth c H locs cells slots Q (F0 m pc ls (.ref a :: rest)) :=
  r_getN X V (C := RX2) (T := TX2) (N := 2) (ci := 3) (k := 0) rfl in_X2 (by decide) wd_401 (fun _ h => h) ⟨by rw [hk]; decide, by rw [hk]; decide⟩ (wF_4 hk) (show some (va_rf (fr S 12 a)) = some (Value.ref b) by rw [hb]; rfl) hdg kk
theorem gf_X6_150 (X : Cx p s m meth c cc nL RX6 D ka Z A) (V : Hv D ka Z s A S H locs) (hk : kd S a = 4) (hdg : decode cc pc = .ok (.getfield 150, 3)) (kk : W p l e R s m args below meth c H locs cells slots Q (F0 m (pc + 3) ls (.int (fi S 13 a) :: rest))) : W p l e R s m args below meth c H locs cells slots Q (F0 m pc ls (.ref a :: rest)) :=
  r_getN X V (C := RX2) (T := TX2) (N := 2) (ci := 3) (k := 1) rfl in_X2 (by decide) wd_402 (fun _ h => h) ⟨by rw [hk]; decide, by rw [hk]; decide⟩ (wF_4 hk) rfl hdg kk
theorem gf_X6_187 (X : Cx p s m meth c cc nL RX6 D ka Z A) (V : Hv D ka Z s A S H locs) (hk : kd S a = 6) (hdg : decode cc pc = .ok (.getfield 187, 3)) (kk : W p l e R s m args below meth c H locs cells slots Q (F0 m (pc + 3) ls (.int (fi S 20 a) :: rest))) : W p l e R s m args below meth c H locs cells slots Q (F0 m pc ls (.ref a :: rest)) :=
  r_getN X V (C := RX4) (T := TX4) (N := 5) (ci := 5) (k := 4) rfl in_X4 (by decide) wd_429 (fun _ h => h) ⟨by rw [hk]; decide, by rw [hk]; decide⟩ (wF_6 hk) rfl hdg kk
theorem pf_X7_76 (X : Cx p s m meth c cc nL RX7 D ka Z A) (V : Hv D ka Z s A S H locs) (hk : kd S a = 8) {v : Int32} (hdg : decode cc pc = .ok (.putfield 76, 3)) (kk : ∀ (H1 : Heap) (locs1 : List Loc), Hv D ka Z s A (sfi S 27 a v) H1 locs1 → W p l e R s m args below meth c H1 locs1 cells slots Q (F0 m (pc + 3) ls rest)) : W p l e R s m args below meth c H locs cells slots Q (F0 m pc ls (.int v :: .ref a :: rest)) := by
  refine r_put (S' := (sfi S 27 a v)) X V (C := RX7) (T := TX7) (N := 26) (ci := 7) (k := 0) (ty := .int) rfl in_X7 tyX7 tyX7_ok nmX7 (by decide) wd_438 (fun _ h => h) rfl rfl rfl rfl ⟨by rw [hk]; decide, by rw [hk]; decide⟩ (wF_8 hk) (Nat.le_of_ble_eq_true rfl) rfl rfl rfl (fun b hb => wF_sfi hb) ?_ hdg kk
  rw [wF_8 (S := (sfi S 27 a v)) hk]
  show Sum.inr (7, [Value.int (va_up (fi S) 27 (va_up (fi S 27) a v) 27 a), Value.int (fi S 28 a), va_rf (fr S 29 a), va_rf (fr S 30 a), va_rf (fr S 31 a), va_rf (fr S 32 a), va_rf (fr S 33 a), va_rf (fr S 34 a), va_rf (fr S 35 a), va_rf (fr S 36 a), va_rf (fr S 37 a), va_rf (fr S 38 a), va_rf (fr S 39 a), va_rf (fr S 40 a), va_rf (fr S 41 a), va_rf (fr S 42 a), Value.int (fi S 43 a), va_rf (fr S 44 a), va_rf (fr S 45 a), va_rf (fr S 46 a), Value.int (fi S 47 a), va_rf (fr S 48 a), va_rf (fr S 49 a), Value.int (fi S 50 a), va_rf (fr S 51 a), Value.int (fi S 52 a)]) = _
  rw [up2_self]
  rfl
theorem pf_X7_80 (X : Cx p s m meth c cc nL RX7 D ka Z A) (V : Hv D ka Z s A S H locs) (hk : kd S a = 8) {v : Int32} (hdg : decode cc pc = .ok (.putfield 80, 3)) (kk : ∀ (H1 : Heap) (locs1 : List Loc), Hv D ka Z s A (sfi S 28 a v) H1 locs1 → W p l e R s m args below meth c H1 locs1 cells slots Q (F0 m (pc + 3) ls rest)) : W p l e R s m args below meth c H locs cells slots Q (F0 m pc ls (.int v :: .ref a :: rest)) := by
  refine r_put (S' := (sfi S 28 a v)) X V (C := RX7) (T := TX7) (N := 26) (ci := 7) (k := 1) (ty := .int) rfl in_X7 tyX7 tyX7_ok nmX7 (by decide) wd_439 (fun _ h => h) rfl rfl rfl rfl ⟨by rw [hk]; decide, by rw [hk]; decide⟩ (wF_8 hk) (Nat.le_of_ble_eq_true rfl) rfl rfl rfl (fun b hb => wF_sfi hb) ?_ hdg kk
  rw [wF_8 (S := (sfi S 28 a v)) hk]
  show Sum.inr (7, [Value.int (fi S 27 a), Value.int (va_up (fi S) 28 (va_up (fi S 28) a v) 28 a), va_rf (fr S 29 a), va_rf (fr S 30 a), va_rf (fr S 31 a), va_rf (fr S 32 a), va_rf (fr S 33 a), va_rf (fr S 34 a), va_rf (fr S 35 a), va_rf (fr S 36 a), va_rf (fr S 37 a), va_rf (fr S 38 a), va_rf (fr S 39 a), va_rf (fr S 40 a), va_rf (fr S 41 a), va_rf (fr S 42 a), Value.int (fi S 43 a), va_rf (fr S 44 a), va_rf (fr S 45 a), va_rf (fr S 46 a), Value.int (fi S 47 a), va_rf (fr S 48 a), va_rf (fr S 49 a), Value.int (fi S 50 a), va_rf (fr S 51 a), Value.int (fi S 52 a)]) = _
  rw [up2_self]
  rfl
theorem pf_X7_83 (X : Cx p s m meth c cc nL RX7 D ka Z A) (V : Hv D ka Z s A S H locs) (hk : kd S a = 8) {v : Int32} (hdg : decode cc pc = .ok (.putfield 83, 3)) (kk : ∀ (H1 : Heap) (locs1 : List Loc), Hv D ka Z s A (sfi S 47 a v) H1 locs1 → W p l e R s m args below meth c H1 locs1 cells slots Q (F0 m (pc + 3) ls rest)) : W p l e R s m args below meth c H locs cells slots Q (F0 m pc ls (.int v :: .ref a :: rest)) := by
  refine r_put (S' := (sfi S 47 a v)) X V (C := RX7) (T := TX7) (N := 26) (ci := 7) (k := 20) (ty := .int) rfl in_X7 tyX7 tyX7_ok nmX7 (by decide) wd_440 (fun _ h => h) rfl rfl rfl rfl ⟨by rw [hk]; decide, by rw [hk]; decide⟩ (wF_8 hk) (Nat.le_of_ble_eq_true rfl) rfl rfl rfl (fun b hb => wF_sfi hb) ?_ hdg kk
  rw [wF_8 (S := (sfi S 47 a v)) hk]
  show Sum.inr (7, [Value.int (fi S 27 a), Value.int (fi S 28 a), va_rf (fr S 29 a), va_rf (fr S 30 a), va_rf (fr S 31 a), va_rf (fr S 32 a), va_rf (fr S 33 a), va_rf (fr S 34 a), va_rf (fr S 35 a), va_rf (fr S 36 a), va_rf (fr S 37 a), va_rf (fr S 38 a), va_rf (fr S 39 a), va_rf (fr S 40 a), va_rf (fr S 41 a), va_rf (fr S 42 a), Value.int (fi S 43 a), va_rf (fr S 44 a), va_rf (fr S 45 a), va_rf (fr S 46 a), Value.int (va_up (fi S) 47 (va_up (fi S 47) a v) 47 a), va_rf (fr S 48 a), va_rf (fr S 49 a), Value.int (fi S 50 a), va_rf (fr S 51 a), Value.int (fi S 52 a)]) = _
  rw [up2_self]
  rfl
theorem gf_X7_63 (X : Cx p s m meth c cc nL RX7 D ka Z A) (V : Hv D ka Z s A S H locs) (hk : kd S a = 8) {b : Nat} (hb : fr S 48 a = some b) (hdg : decode cc pc = .ok (.getfield 63, 3)) (kk : W p l e R s m args below meth c H locs cells slots Q (F0 m (pc + 3) ls (.ref b :: rest))) : W p l e R s m args below meth c H locs cells slots Q (F0 m pc ls (.ref a :: rest)) :=
  r_get X V (C := RX7) (T := TX7) (N := 26) (ci := 7) (k := 21) rfl in_X7 (by decide) wd_441 (fun _ h => h) ⟨by rw [hk]; decide, by rw [hk]; decide⟩ (wF_8 hk) (show some (va_rf (fr S 48 a)) = some (Value.ref b) by rw [hb]; rfl) hdg kk
theorem gf_X7_29 (X : Cx p s m meth c cc nL RX7 D ka Z A) (V : Hv D ka Z s A S H locs) (hk : kd S a = 8) {b : Nat} (hb : fr S 35 a = some b) (hdg : decode cc pc = .ok (.getfield 29, 3)) (kk : W p l e R s m args below meth c H locs cells slots Q (F0 m (pc + 3) ls (.ref b :: rest))) : W p l e R s m args below meth c H locs cells slots Q (F0 m pc ls (.ref a :: rest)) :=
  r_get X V (C := RX7) (T := TX7) (N := 26) (ci := 7) (k := 8) rfl in_X7 (by decide) wd_442 (fun _ h => h) ⟨by rw [hk]; decide, by rw [hk]; decide⟩ (wF_8 hk) (show some (va_rf (fr S 35 a)) = some (Value.ref b) by rw [hb]; rfl) hdg kk
theorem gf_X7_35 (X : Cx p s m meth c cc nL RX7 D ka Z A) (V : Hv D ka Z s A S H locs) (hk : kd S a = 8) {b : Nat} (hb : fr S 37 a = some b) (hdg : decode cc pc = .ok (.getfield 35, 3)) (kk : W p l e R s m args below meth c H locs cells slots Q (F0 m (pc + 3) ls (.ref b :: rest))) : W p l e R s m args below meth c H locs cells slots Q (F0 m pc ls (.ref a :: rest)) :=
  r_get X V (C := RX7) (T := TX7) (N := 26) (ci := 7) (k := 10) rfl in_X7 (by decide) wd_443 (fun _ h => h) ⟨by rw [hk]; decide, by rw [hk]; decide⟩ (wF_8 hk) (show some (va_rf (fr S 37 a)) = some (Value.ref b) by rw [hb]; rfl) hdg kk
theorem gf_X7_32 (X : Cx p s m meth c cc nL RX7 D ka Z A) (V : Hv D ka Z s A S H locs) (hk : kd S a = 8) {b : Nat} (hb : fr S 36 a = some b) (hdg : decode cc pc = .ok (.getfield 32, 3)) (kk : W p l e R s m args below meth c H locs cells slots Q (F0 m (pc + 3) ls (.ref b :: rest))) : W p l e R s m args below meth c H locs cells slots Q (F0 m pc ls (.ref a :: rest)) :=
  r_get X V (C := RX7) (T := TX7) (N := 26) (ci := 7) (k := 9) rfl in_X7 (by decide) wd_444 (fun _ h => h) ⟨by rw [hk]; decide, by rw [hk]; decide⟩ (wF_8 hk) (show some (va_rf (fr S 36 a)) = some (Value.ref b) by rw [hb]; rfl) hdg kk
theorem gf_X7_76 (X : Cx p s m meth c cc nL RX7 D ka Z A) (V : Hv D ka Z s A S H locs) (hk : kd S a = 8) (hdg : decode cc pc = .ok (.getfield 76, 3)) (kk : W p l e R s m args below meth c H locs cells slots Q (F0 m (pc + 3) ls (.int (fi S 27 a) :: rest))) : W p l e R s m args below meth c H locs cells slots Q (F0 m pc ls (.ref a :: rest)) :=
  r_get X V (C := RX7) (T := TX7) (N := 26) (ci := 7) (k := 0) rfl in_X7 (by decide) wd_438 (fun _ h => h) ⟨by rw [hk]; decide, by rw [hk]; decide⟩ (wF_8 hk) rfl hdg kk
theorem gf_X7_80 (X : Cx p s m meth c cc nL RX7 D ka Z A) (V : Hv D ka Z s A S H locs) (hk : kd S a = 8) (hdg : decode cc pc = .ok (.getfield 80, 3)) (kk : W p l e R s m args below meth c H locs cells slots Q (F0 m (pc + 3) ls (.int (fi S 28 a) :: rest))) : W p l e R s m args below meth c H locs cells slots Q (F0 m pc ls (.ref a :: rest)) :=
  r_get X V (C := RX7) (T := TX7) (N := 26) (ci := 7) (k := 1) rfl in_X7 (by decide) wd_439 (fun _ h => h) ⟨by rw [hk]; decide, by rw [hk]; decide⟩ (wF_8 hk) rfl hdg kk
theorem gf_X7_7 (X : Cx p s m meth c cc nL RX7 D ka Z A) (V : Hv D ka Z s A S H locs) (hk : kd S a = 8) {b : Nat} (hb : fr S 29 a = some b) (hdg : decode cc pc = .ok (.getfield 7, 3)) (kk : W p l e R s m args below meth c H locs cells slots Q (F0 m (pc + 3) ls (.ref b :: rest))) : W p l e R s m args below meth c H locs cells slots Q (F0 m pc ls (.ref a :: rest)) :=
  r_get X V (C := RX7) (T := TX7) (N := 26) (ci := 7) (k := 2) rfl in_X7 (by decide) wd_451 (fun _ h => h) ⟨by rw [hk]; decide, by rw [hk]; decide⟩ (wF_8 hk) (show some (va_rf (fr S 29 a)) = some (Value.ref b) by rw [hb]; rfl) hdg kk
theorem gf_X7_13 (X : Cx p s m meth c cc nL RX7 D ka Z A) (V : Hv D ka Z s A S H locs) (hk : kd S a = 8) {b : Nat} (hb : fr S 30 a = some b) (hdg : decode cc pc = .ok (.getfield 13, 3)) (kk : W p l e R s m args below meth c H locs cells slots Q (F0 m (pc + 3) ls (.ref b :: rest))) : W p l e R s m args below meth c H locs cells slots Q (F0 m pc ls (.ref a :: rest)) :=
  r_get X V (C := RX7) (T := TX7) (N := 26) (ci := 7) (k := 3) rfl in_X7 (by decide) wd_452 (fun _ h => h) ⟨by rw [hk]; decide, by rw [hk]; decide⟩ (wF_8 hk) (show some (va_rf (fr S 30 a)) = some (Value.ref b) by rw [hb]; rfl) hdg kk
theorem gf_X7_16 (X : Cx p s m meth c cc nL RX7 D ka Z A) (V : Hv D ka Z s A S H locs) (hk : kd S a = 8) {b : Nat} (hb : fr S 31 a = some b) (hdg : decode cc pc = .ok (.getfield 16, 3)) (kk : W p l e R s m args below meth c H locs cells slots Q (F0 m (pc + 3) ls (.ref b :: rest))) : W p l e R s m args below meth c H locs cells slots Q (F0 m pc ls (.ref a :: rest)) :=
  r_get X V (C := RX7) (T := TX7) (N := 26) (ci := 7) (k := 4) rfl in_X7 (by decide) wd_453 (fun _ h => h) ⟨by rw [hk]; decide, by rw [hk]; decide⟩ (wF_8 hk) (show some (va_rf (fr S 31 a)) = some (Value.ref b) by rw [hb]; rfl) hdg kk
theorem gf_X7_19 (X : Cx p s m meth c cc nL RX7 D ka Z A) (V : Hv D ka Z s A S H locs) (hk : kd S a = 8) {b : Nat} (hb : fr S 32 a = some b) (hdg : decode cc pc = .ok (.getfield 19, 3)) (kk : W p l e R s m args below meth c H locs cells slots Q (F0 m (pc + 3) ls (.ref b :: rest))) : W p l e R s m args below meth c H locs cells slots Q (F0 m pc ls (.ref a :: rest)) :=
  r_get X V (C := RX7) (T := TX7) (N := 26) (ci := 7) (k := 5) rfl in_X7 (by decide) wd_454 (fun _ h => h) ⟨by rw [hk]; decide, by rw [hk]; decide⟩ (wF_8 hk) (show some (va_rf (fr S 32 a)) = some (Value.ref b) by rw [hb]; rfl) hdg kk
theorem gf_X7_93 (X : Cx p s m meth c cc nL RX7 D ka Z A) (V : Hv D ka Z s A S H locs) (hk : kd S a = 8) (hdg : decode cc pc = .ok (.getfield 93, 3)) (kk : W p l e R s m args below meth c H locs cells slots Q (F0 m (pc + 3) ls (.int (fi S 43 a) :: rest))) : W p l e R s m args below meth c H locs cells slots Q (F0 m pc ls (.ref a :: rest)) :=
  r_get X V (C := RX7) (T := TX7) (N := 26) (ci := 7) (k := 16) rfl in_X7 (by decide) wd_459 (fun _ h => h) ⟨by rw [hk]; decide, by rw [hk]; decide⟩ (wF_8 hk) rfl hdg kk
theorem gf_X7_51 (X : Cx p s m meth c cc nL RX7 D ka Z A) (V : Hv D ka Z s A S H locs) (hk : kd S a = 8) {b : Nat} (hb : fr S 42 a = some b) (hdg : decode cc pc = .ok (.getfield 51, 3)) (kk : W p l e R s m args below meth c H locs cells slots Q (F0 m (pc + 3) ls (.ref b :: rest))) : W p l e R s m args below meth c H locs cells slots Q (F0 m pc ls (.ref a :: rest)) :=
  r_get X V (C := RX7) (T := TX7) (N := 26) (ci := 7) (k := 15) rfl in_X7 (by decide) wd_460 (fun _ h => h) ⟨by rw [hk]; decide, by rw [hk]; decide⟩ (wF_8 hk) (show some (va_rf (fr S 42 a)) = some (Value.ref b) by rw [hb]; rfl) hdg kk
theorem pf_X7_93 (X : Cx p s m meth c cc nL RX7 D ka Z A) (V : Hv D ka Z s A S H locs) (hk : kd S a = 8) {v : Int32} (hdg : decode cc pc = .ok (.putfield 93, 3)) (kk : ∀ (H1 : Heap) (locs1 : List Loc), Hv D ka Z s A (sfi S 43 a v) H1 locs1 → W p l e R s m args below meth c H1 locs1 cells slots Q (F0 m (pc + 3) ls rest)) : W p l e R s m args below meth c H locs cells slots Q (F0 m pc ls (.int v :: .ref a :: rest)) := by
  refine r_put (S' := (sfi S 43 a v)) X V (C := RX7) (T := TX7) (N := 26) (ci := 7) (k := 16) (ty := .int) rfl in_X7 tyX7 tyX7_ok nmX7 (by decide) wd_459 (fun _ h => h) rfl rfl rfl rfl ⟨by rw [hk]; decide, by rw [hk]; decide⟩ (wF_8 hk) (Nat.le_of_ble_eq_true rfl) rfl rfl rfl (fun b hb => wF_sfi hb) ?_ hdg kk
  rw [wF_8 (S := (sfi S 43 a v)) hk]
  show Sum.inr (7, [Value.int (fi S 27 a), Value.int (fi S 28 a), va_rf (fr S 29 a), va_rf (fr S 30 a), va_rf (fr S 31 a), va_rf (fr S 32 a), va_rf (fr S 33 a), va_rf (fr S 34 a), va_rf (fr S 35 a), va_rf (fr S 36 a), va_rf (fr S 37 a), va_rf (fr S 38 a), va_rf (fr S 39 a), va_rf (fr S 40 a), va_rf (fr S 41 a), va_rf (fr S 42 a), Value.int (va_up (fi S) 43 (va_up (fi S 43) a v) 43 a), va_rf (fr S 44 a), va_rf (fr S 45 a), va_rf (fr S 46 a), Value.int (fi S 47 a), va_rf (fr S 48 a), va_rf (fr S 49 a), Value.int (fi S 50 a), va_rf (fr S 51 a), Value.int (fi S 52 a)]) = _
  rw [up2_self]
  rfl
theorem gf_X7_38 (X : Cx p s m meth c cc nL RX7 D ka Z A) (V : Hv D ka Z s A S H locs) (hk : kd S a = 8) {b : Nat} (hb : fr S 38 a = some b) (hdg : decode cc pc = .ok (.getfield 38, 3)) (kk : W p l e R s m args below meth c H locs cells slots Q (F0 m (pc + 3) ls (.ref b :: rest))) : W p l e R s m args below meth c H locs cells slots Q (F0 m pc ls (.ref a :: rest)) :=
  r_get X V (C := RX7) (T := TX7) (N := 26) (ci := 7) (k := 11) rfl in_X7 (by decide) wd_461 (fun _ h => h) ⟨by rw [hk]; decide, by rw [hk]; decide⟩ (wF_8 hk) (show some (va_rf (fr S 38 a)) = some (Value.ref b) by rw [hb]; rfl) hdg kk
theorem gf_X7_41 (X : Cx p s m meth c cc nL RX7 D ka Z A) (V : Hv D ka Z s A S H locs) (hk : kd S a = 8) {b : Nat} (hb : fr S 39 a = some b) (hdg : decode cc pc = .ok (.getfield 41, 3)) (kk : W p l e R s m args below meth c H locs cells slots Q (F0 m (pc + 3) ls (.ref b :: rest))) : W p l e R s m args below meth c H locs cells slots Q (F0 m pc ls (.ref a :: rest)) :=
  r_get X V (C := RX7) (T := TX7) (N := 26) (ci := 7) (k := 12) rfl in_X7 (by decide) wd_462 (fun _ h => h) ⟨by rw [hk]; decide, by rw [hk]; decide⟩ (wF_8 hk) (show some (va_rf (fr S 39 a)) = some (Value.ref b) by rw [hb]; rfl) hdg kk
theorem gf_X7_45 (X : Cx p s m meth c cc nL RX7 D ka Z A) (V : Hv D ka Z s A S H locs) (hk : kd S a = 8) {b : Nat} (hb : fr S 40 a = some b) (hdg : decode cc pc = .ok (.getfield 45, 3)) (kk : W p l e R s m args below meth c H locs cells slots Q (F0 m (pc + 3) ls (.ref b :: rest))) : W p l e R s m args below meth c H locs cells slots Q (F0 m pc ls (.ref a :: rest)) :=
  r_get X V (C := RX7) (T := TX7) (N := 26) (ci := 7) (k := 13) rfl in_X7 (by decide) wd_463 (fun _ h => h) ⟨by rw [hk]; decide, by rw [hk]; decide⟩ (wF_8 hk) (show some (va_rf (fr S 40 a)) = some (Value.ref b) by rw [hb]; rfl) hdg kk
theorem gf_X7_48 (X : Cx p s m meth c cc nL RX7 D ka Z A) (V : Hv D ka Z s A S H locs) (hk : kd S a = 8) {b : Nat} (hb : fr S 41 a = some b) (hdg : decode cc pc = .ok (.getfield 48, 3)) (kk : W p l e R s m args below meth c H locs cells slots Q (F0 m (pc + 3) ls (.ref b :: rest))) : W p l e R s m args below meth c H locs cells slots Q (F0 m pc ls (.ref a :: rest)) :=
  r_get X V (C := RX7) (T := TX7) (N := 26) (ci := 7) (k := 14) rfl in_X7 (by decide) wd_464 (fun _ h => h) ⟨by rw [hk]; decide, by rw [hk]; decide⟩ (wF_8 hk) (show some (va_rf (fr S 41 a)) = some (Value.ref b) by rw [hb]; rfl) hdg kk
theorem gf_X7_26 (X : Cx p s m meth c cc nL RX7 D ka Z A) (V : Hv D ka Z s A S H locs) (hk : kd S a = 8) {b : Nat} (hb : fr S 34 a = some b) (hdg : decode cc pc = .ok (.getfield 26, 3)) (kk : W p l e R s m args below meth c H locs cells slots Q (F0 m (pc + 3) ls (.ref b :: rest))) : W p l e R s m args below meth c H locs cells slots Q (F0 m pc ls (.ref a :: rest)) :=
  r_get X V (C := RX7) (T := TX7) (N := 26) (ci := 7) (k := 7) rfl in_X7 (by decide) wd_473 (fun _ h => h) ⟨by rw [hk]; decide, by rw [hk]; decide⟩ (wF_8 hk) (show some (va_rf (fr S 34 a)) = some (Value.ref b) by rw [hb]; rfl) hdg kk
theorem gf_X7_104 (X : Cx p s m meth c cc nL RX7 D ka Z A) (V : Hv D ka Z s A S H locs) (hk : kd S a = 8) (hdg : decode cc pc = .ok (.getfield 104, 3)) (kk : W p l e R s m args below meth c H locs cells slots Q (F0 m (pc + 3) ls (.int (fi S 52 a) :: rest))) : W p l e R s m args below meth c H locs cells slots Q (F0 m pc ls (.ref a :: rest)) :=
  r_get X V (C := RX7) (T := TX7) (N := 26) (ci := 7) (k := 25) rfl in_X7 (by decide) wd_474 (fun _ h => h) ⟨by rw [hk]; decide, by rw [hk]; decide⟩ (wF_8 hk) rfl hdg kk
theorem gf_X7_22 (X : Cx p s m meth c cc nL RX7 D ka Z A) (V : Hv D ka Z s A S H locs) (hk : kd S a = 8) {b : Nat} (hb : fr S 33 a = some b) (hdg : decode cc pc = .ok (.getfield 22, 3)) (kk : W p l e R s m args below meth c H locs cells slots Q (F0 m (pc + 3) ls (.ref b :: rest))) : W p l e R s m args below meth c H locs cells slots Q (F0 m pc ls (.ref a :: rest)) :=
  r_get X V (C := RX7) (T := TX7) (N := 26) (ci := 7) (k := 6) rfl in_X7 (by decide) wd_475 (fun _ h => h) ⟨by rw [hk]; decide, by rw [hk]; decide⟩ (wF_8 hk) (show some (va_rf (fr S 33 a)) = some (Value.ref b) by rw [hb]; rfl) hdg kk
theorem gf_X7_69 (X : Cx p s m meth c cc nL RX7 D ka Z A) (V : Hv D ka Z s A S H locs) (hk : kd S a = 8) {b : Nat} (hb : fr S 51 a = some b) (hdg : decode cc pc = .ok (.getfield 69, 3)) (kk : W p l e R s m args below meth c H locs cells slots Q (F0 m (pc + 3) ls (.ref b :: rest))) : W p l e R s m args below meth c H locs cells slots Q (F0 m pc ls (.ref a :: rest)) :=
  r_get X V (C := RX7) (T := TX7) (N := 26) (ci := 7) (k := 24) rfl in_X7 (by decide) wd_476 (fun _ h => h) ⟨by rw [hk]; decide, by rw [hk]; decide⟩ (wF_8 hk) (show some (va_rf (fr S 51 a)) = some (Value.ref b) by rw [hb]; rfl) hdg kk
theorem gf_X7_66 (X : Cx p s m meth c cc nL RX7 D ka Z A) (V : Hv D ka Z s A S H locs) (hk : kd S a = 8) {b : Nat} (hb : fr S 49 a = some b) (hdg : decode cc pc = .ok (.getfield 66, 3)) (kk : W p l e R s m args below meth c H locs cells slots Q (F0 m (pc + 3) ls (.ref b :: rest))) : W p l e R s m args below meth c H locs cells slots Q (F0 m pc ls (.ref a :: rest)) :=
  r_get X V (C := RX7) (T := TX7) (N := 26) (ci := 7) (k := 22) rfl in_X7 (by decide) wd_482 (fun _ h => h) ⟨by rw [hk]; decide, by rw [hk]; decide⟩ (wF_8 hk) (show some (va_rf (fr S 49 a)) = some (Value.ref b) by rw [hb]; rfl) hdg kk
theorem gf_X7_112 (X : Cx p s m meth c cc nL RX7 D ka Z A) (V : Hv D ka Z s A S H locs) (hk : kd S a = 8) (hdg : decode cc pc = .ok (.getfield 112, 3)) (kk : W p l e R s m args below meth c H locs cells slots Q (F0 m (pc + 3) ls (.int (fi S 50 a) :: rest))) : W p l e R s m args below meth c H locs cells slots Q (F0 m pc ls (.ref a :: rest)) :=
  r_get X V (C := RX7) (T := TX7) (N := 26) (ci := 7) (k := 23) rfl in_X7 (by decide) wd_483 (fun _ h => h) ⟨by rw [hk]; decide, by rw [hk]; decide⟩ (wF_8 hk) rfl hdg kk
theorem pf_X7_112 (X : Cx p s m meth c cc nL RX7 D ka Z A) (V : Hv D ka Z s A S H locs) (hk : kd S a = 8) {v : Int32} (hdg : decode cc pc = .ok (.putfield 112, 3)) (kk : ∀ (H1 : Heap) (locs1 : List Loc), Hv D ka Z s A (sfi S 50 a v) H1 locs1 → W p l e R s m args below meth c H1 locs1 cells slots Q (F0 m (pc + 3) ls rest)) : W p l e R s m args below meth c H locs cells slots Q (F0 m pc ls (.int v :: .ref a :: rest)) := by
  refine r_put (S' := (sfi S 50 a v)) X V (C := RX7) (T := TX7) (N := 26) (ci := 7) (k := 23) (ty := .int) rfl in_X7 tyX7 tyX7_ok nmX7 (by decide) wd_483 (fun _ h => h) rfl rfl rfl rfl ⟨by rw [hk]; decide, by rw [hk]; decide⟩ (wF_8 hk) (Nat.le_of_ble_eq_true rfl) rfl rfl rfl (fun b hb => wF_sfi hb) ?_ hdg kk
  rw [wF_8 (S := (sfi S 50 a v)) hk]
  show Sum.inr (7, [Value.int (fi S 27 a), Value.int (fi S 28 a), va_rf (fr S 29 a), va_rf (fr S 30 a), va_rf (fr S 31 a), va_rf (fr S 32 a), va_rf (fr S 33 a), va_rf (fr S 34 a), va_rf (fr S 35 a), va_rf (fr S 36 a), va_rf (fr S 37 a), va_rf (fr S 38 a), va_rf (fr S 39 a), va_rf (fr S 40 a), va_rf (fr S 41 a), va_rf (fr S 42 a), Value.int (fi S 43 a), va_rf (fr S 44 a), va_rf (fr S 45 a), va_rf (fr S 46 a), Value.int (fi S 47 a), va_rf (fr S 48 a), va_rf (fr S 49 a), Value.int (va_up (fi S) 50 (va_up (fi S 50) a v) 50 a), va_rf (fr S 51 a), Value.int (fi S 52 a)]) = _
  rw [up2_self]
  rfl
theorem gf_X7_83 (X : Cx p s m meth c cc nL RX7 D ka Z A) (V : Hv D ka Z s A S H locs) (hk : kd S a = 8) (hdg : decode cc pc = .ok (.getfield 83, 3)) (kk : W p l e R s m args below meth c H locs cells slots Q (F0 m (pc + 3) ls (.int (fi S 47 a) :: rest))) : W p l e R s m args below meth c H locs cells slots Q (F0 m pc ls (.ref a :: rest)) :=
  r_get X V (C := RX7) (T := TX7) (N := 26) (ci := 7) (k := 20) rfl in_X7 (by decide) wd_440 (fun _ h => h) ⟨by rw [hk]; decide, by rw [hk]; decide⟩ (wF_8 hk) rfl hdg kk
theorem gf_X7_57 (X : Cx p s m meth c cc nL RX7 D ka Z A) (V : Hv D ka Z s A S H locs) (hk : kd S a = 8) {b : Nat} (hb : fr S 45 a = some b) (hdg : decode cc pc = .ok (.getfield 57, 3)) (kk : W p l e R s m args below meth c H locs cells slots Q (F0 m (pc + 3) ls (.ref b :: rest))) : W p l e R s m args below meth c H locs cells slots Q (F0 m pc ls (.ref a :: rest)) :=
  r_get X V (C := RX7) (T := TX7) (N := 26) (ci := 7) (k := 18) rfl in_X7 (by decide) wd_484 (fun _ h => h) ⟨by rw [hk]; decide, by rw [hk]; decide⟩ (wF_8 hk) (show some (va_rf (fr S 45 a)) = some (Value.ref b) by rw [hb]; rfl) hdg kk
theorem gf_X7_60 (X : Cx p s m meth c cc nL RX7 D ka Z A) (V : Hv D ka Z s A S H locs) (hk : kd S a = 8) {b : Nat} (hb : fr S 46 a = some b) (hdg : decode cc pc = .ok (.getfield 60, 3)) (kk : W p l e R s m args below meth c H locs cells slots Q (F0 m (pc + 3) ls (.ref b :: rest))) : W p l e R s m args below meth c H locs cells slots Q (F0 m pc ls (.ref a :: rest)) :=
  r_get X V (C := RX7) (T := TX7) (N := 26) (ci := 7) (k := 19) rfl in_X7 (by decide) wd_485 (fun _ h => h) ⟨by rw [hk]; decide, by rw [hk]; decide⟩ (wF_8 hk) (show some (va_rf (fr S 46 a)) = some (Value.ref b) by rw [hb]; rfl) hdg kk
theorem gf_X7_54 (X : Cx p s m meth c cc nL RX7 D ka Z A) (V : Hv D ka Z s A S H locs) (hk : kd S a = 8) {b : Nat} (hb : fr S 44 a = some b) (hdg : decode cc pc = .ok (.getfield 54, 3)) (kk : W p l e R s m args below meth c H locs cells slots Q (F0 m (pc + 3) ls (.ref b :: rest))) : W p l e R s m args below meth c H locs cells slots Q (F0 m pc ls (.ref a :: rest)) :=
  r_get X V (C := RX7) (T := TX7) (N := 26) (ci := 7) (k := 17) rfl in_X7 (by decide) wd_486 (fun _ h => h) ⟨by rw [hk]; decide, by rw [hk]; decide⟩ (wF_8 hk) (show some (va_rf (fr S 44 a)) = some (Value.ref b) by rw [hb]; rfl) hdg kk
theorem pf_X7_7 (X : Cx p s m meth c cc nL RX7 D ka Z A) (V : Hv D ka Z s A S H locs) (hk : kd S a = 8) (hin2 : meth.name = "<init>") {v : Nat} (hdg : decode cc pc = .ok (.putfield 7, 3)) (kk : ∀ (H1 : Heap) (locs1 : List Loc), Hv D ka Z s A (sfr S 29 a (some v)) H1 locs1 → W p l e R s m args below meth c H1 locs1 cells slots Q (F0 m (pc + 3) ls rest)) : W p l e R s m args below meth c H locs cells slots Q (F0 m pc ls (.ref v :: .ref a :: rest)) := by
  refine r_putF (S' := (sfr S 29 a (some v))) X V hin2 (C := RX7) (T := TX7) (N := 26) (ci := 7) (k := 2) (ty := .array .int) rfl in_X7 tyX7 tyX7_ok nmX7 (by decide) wd_451 (fun _ h => h) rfl rfl rfl rfl rfl ⟨by rw [hk]; decide, by rw [hk]; decide⟩ (wF_8 hk) (Nat.le_of_ble_eq_true rfl) rfl rfl rfl (fun b hb => wF_sfr hb) ?_ hdg kk
  rw [wF_8 (S := (sfr S 29 a (some v))) hk]
  show Sum.inr (7, [Value.int (fi S 27 a), Value.int (fi S 28 a), va_rf (va_up (fr S) 29 (va_up (fr S 29) a (some v)) 29 a), va_rf (fr S 30 a), va_rf (fr S 31 a), va_rf (fr S 32 a), va_rf (fr S 33 a), va_rf (fr S 34 a), va_rf (fr S 35 a), va_rf (fr S 36 a), va_rf (fr S 37 a), va_rf (fr S 38 a), va_rf (fr S 39 a), va_rf (fr S 40 a), va_rf (fr S 41 a), va_rf (fr S 42 a), Value.int (fi S 43 a), va_rf (fr S 44 a), va_rf (fr S 45 a), va_rf (fr S 46 a), Value.int (fi S 47 a), va_rf (fr S 48 a), va_rf (fr S 49 a), Value.int (fi S 50 a), va_rf (fr S 51 a), Value.int (fi S 52 a)]) = _
  rw [up2_self]
  rfl
theorem pf_X7_13 (X : Cx p s m meth c cc nL RX7 D ka Z A) (V : Hv D ka Z s A S H locs) (hk : kd S a = 8) (hin2 : meth.name = "<init>") {v : Nat} (hdg : decode cc pc = .ok (.putfield 13, 3)) (kk : ∀ (H1 : Heap) (locs1 : List Loc), Hv D ka Z s A (sfr S 30 a (some v)) H1 locs1 → W p l e R s m args below meth c H1 locs1 cells slots Q (F0 m (pc + 3) ls rest)) : W p l e R s m args below meth c H locs cells slots Q (F0 m pc ls (.ref v :: .ref a :: rest)) := by
  refine r_putF (S' := (sfr S 30 a (some v))) X V hin2 (C := RX7) (T := TX7) (N := 26) (ci := 7) (k := 3) (ty := .array .int) rfl in_X7 tyX7 tyX7_ok nmX7 (by decide) wd_452 (fun _ h => h) rfl rfl rfl rfl rfl ⟨by rw [hk]; decide, by rw [hk]; decide⟩ (wF_8 hk) (Nat.le_of_ble_eq_true rfl) rfl rfl rfl (fun b hb => wF_sfr hb) ?_ hdg kk
  rw [wF_8 (S := (sfr S 30 a (some v))) hk]
  show Sum.inr (7, [Value.int (fi S 27 a), Value.int (fi S 28 a), va_rf (fr S 29 a), va_rf (va_up (fr S) 30 (va_up (fr S 30) a (some v)) 30 a), va_rf (fr S 31 a), va_rf (fr S 32 a), va_rf (fr S 33 a), va_rf (fr S 34 a), va_rf (fr S 35 a), va_rf (fr S 36 a), va_rf (fr S 37 a), va_rf (fr S 38 a), va_rf (fr S 39 a), va_rf (fr S 40 a), va_rf (fr S 41 a), va_rf (fr S 42 a), Value.int (fi S 43 a), va_rf (fr S 44 a), va_rf (fr S 45 a), va_rf (fr S 46 a), Value.int (fi S 47 a), va_rf (fr S 48 a), va_rf (fr S 49 a), Value.int (fi S 50 a), va_rf (fr S 51 a), Value.int (fi S 52 a)]) = _
  rw [up2_self]
  rfl
theorem pf_X7_16 (X : Cx p s m meth c cc nL RX7 D ka Z A) (V : Hv D ka Z s A S H locs) (hk : kd S a = 8) (hin2 : meth.name = "<init>") {v : Nat} (hdg : decode cc pc = .ok (.putfield 16, 3)) (kk : ∀ (H1 : Heap) (locs1 : List Loc), Hv D ka Z s A (sfr S 31 a (some v)) H1 locs1 → W p l e R s m args below meth c H1 locs1 cells slots Q (F0 m (pc + 3) ls rest)) : W p l e R s m args below meth c H locs cells slots Q (F0 m pc ls (.ref v :: .ref a :: rest)) := by
  refine r_putF (S' := (sfr S 31 a (some v))) X V hin2 (C := RX7) (T := TX7) (N := 26) (ci := 7) (k := 4) (ty := .array .int) rfl in_X7 tyX7 tyX7_ok nmX7 (by decide) wd_453 (fun _ h => h) rfl rfl rfl rfl rfl ⟨by rw [hk]; decide, by rw [hk]; decide⟩ (wF_8 hk) (Nat.le_of_ble_eq_true rfl) rfl rfl rfl (fun b hb => wF_sfr hb) ?_ hdg kk
  rw [wF_8 (S := (sfr S 31 a (some v))) hk]
  show Sum.inr (7, [Value.int (fi S 27 a), Value.int (fi S 28 a), va_rf (fr S 29 a), va_rf (fr S 30 a), va_rf (va_up (fr S) 31 (va_up (fr S 31) a (some v)) 31 a), va_rf (fr S 32 a), va_rf (fr S 33 a), va_rf (fr S 34 a), va_rf (fr S 35 a), va_rf (fr S 36 a), va_rf (fr S 37 a), va_rf (fr S 38 a), va_rf (fr S 39 a), va_rf (fr S 40 a), va_rf (fr S 41 a), va_rf (fr S 42 a), Value.int (fi S 43 a), va_rf (fr S 44 a), va_rf (fr S 45 a), va_rf (fr S 46 a), Value.int (fi S 47 a), va_rf (fr S 48 a), va_rf (fr S 49 a), Value.int (fi S 50 a), va_rf (fr S 51 a), Value.int (fi S 52 a)]) = _
  rw [up2_self]
  rfl
theorem pf_X7_19 (X : Cx p s m meth c cc nL RX7 D ka Z A) (V : Hv D ka Z s A S H locs) (hk : kd S a = 8) (hin2 : meth.name = "<init>") {v : Nat} (hdg : decode cc pc = .ok (.putfield 19, 3)) (kk : ∀ (H1 : Heap) (locs1 : List Loc), Hv D ka Z s A (sfr S 32 a (some v)) H1 locs1 → W p l e R s m args below meth c H1 locs1 cells slots Q (F0 m (pc + 3) ls rest)) : W p l e R s m args below meth c H locs cells slots Q (F0 m pc ls (.ref v :: .ref a :: rest)) := by
  refine r_putF (S' := (sfr S 32 a (some v))) X V hin2 (C := RX7) (T := TX7) (N := 26) (ci := 7) (k := 5) (ty := .array .int) rfl in_X7 tyX7 tyX7_ok nmX7 (by decide) wd_454 (fun _ h => h) rfl rfl rfl rfl rfl ⟨by rw [hk]; decide, by rw [hk]; decide⟩ (wF_8 hk) (Nat.le_of_ble_eq_true rfl) rfl rfl rfl (fun b hb => wF_sfr hb) ?_ hdg kk
  rw [wF_8 (S := (sfr S 32 a (some v))) hk]
  show Sum.inr (7, [Value.int (fi S 27 a), Value.int (fi S 28 a), va_rf (fr S 29 a), va_rf (fr S 30 a), va_rf (fr S 31 a), va_rf (va_up (fr S) 32 (va_up (fr S 32) a (some v)) 32 a), va_rf (fr S 33 a), va_rf (fr S 34 a), va_rf (fr S 35 a), va_rf (fr S 36 a), va_rf (fr S 37 a), va_rf (fr S 38 a), va_rf (fr S 39 a), va_rf (fr S 40 a), va_rf (fr S 41 a), va_rf (fr S 42 a), Value.int (fi S 43 a), va_rf (fr S 44 a), va_rf (fr S 45 a), va_rf (fr S 46 a), Value.int (fi S 47 a), va_rf (fr S 48 a), va_rf (fr S 49 a), Value.int (fi S 50 a), va_rf (fr S 51 a), Value.int (fi S 52 a)]) = _
  rw [up2_self]
  rfl
theorem pf_X7_22 (X : Cx p s m meth c cc nL RX7 D ka Z A) (V : Hv D ka Z s A S H locs) (hk : kd S a = 8) (hin2 : meth.name = "<init>") {v : Nat} (hdg : decode cc pc = .ok (.putfield 22, 3)) (kk : ∀ (H1 : Heap) (locs1 : List Loc), Hv D ka Z s A (sfr S 33 a (some v)) H1 locs1 → W p l e R s m args below meth c H1 locs1 cells slots Q (F0 m (pc + 3) ls rest)) : W p l e R s m args below meth c H locs cells slots Q (F0 m pc ls (.ref v :: .ref a :: rest)) := by
  refine r_putF (S' := (sfr S 33 a (some v))) X V hin2 (C := RX7) (T := TX7) (N := 26) (ci := 7) (k := 6) (ty := .array .byte) rfl in_X7 tyX7 tyX7_ok nmX7 (by decide) wd_475 (fun _ h => h) rfl rfl rfl rfl rfl ⟨by rw [hk]; decide, by rw [hk]; decide⟩ (wF_8 hk) (Nat.le_of_ble_eq_true rfl) rfl rfl rfl (fun b hb => wF_sfr hb) ?_ hdg kk
  rw [wF_8 (S := (sfr S 33 a (some v))) hk]
  show Sum.inr (7, [Value.int (fi S 27 a), Value.int (fi S 28 a), va_rf (fr S 29 a), va_rf (fr S 30 a), va_rf (fr S 31 a), va_rf (fr S 32 a), va_rf (va_up (fr S) 33 (va_up (fr S 33) a (some v)) 33 a), va_rf (fr S 34 a), va_rf (fr S 35 a), va_rf (fr S 36 a), va_rf (fr S 37 a), va_rf (fr S 38 a), va_rf (fr S 39 a), va_rf (fr S 40 a), va_rf (fr S 41 a), va_rf (fr S 42 a), Value.int (fi S 43 a), va_rf (fr S 44 a), va_rf (fr S 45 a), va_rf (fr S 46 a), Value.int (fi S 47 a), va_rf (fr S 48 a), va_rf (fr S 49 a), Value.int (fi S 50 a), va_rf (fr S 51 a), Value.int (fi S 52 a)]) = _
  rw [up2_self]
  rfl
theorem pf_X7_26 (X : Cx p s m meth c cc nL RX7 D ka Z A) (V : Hv D ka Z s A S H locs) (hk : kd S a = 8) (hin2 : meth.name = "<init>") {v : Nat} (hdg : decode cc pc = .ok (.putfield 26, 3)) (kk : ∀ (H1 : Heap) (locs1 : List Loc), Hv D ka Z s A (sfr S 34 a (some v)) H1 locs1 → W p l e R s m args below meth c H1 locs1 cells slots Q (F0 m (pc + 3) ls rest)) : W p l e R s m args below meth c H locs cells slots Q (F0 m pc ls (.ref v :: .ref a :: rest)) := by
  refine r_putF (S' := (sfr S 34 a (some v))) X V hin2 (C := RX7) (T := TX7) (N := 26) (ci := 7) (k := 7) (ty := .array .int) rfl in_X7 tyX7 tyX7_ok nmX7 (by decide) wd_473 (fun _ h => h) rfl rfl rfl rfl rfl ⟨by rw [hk]; decide, by rw [hk]; decide⟩ (wF_8 hk) (Nat.le_of_ble_eq_true rfl) rfl rfl rfl (fun b hb => wF_sfr hb) ?_ hdg kk
  rw [wF_8 (S := (sfr S 34 a (some v))) hk]
  show Sum.inr (7, [Value.int (fi S 27 a), Value.int (fi S 28 a), va_rf (fr S 29 a), va_rf (fr S 30 a), va_rf (fr S 31 a), va_rf (fr S 32 a), va_rf (fr S 33 a), va_rf (va_up (fr S) 34 (va_up (fr S 34) a (some v)) 34 a), va_rf (fr S 35 a), va_rf (fr S 36 a), va_rf (fr S 37 a), va_rf (fr S 38 a), va_rf (fr S 39 a), va_rf (fr S 40 a), va_rf (fr S 41 a), va_rf (fr S 42 a), Value.int (fi S 43 a), va_rf (fr S 44 a), va_rf (fr S 45 a), va_rf (fr S 46 a), Value.int (fi S 47 a), va_rf (fr S 48 a), va_rf (fr S 49 a), Value.int (fi S 50 a), va_rf (fr S 51 a), Value.int (fi S 52 a)]) = _
  rw [up2_self]
  rfl
theorem pf_X7_29 (X : Cx p s m meth c cc nL RX7 D ka Z A) (V : Hv D ka Z s A S H locs) (hk : kd S a = 8) (hin2 : meth.name = "<init>") {v : Nat} (hdg : decode cc pc = .ok (.putfield 29, 3)) (kk : ∀ (H1 : Heap) (locs1 : List Loc), Hv D ka Z s A (sfr S 35 a (some v)) H1 locs1 → W p l e R s m args below meth c H1 locs1 cells slots Q (F0 m (pc + 3) ls rest)) : W p l e R s m args below meth c H locs cells slots Q (F0 m pc ls (.ref v :: .ref a :: rest)) := by
  refine r_putF (S' := (sfr S 35 a (some v))) X V hin2 (C := RX7) (T := TX7) (N := 26) (ci := 7) (k := 8) (ty := .array .int) rfl in_X7 tyX7 tyX7_ok nmX7 (by decide) wd_442 (fun _ h => h) rfl rfl rfl rfl rfl ⟨by rw [hk]; decide, by rw [hk]; decide⟩ (wF_8 hk) (Nat.le_of_ble_eq_true rfl) rfl rfl rfl (fun b hb => wF_sfr hb) ?_ hdg kk
  rw [wF_8 (S := (sfr S 35 a (some v))) hk]
  show Sum.inr (7, [Value.int (fi S 27 a), Value.int (fi S 28 a), va_rf (fr S 29 a), va_rf (fr S 30 a), va_rf (fr S 31 a), va_rf (fr S 32 a), va_rf (fr S 33 a), va_rf (fr S 34 a), va_rf (va_up (fr S) 35 (va_up (fr S 35) a (some v)) 35 a), va_rf (fr S 36 a), va_rf (fr S 37 a), va_rf (fr S 38 a), va_rf (fr S 39 a), va_rf (fr S 40 a), va_rf (fr S 41 a), va_rf (fr S 42 a), Value.int (fi S 43 a), va_rf (fr S 44 a), va_rf (fr S 45 a), va_rf (fr S 46 a), Value.int (fi S 47 a), va_rf (fr S 48 a), va_rf (fr S 49 a), Value.int (fi S 50 a), va_rf (fr S 51 a), Value.int (fi S 52 a)]) = _
  rw [up2_self]
  rfl
theorem pf_X7_32 (X : Cx p s m meth c cc nL RX7 D ka Z A) (V : Hv D ka Z s A S H locs) (hk : kd S a = 8) (hin2 : meth.name = "<init>") {v : Nat} (hdg : decode cc pc = .ok (.putfield 32, 3)) (kk : ∀ (H1 : Heap) (locs1 : List Loc), Hv D ka Z s A (sfr S 36 a (some v)) H1 locs1 → W p l e R s m args below meth c H1 locs1 cells slots Q (F0 m (pc + 3) ls rest)) : W p l e R s m args below meth c H locs cells slots Q (F0 m pc ls (.ref v :: .ref a :: rest)) := by
  refine r_putF (S' := (sfr S 36 a (some v))) X V hin2 (C := RX7) (T := TX7) (N := 26) (ci := 7) (k := 9) (ty := .array .int) rfl in_X7 tyX7 tyX7_ok nmX7 (by decide) wd_444 (fun _ h => h) rfl rfl rfl rfl rfl ⟨by rw [hk]; decide, by rw [hk]; decide⟩ (wF_8 hk) (Nat.le_of_ble_eq_true rfl) rfl rfl rfl (fun b hb => wF_sfr hb) ?_ hdg kk
  rw [wF_8 (S := (sfr S 36 a (some v))) hk]
  show Sum.inr (7, [Value.int (fi S 27 a), Value.int (fi S 28 a), va_rf (fr S 29 a), va_rf (fr S 30 a), va_rf (fr S 31 a), va_rf (fr S 32 a), va_rf (fr S 33 a), va_rf (fr S 34 a), va_rf (fr S 35 a), va_rf (va_up (fr S) 36 (va_up (fr S 36) a (some v)) 36 a), va_rf (fr S 37 a), va_rf (fr S 38 a), va_rf (fr S 39 a), va_rf (fr S 40 a), va_rf (fr S 41 a), va_rf (fr S 42 a), Value.int (fi S 43 a), va_rf (fr S 44 a), va_rf (fr S 45 a), va_rf (fr S 46 a), Value.int (fi S 47 a), va_rf (fr S 48 a), va_rf (fr S 49 a), Value.int (fi S 50 a), va_rf (fr S 51 a), Value.int (fi S 52 a)]) = _
  rw [up2_self]
  rfl
theorem pf_X7_35 (X : Cx p s m meth c cc nL RX7 D ka Z A) (V : Hv D ka Z s A S H locs) (hk : kd S a = 8) (hin2 : meth.name = "<init>") {v : Nat} (hdg : decode cc pc = .ok (.putfield 35, 3)) (kk : ∀ (H1 : Heap) (locs1 : List Loc), Hv D ka Z s A (sfr S 37 a (some v)) H1 locs1 → W p l e R s m args below meth c H1 locs1 cells slots Q (F0 m (pc + 3) ls rest)) : W p l e R s m args below meth c H locs cells slots Q (F0 m pc ls (.ref v :: .ref a :: rest)) := by
  refine r_putF (S' := (sfr S 37 a (some v))) X V hin2 (C := RX7) (T := TX7) (N := 26) (ci := 7) (k := 10) (ty := .array .int) rfl in_X7 tyX7 tyX7_ok nmX7 (by decide) wd_443 (fun _ h => h) rfl rfl rfl rfl rfl ⟨by rw [hk]; decide, by rw [hk]; decide⟩ (wF_8 hk) (Nat.le_of_ble_eq_true rfl) rfl rfl rfl (fun b hb => wF_sfr hb) ?_ hdg kk
  rw [wF_8 (S := (sfr S 37 a (some v))) hk]
  show Sum.inr (7, [Value.int (fi S 27 a), Value.int (fi S 28 a), va_rf (fr S 29 a), va_rf (fr S 30 a), va_rf (fr S 31 a), va_rf (fr S 32 a), va_rf (fr S 33 a), va_rf (fr S 34 a), va_rf (fr S 35 a), va_rf (fr S 36 a), va_rf (va_up (fr S) 37 (va_up (fr S 37) a (some v)) 37 a), va_rf (fr S 38 a), va_rf (fr S 39 a), va_rf (fr S 40 a), va_rf (fr S 41 a), va_rf (fr S 42 a), Value.int (fi S 43 a), va_rf (fr S 44 a), va_rf (fr S 45 a), va_rf (fr S 46 a), Value.int (fi S 47 a), va_rf (fr S 48 a), va_rf (fr S 49 a), Value.int (fi S 50 a), va_rf (fr S 51 a), Value.int (fi S 52 a)]) = _
  rw [up2_self]
  rfl
theorem pf_X7_38 (X : Cx p s m meth c cc nL RX7 D ka Z A) (V : Hv D ka Z s A S H locs) (hk : kd S a = 8) (hin2 : meth.name = "<init>") {v : Nat} (hdg : decode cc pc = .ok (.putfield 38, 3)) (kk : ∀ (H1 : Heap) (locs1 : List Loc), Hv D ka Z s A (sfr S 38 a (some v)) H1 locs1 → W p l e R s m args below meth c H1 locs1 cells slots Q (F0 m (pc + 3) ls rest)) : W p l e R s m args below meth c H locs cells slots Q (F0 m pc ls (.ref v :: .ref a :: rest)) := by
  refine r_putF (S' := (sfr S 38 a (some v))) X V hin2 (C := RX7) (T := TX7) (N := 26) (ci := 7) (k := 11) (ty := .array .int) rfl in_X7 tyX7 tyX7_ok nmX7 (by decide) wd_461 (fun _ h => h) rfl rfl rfl rfl rfl ⟨by rw [hk]; decide, by rw [hk]; decide⟩ (wF_8 hk) (Nat.le_of_ble_eq_true rfl) rfl rfl rfl (fun b hb => wF_sfr hb) ?_ hdg kk
  rw [wF_8 (S := (sfr S 38 a (some v))) hk]
  show Sum.inr (7, [Value.int (fi S 27 a), Value.int (fi S 28 a), va_rf (fr S 29 a), va_rf (fr S 30 a), va_rf (fr S 31 a), va_rf (fr S 32 a), va_rf (fr S 33 a), va_rf (fr S 34 a), va_rf (fr S 35 a), va_rf (fr S 36 a), va_rf (fr S 37 a), va_rf (va_up (fr S) 38 (va_up (fr S 38) a (some v)) 38 a), va_rf (fr S 39 a), va_rf (fr S 40 a), va_rf (fr S 41 a), va_rf (fr S 42 a), Value.int (fi S 43 a), va_rf (fr S 44 a), va_rf (fr S 45 a), va_rf (fr S 46 a), Value.int (fi S 47 a), va_rf (fr S 48 a), va_rf (fr S 49 a), Value.int (fi S 50 a), va_rf (fr S 51 a), Value.int (fi S 52 a)]) = _
  rw [up2_self]
  rfl
theorem pf_X7_41 (X : Cx p s m meth c cc nL RX7 D ka Z A) (V : Hv D ka Z s A S H locs) (hk : kd S a = 8) (hin2 : meth.name = "<init>") {v : Nat} (hdg : decode cc pc = .ok (.putfield 41, 3)) (kk : ∀ (H1 : Heap) (locs1 : List Loc), Hv D ka Z s A (sfr S 39 a (some v)) H1 locs1 → W p l e R s m args below meth c H1 locs1 cells slots Q (F0 m (pc + 3) ls rest)) : W p l e R s m args below meth c H locs cells slots Q (F0 m pc ls (.ref v :: .ref a :: rest)) := by
  refine r_putF (S' := (sfr S 39 a (some v))) X V hin2 (C := RX7) (T := TX7) (N := 26) (ci := 7) (k := 12) (ty := .array .long) rfl in_X7 tyX7 tyX7_ok nmX7 (by decide) wd_462 (fun _ h => h) rfl rfl rfl rfl rfl ⟨by rw [hk]; decide, by rw [hk]; decide⟩ (wF_8 hk) (Nat.le_of_ble_eq_true rfl) rfl rfl rfl (fun b hb => wF_sfr hb) ?_ hdg kk
  rw [wF_8 (S := (sfr S 39 a (some v))) hk]
  show Sum.inr (7, [Value.int (fi S 27 a), Value.int (fi S 28 a), va_rf (fr S 29 a), va_rf (fr S 30 a), va_rf (fr S 31 a), va_rf (fr S 32 a), va_rf (fr S 33 a), va_rf (fr S 34 a), va_rf (fr S 35 a), va_rf (fr S 36 a), va_rf (fr S 37 a), va_rf (fr S 38 a), va_rf (va_up (fr S) 39 (va_up (fr S 39) a (some v)) 39 a), va_rf (fr S 40 a), va_rf (fr S 41 a), va_rf (fr S 42 a), Value.int (fi S 43 a), va_rf (fr S 44 a), va_rf (fr S 45 a), va_rf (fr S 46 a), Value.int (fi S 47 a), va_rf (fr S 48 a), va_rf (fr S 49 a), Value.int (fi S 50 a), va_rf (fr S 51 a), Value.int (fi S 52 a)]) = _
  rw [up2_self]
  rfl
theorem pf_X7_45 (X : Cx p s m meth c cc nL RX7 D ka Z A) (V : Hv D ka Z s A S H locs) (hk : kd S a = 8) (hin2 : meth.name = "<init>") {v : Nat} (hdg : decode cc pc = .ok (.putfield 45, 3)) (kk : ∀ (H1 : Heap) (locs1 : List Loc), Hv D ka Z s A (sfr S 40 a (some v)) H1 locs1 → W p l e R s m args below meth c H1 locs1 cells slots Q (F0 m (pc + 3) ls rest)) : W p l e R s m args below meth c H locs cells slots Q (F0 m pc ls (.ref v :: .ref a :: rest)) := by
  refine r_putF (S' := (sfr S 40 a (some v))) X V hin2 (C := RX7) (T := TX7) (N := 26) (ci := 7) (k := 13) (ty := .array .int) rfl in_X7 tyX7 tyX7_ok nmX7 (by decide) wd_463 (fun _ h => h) rfl rfl rfl rfl rfl ⟨by rw [hk]; decide, by rw [hk]; decide⟩ (wF_8 hk) (Nat.le_of_ble_eq_true rfl) rfl rfl rfl (fun b hb => wF_sfr hb) ?_ hdg kk
  rw [wF_8 (S := (sfr S 40 a (some v))) hk]
  show Sum.inr (7, [Value.int (fi S 27 a), Value.int (fi S 28 a), va_rf (fr S 29 a), va_rf (fr S 30 a), va_rf (fr S 31 a), va_rf (fr S 32 a), va_rf (fr S 33 a), va_rf (fr S 34 a), va_rf (fr S 35 a), va_rf (fr S 36 a), va_rf (fr S 37 a), va_rf (fr S 38 a), va_rf (fr S 39 a), va_rf (va_up (fr S) 40 (va_up (fr S 40) a (some v)) 40 a), va_rf (fr S 41 a), va_rf (fr S 42 a), Value.int (fi S 43 a), va_rf (fr S 44 a), va_rf (fr S 45 a), va_rf (fr S 46 a), Value.int (fi S 47 a), va_rf (fr S 48 a), va_rf (fr S 49 a), Value.int (fi S 50 a), va_rf (fr S 51 a), Value.int (fi S 52 a)]) = _
  rw [up2_self]
  rfl
theorem pf_X7_48 (X : Cx p s m meth c cc nL RX7 D ka Z A) (V : Hv D ka Z s A S H locs) (hk : kd S a = 8) (hin2 : meth.name = "<init>") {v : Nat} (hdg : decode cc pc = .ok (.putfield 48, 3)) (kk : ∀ (H1 : Heap) (locs1 : List Loc), Hv D ka Z s A (sfr S 41 a (some v)) H1 locs1 → W p l e R s m args below meth c H1 locs1 cells slots Q (F0 m (pc + 3) ls rest)) : W p l e R s m args below meth c H locs cells slots Q (F0 m pc ls (.ref v :: .ref a :: rest)) := by
  refine r_putF (S' := (sfr S 41 a (some v))) X V hin2 (C := RX7) (T := TX7) (N := 26) (ci := 7) (k := 14) (ty := .array .long) rfl in_X7 tyX7 tyX7_ok nmX7 (by decide) wd_464 (fun _ h => h) rfl rfl rfl rfl rfl ⟨by rw [hk]; decide, by rw [hk]; decide⟩ (wF_8 hk) (Nat.le_of_ble_eq_true rfl) rfl rfl rfl (fun b hb => wF_sfr hb) ?_ hdg kk
  rw [wF_8 (S := (sfr S 41 a (some v))) hk]
  show Sum.inr (7, [Value.int (fi S 27 a), Value.int (fi S 28 a), va_rf (fr S 29 a), va_rf (fr S 30 a), va_rf (fr S 31 a), va_rf (fr S 32 a), va_rf (fr S 33 a), va_rf (fr S 34 a), va_rf (fr S 35 a), va_rf (fr S 36 a), va_rf (fr S 37 a), va_rf (fr S 38 a), va_rf (fr S 39 a), va_rf (fr S 40 a), va_rf (va_up (fr S) 41 (va_up (fr S 41) a (some v)) 41 a), va_rf (fr S 42 a), Value.int (fi S 43 a), va_rf (fr S 44 a), va_rf (fr S 45 a), va_rf (fr S 46 a), Value.int (fi S 47 a), va_rf (fr S 48 a), va_rf (fr S 49 a), Value.int (fi S 50 a), va_rf (fr S 51 a), Value.int (fi S 52 a)]) = _
  rw [up2_self]
  rfl
theorem pf_X7_51 (X : Cx p s m meth c cc nL RX7 D ka Z A) (V : Hv D ka Z s A S H locs) (hk : kd S a = 8) (hin2 : meth.name = "<init>") {v : Nat} (hdg : decode cc pc = .ok (.putfield 51, 3)) (kk : ∀ (H1 : Heap) (locs1 : List Loc), Hv D ka Z s A (sfr S 42 a (some v)) H1 locs1 → W p l e R s m args below meth c H1 locs1 cells slots Q (F0 m (pc + 3) ls rest)) : W p l e R s m args below meth c H locs cells slots Q (F0 m pc ls (.ref v :: .ref a :: rest)) := by
  refine r_putF (S' := (sfr S 42 a (some v))) X V hin2 (C := RX7) (T := TX7) (N := 26) (ci := 7) (k := 15) (ty := .array .byte) rfl in_X7 tyX7 tyX7_ok nmX7 (by decide) wd_460 (fun _ h => h) rfl rfl rfl rfl rfl ⟨by rw [hk]; decide, by rw [hk]; decide⟩ (wF_8 hk) (Nat.le_of_ble_eq_true rfl) rfl rfl rfl (fun b hb => wF_sfr hb) ?_ hdg kk
  rw [wF_8 (S := (sfr S 42 a (some v))) hk]
  show Sum.inr (7, [Value.int (fi S 27 a), Value.int (fi S 28 a), va_rf (fr S 29 a), va_rf (fr S 30 a), va_rf (fr S 31 a), va_rf (fr S 32 a), va_rf (fr S 33 a), va_rf (fr S 34 a), va_rf (fr S 35 a), va_rf (fr S 36 a), va_rf (fr S 37 a), va_rf (fr S 38 a), va_rf (fr S 39 a), va_rf (fr S 40 a), va_rf (fr S 41 a), va_rf (va_up (fr S) 42 (va_up (fr S 42) a (some v)) 42 a), Value.int (fi S 43 a), va_rf (fr S 44 a), va_rf (fr S 45 a), va_rf (fr S 46 a), Value.int (fi S 47 a), va_rf (fr S 48 a), va_rf (fr S 49 a), Value.int (fi S 50 a), va_rf (fr S 51 a), Value.int (fi S 52 a)]) = _
  rw [up2_self]
  rfl
theorem pf_X7_54 (X : Cx p s m meth c cc nL RX7 D ka Z A) (V : Hv D ka Z s A S H locs) (hk : kd S a = 8) (hin2 : meth.name = "<init>") {v : Nat} (hdg : decode cc pc = .ok (.putfield 54, 3)) (kk : ∀ (H1 : Heap) (locs1 : List Loc), Hv D ka Z s A (sfr S 44 a (some v)) H1 locs1 → W p l e R s m args below meth c H1 locs1 cells slots Q (F0 m (pc + 3) ls rest)) : W p l e R s m args below meth c H locs cells slots Q (F0 m pc ls (.ref v :: .ref a :: rest)) := by
  refine r_putF (S' := (sfr S 44 a (some v))) X V hin2 (C := RX7) (T := TX7) (N := 26) (ci := 7) (k := 17) (ty := .array .byte) rfl in_X7 tyX7 tyX7_ok nmX7 (by decide) wd_486 (fun _ h => h) rfl rfl rfl rfl rfl ⟨by rw [hk]; decide, by rw [hk]; decide⟩ (wF_8 hk) (Nat.le_of_ble_eq_true rfl) rfl rfl rfl (fun b hb => wF_sfr hb) ?_ hdg kk
  rw [wF_8 (S := (sfr S 44 a (some v))) hk]
  show Sum.inr (7, [Value.int (fi S 27 a), Value.int (fi S 28 a), va_rf (fr S 29 a), va_rf (fr S 30 a), va_rf (fr S 31 a), va_rf (fr S 32 a), va_rf (fr S 33 a), va_rf (fr S 34 a), va_rf (fr S 35 a), va_rf (fr S 36 a), va_rf (fr S 37 a), va_rf (fr S 38 a), va_rf (fr S 39 a), va_rf (fr S 40 a), va_rf (fr S 41 a), va_rf (fr S 42 a), Value.int (fi S 43 a), va_rf (va_up (fr S) 44 (va_up (fr S 44) a (some v)) 44 a), va_rf (fr S 45 a), va_rf (fr S 46 a), Value.int (fi S 47 a), va_rf (fr S 48 a), va_rf (fr S 49 a), Value.int (fi S 50 a), va_rf (fr S 51 a), Value.int (fi S 52 a)]) = _
  rw [up2_self]
  rfl
theorem pf_X7_57 (X : Cx p s m meth c cc nL RX7 D ka Z A) (V : Hv D ka Z s A S H locs) (hk : kd S a = 8) (hin2 : meth.name = "<init>") {v : Nat} (hdg : decode cc pc = .ok (.putfield 57, 3)) (kk : ∀ (H1 : Heap) (locs1 : List Loc), Hv D ka Z s A (sfr S 45 a (some v)) H1 locs1 → W p l e R s m args below meth c H1 locs1 cells slots Q (F0 m (pc + 3) ls rest)) : W p l e R s m args below meth c H locs cells slots Q (F0 m pc ls (.ref v :: .ref a :: rest)) := by
  refine r_putF (S' := (sfr S 45 a (some v))) X V hin2 (C := RX7) (T := TX7) (N := 26) (ci := 7) (k := 18) (ty := .array .int) rfl in_X7 tyX7 tyX7_ok nmX7 (by decide) wd_484 (fun _ h => h) rfl rfl rfl rfl rfl ⟨by rw [hk]; decide, by rw [hk]; decide⟩ (wF_8 hk) (Nat.le_of_ble_eq_true rfl) rfl rfl rfl (fun b hb => wF_sfr hb) ?_ hdg kk
  rw [wF_8 (S := (sfr S 45 a (some v))) hk]
  show Sum.inr (7, [Value.int (fi S 27 a), Value.int (fi S 28 a), va_rf (fr S 29 a), va_rf (fr S 30 a), va_rf (fr S 31 a), va_rf (fr S 32 a), va_rf (fr S 33 a), va_rf (fr S 34 a), va_rf (fr S 35 a), va_rf (fr S 36 a), va_rf (fr S 37 a), va_rf (fr S 38 a), va_rf (fr S 39 a), va_rf (fr S 40 a), va_rf (fr S 41 a), va_rf (fr S 42 a), Value.int (fi S 43 a), va_rf (fr S 44 a), va_rf (va_up (fr S) 45 (va_up (fr S 45) a (some v)) 45 a), va_rf (fr S 46 a), Value.int (fi S 47 a), va_rf (fr S 48 a), va_rf (fr S 49 a), Value.int (fi S 50 a), va_rf (fr S 51 a), Value.int (fi S 52 a)]) = _
  rw [up2_self]
  rfl
theorem pf_X7_60 (X : Cx p s m meth c cc nL RX7 D ka Z A) (V : Hv D ka Z s A S H locs) (hk : kd S a = 8) (hin2 : meth.name = "<init>") {v : Nat} (hdg : decode cc pc = .ok (.putfield 60, 3)) (kk : ∀ (H1 : Heap) (locs1 : List Loc), Hv D ka Z s A (sfr S 46 a (some v)) H1 locs1 → W p l e R s m args below meth c H1 locs1 cells slots Q (F0 m (pc + 3) ls rest)) : W p l e R s m args below meth c H locs cells slots Q (F0 m pc ls (.ref v :: .ref a :: rest)) := by
  refine r_putF (S' := (sfr S 46 a (some v))) X V hin2 (C := RX7) (T := TX7) (N := 26) (ci := 7) (k := 19) (ty := .array .int) rfl in_X7 tyX7 tyX7_ok nmX7 (by decide) wd_485 (fun _ h => h) rfl rfl rfl rfl rfl ⟨by rw [hk]; decide, by rw [hk]; decide⟩ (wF_8 hk) (Nat.le_of_ble_eq_true rfl) rfl rfl rfl (fun b hb => wF_sfr hb) ?_ hdg kk
  rw [wF_8 (S := (sfr S 46 a (some v))) hk]
  show Sum.inr (7, [Value.int (fi S 27 a), Value.int (fi S 28 a), va_rf (fr S 29 a), va_rf (fr S 30 a), va_rf (fr S 31 a), va_rf (fr S 32 a), va_rf (fr S 33 a), va_rf (fr S 34 a), va_rf (fr S 35 a), va_rf (fr S 36 a), va_rf (fr S 37 a), va_rf (fr S 38 a), va_rf (fr S 39 a), va_rf (fr S 40 a), va_rf (fr S 41 a), va_rf (fr S 42 a), Value.int (fi S 43 a), va_rf (fr S 44 a), va_rf (fr S 45 a), va_rf (va_up (fr S) 46 (va_up (fr S 46) a (some v)) 46 a), Value.int (fi S 47 a), va_rf (fr S 48 a), va_rf (fr S 49 a), Value.int (fi S 50 a), va_rf (fr S 51 a), Value.int (fi S 52 a)]) = _
  rw [up2_self]
  rfl
theorem pf_X7_63 (X : Cx p s m meth c cc nL RX7 D ka Z A) (V : Hv D ka Z s A S H locs) (hk : kd S a = 8) (hin2 : meth.name = "<init>") {v : Nat} (hdg : decode cc pc = .ok (.putfield 63, 3)) (kk : ∀ (H1 : Heap) (locs1 : List Loc), Hv D ka Z s A (sfr S 48 a (some v)) H1 locs1 → W p l e R s m args below meth c H1 locs1 cells slots Q (F0 m (pc + 3) ls rest)) : W p l e R s m args below meth c H locs cells slots Q (F0 m pc ls (.ref v :: .ref a :: rest)) := by
  refine r_putF (S' := (sfr S 48 a (some v))) X V hin2 (C := RX7) (T := TX7) (N := 26) (ci := 7) (k := 21) (ty := .array .int) rfl in_X7 tyX7 tyX7_ok nmX7 (by decide) wd_441 (fun _ h => h) rfl rfl rfl rfl rfl ⟨by rw [hk]; decide, by rw [hk]; decide⟩ (wF_8 hk) (Nat.le_of_ble_eq_true rfl) rfl rfl rfl (fun b hb => wF_sfr hb) ?_ hdg kk
  rw [wF_8 (S := (sfr S 48 a (some v))) hk]
  show Sum.inr (7, [Value.int (fi S 27 a), Value.int (fi S 28 a), va_rf (fr S 29 a), va_rf (fr S 30 a), va_rf (fr S 31 a), va_rf (fr S 32 a), va_rf (fr S 33 a), va_rf (fr S 34 a), va_rf (fr S 35 a), va_rf (fr S 36 a), va_rf (fr S 37 a), va_rf (fr S 38 a), va_rf (fr S 39 a), va_rf (fr S 40 a), va_rf (fr S 41 a), va_rf (fr S 42 a), Value.int (fi S 43 a), va_rf (fr S 44 a), va_rf (fr S 45 a), va_rf (fr S 46 a), Value.int (fi S 47 a), va_rf (va_up (fr S) 48 (va_up (fr S 48) a (some v)) 48 a), va_rf (fr S 49 a), Value.int (fi S 50 a), va_rf (fr S 51 a), Value.int (fi S 52 a)]) = _
  rw [up2_self]
  rfl
theorem pf_X7_66 (X : Cx p s m meth c cc nL RX7 D ka Z A) (V : Hv D ka Z s A S H locs) (hk : kd S a = 8) (hin2 : meth.name = "<init>") {v : Nat} (hdg : decode cc pc = .ok (.putfield 66, 3)) (kk : ∀ (H1 : Heap) (locs1 : List Loc), Hv D ka Z s A (sfr S 49 a (some v)) H1 locs1 → W p l e R s m args below meth c H1 locs1 cells slots Q (F0 m (pc + 3) ls rest)) : W p l e R s m args below meth c H locs cells slots Q (F0 m pc ls (.ref v :: .ref a :: rest)) := by
  refine r_putF (S' := (sfr S 49 a (some v))) X V hin2 (C := RX7) (T := TX7) (N := 26) (ci := 7) (k := 22) (ty := .array .byte) rfl in_X7 tyX7 tyX7_ok nmX7 (by decide) wd_482 (fun _ h => h) rfl rfl rfl rfl rfl ⟨by rw [hk]; decide, by rw [hk]; decide⟩ (wF_8 hk) (Nat.le_of_ble_eq_true rfl) rfl rfl rfl (fun b hb => wF_sfr hb) ?_ hdg kk
  rw [wF_8 (S := (sfr S 49 a (some v))) hk]
  show Sum.inr (7, [Value.int (fi S 27 a), Value.int (fi S 28 a), va_rf (fr S 29 a), va_rf (fr S 30 a), va_rf (fr S 31 a), va_rf (fr S 32 a), va_rf (fr S 33 a), va_rf (fr S 34 a), va_rf (fr S 35 a), va_rf (fr S 36 a), va_rf (fr S 37 a), va_rf (fr S 38 a), va_rf (fr S 39 a), va_rf (fr S 40 a), va_rf (fr S 41 a), va_rf (fr S 42 a), Value.int (fi S 43 a), va_rf (fr S 44 a), va_rf (fr S 45 a), va_rf (fr S 46 a), Value.int (fi S 47 a), va_rf (fr S 48 a), va_rf (va_up (fr S) 49 (va_up (fr S 49) a (some v)) 49 a), Value.int (fi S 50 a), va_rf (fr S 51 a), Value.int (fi S 52 a)]) = _
  rw [up2_self]
  rfl
theorem pf_X7_69 (X : Cx p s m meth c cc nL RX7 D ka Z A) (V : Hv D ka Z s A S H locs) (hk : kd S a = 8) (hin2 : meth.name = "<init>") {v : Nat} (hdg : decode cc pc = .ok (.putfield 69, 3)) (kk : ∀ (H1 : Heap) (locs1 : List Loc), Hv D ka Z s A (sfr S 51 a (some v)) H1 locs1 → W p l e R s m args below meth c H1 locs1 cells slots Q (F0 m (pc + 3) ls rest)) : W p l e R s m args below meth c H locs cells slots Q (F0 m pc ls (.ref v :: .ref a :: rest)) := by
  refine r_putF (S' := (sfr S 51 a (some v))) X V hin2 (C := RX7) (T := TX7) (N := 26) (ci := 7) (k := 24) (ty := .array .byte) rfl in_X7 tyX7 tyX7_ok nmX7 (by decide) wd_476 (fun _ h => h) rfl rfl rfl rfl rfl ⟨by rw [hk]; decide, by rw [hk]; decide⟩ (wF_8 hk) (Nat.le_of_ble_eq_true rfl) rfl rfl rfl (fun b hb => wF_sfr hb) ?_ hdg kk
  rw [wF_8 (S := (sfr S 51 a (some v))) hk]
  show Sum.inr (7, [Value.int (fi S 27 a), Value.int (fi S 28 a), va_rf (fr S 29 a), va_rf (fr S 30 a), va_rf (fr S 31 a), va_rf (fr S 32 a), va_rf (fr S 33 a), va_rf (fr S 34 a), va_rf (fr S 35 a), va_rf (fr S 36 a), va_rf (fr S 37 a), va_rf (fr S 38 a), va_rf (fr S 39 a), va_rf (fr S 40 a), va_rf (fr S 41 a), va_rf (fr S 42 a), Value.int (fi S 43 a), va_rf (fr S 44 a), va_rf (fr S 45 a), va_rf (fr S 46 a), Value.int (fi S 47 a), va_rf (fr S 48 a), va_rf (fr S 49 a), Value.int (fi S 50 a), va_rf (va_up (fr S) 51 (va_up (fr S 51) a (some v)) 51 a), Value.int (fi S 52 a)]) = _
  rw [up2_self]
  rfl
theorem pf_X7_104 (X : Cx p s m meth c cc nL RX7 D ka Z A) (V : Hv D ka Z s A S H locs) (hk : kd S a = 8) {v : Int32} (hdg : decode cc pc = .ok (.putfield 104, 3)) (kk : ∀ (H1 : Heap) (locs1 : List Loc), Hv D ka Z s A (sfi S 52 a v) H1 locs1 → W p l e R s m args below meth c H1 locs1 cells slots Q (F0 m (pc + 3) ls rest)) : W p l e R s m args below meth c H locs cells slots Q (F0 m pc ls (.int v :: .ref a :: rest)) := by
  refine r_put (S' := (sfi S 52 a v)) X V (C := RX7) (T := TX7) (N := 26) (ci := 7) (k := 25) (ty := .int) rfl in_X7 tyX7 tyX7_ok nmX7 (by decide) wd_474 (fun _ h => h) rfl rfl rfl rfl ⟨by rw [hk]; decide, by rw [hk]; decide⟩ (wF_8 hk) (Nat.le_of_ble_eq_true rfl) rfl rfl rfl (fun b hb => wF_sfi hb) ?_ hdg kk
  rw [wF_8 (S := (sfi S 52 a v)) hk]
  show Sum.inr (7, [Value.int (fi S 27 a), Value.int (fi S 28 a), va_rf (fr S 29 a), va_rf (fr S 30 a), va_rf (fr S 31 a), va_rf (fr S 32 a), va_rf (fr S 33 a), va_rf (fr S 34 a), va_rf (fr S 35 a), va_rf (fr S 36 a), va_rf (fr S 37 a), va_rf (fr S 38 a), va_rf (fr S 39 a), va_rf (fr S 40 a), va_rf (fr S 41 a), va_rf (fr S 42 a), Value.int (fi S 43 a), va_rf (fr S 44 a), va_rf (fr S 45 a), va_rf (fr S 46 a), Value.int (fi S 47 a), va_rf (fr S 48 a), va_rf (fr S 49 a), Value.int (fi S 50 a), va_rf (fr S 51 a), Value.int (va_up (fi S) 52 (va_up (fi S 52) a v) 52 a)]) = _
  rw [up2_self]
  rfl
end FR
theorem na_33 {ka : Nat → ClassId} {S : HS} {q n : Nat} : wF ka (snw S q 33 n) q = .inl (ka 1, n, .inl (fun _ => 0)) := by
  obtain ⟨e1, e2, -, -, -, e6, e7, e8⟩ := snw_F (ka := ka) (S := S) (q := q) (k := 33) (n := n)
  rw [wF_aI (by rw [e1]), e2]
  simp only [e6, e7, e8]
theorem na_34 {ka : Nat → ClassId} {S : HS} {q n : Nat} : wF ka (snw S q 34 n) q = .inl (ka 1, n, .inl (fun _ => 0)) := by
  obtain ⟨e1, e2, -, -, -, e6, e7, e8⟩ := snw_F (ka := ka) (S := S) (q := q) (k := 34) (n := n)
  rw [wF_aI (by rw [e1]), e2]
  simp only [e6, e7, e8]
theorem na_35 {ka : Nat → ClassId} {S : HS} {q n : Nat} : wF ka (snw S q 35 n) q = .inl (ka 1, n, .inl (fun _ => 0)) := by
  obtain ⟨e1, e2, -, -, -, e6, e7, e8⟩ := snw_F (ka := ka) (S := S) (q := q) (k := 35) (n := n)
  rw [wF_aI (by rw [e1]), e2]
  simp only [e6, e7, e8]
theorem na_36 {ka : Nat → ClassId} {S : HS} {q n : Nat} : wF ka (snw S q 36 n) q = .inl (ka 1, n, .inl (fun _ => 0)) := by
  obtain ⟨e1, e2, -, -, -, e6, e7, e8⟩ := snw_F (ka := ka) (S := S) (q := q) (k := 36) (n := n)
  rw [wF_aI (by rw [e1]), e2]
  simp only [e6, e7, e8]
theorem na_37 {ka : Nat → ClassId} {S : HS} {q n : Nat} : wF ka (snw S q 37 n) q = .inl (ka 1, n, .inl (fun _ => 0)) := by
  obtain ⟨e1, e2, -, -, -, e6, e7, e8⟩ := snw_F (ka := ka) (S := S) (q := q) (k := 37) (n := n)
  rw [wF_aI (by rw [e1]), e2]
  simp only [e6, e7, e8]
theorem na_38 {ka : Nat → ClassId} {S : HS} {q n : Nat} : wF ka (snw S q 38 n) q = .inl (ka 1, n, .inl (fun _ => 0)) := by
  obtain ⟨e1, e2, -, -, -, e6, e7, e8⟩ := snw_F (ka := ka) (S := S) (q := q) (k := 38) (n := n)
  rw [wF_aI (by rw [e1]), e2]
  simp only [e6, e7, e8]
theorem na_39 {ka : Nat → ClassId} {S : HS} {q n : Nat} : wF ka (snw S q 39 n) q = .inl (ka 1, n, .inl (fun _ => 0)) := by
  obtain ⟨e1, e2, -, -, -, e6, e7, e8⟩ := snw_F (ka := ka) (S := S) (q := q) (k := 39) (n := n)
  rw [wF_aI (by rw [e1]), e2]
  simp only [e6, e7, e8]
theorem na_40 {ka : Nat → ClassId} {S : HS} {q n : Nat} : wF ka (snw S q 40 n) q = .inl (ka 1, n, .inl (fun _ => 0)) := by
  obtain ⟨e1, e2, -, -, -, e6, e7, e8⟩ := snw_F (ka := ka) (S := S) (q := q) (k := 40) (n := n)
  rw [wF_aI (by rw [e1]), e2]
  simp only [e6, e7, e8]
theorem na_41 {ka : Nat → ClassId} {S : HS} {q n : Nat} : wF ka (snw S q 41 n) q = .inl (ka 1, n, .inl (fun _ => 0)) := by
  obtain ⟨e1, e2, -, -, -, e6, e7, e8⟩ := snw_F (ka := ka) (S := S) (q := q) (k := 41) (n := n)
  rw [wF_aI (by rw [e1]), e2]
  simp only [e6, e7, e8]
theorem na_42 {ka : Nat → ClassId} {S : HS} {q n : Nat} : wF ka (snw S q 42 n) q = .inl (ka 1, n, .inl (fun _ => 0)) := by
  obtain ⟨e1, e2, -, -, -, e6, e7, e8⟩ := snw_F (ka := ka) (S := S) (q := q) (k := 42) (n := n)
  rw [wF_aI (by rw [e1]), e2]
  simp only [e6, e7, e8]
theorem na_43 {ka : Nat → ClassId} {S : HS} {q n : Nat} : wF ka (snw S q 43 n) q = .inl (ka 1, n, .inl (fun _ => 0)) := by
  obtain ⟨e1, e2, -, -, -, e6, e7, e8⟩ := snw_F (ka := ka) (S := S) (q := q) (k := 43) (n := n)
  rw [wF_aI (by rw [e1]), e2]
  simp only [e6, e7, e8]
theorem na_44 {ka : Nat → ClassId} {S : HS} {q n : Nat} : wF ka (snw S q 44 n) q = .inl (ka 1, n, .inl (fun _ => 0)) := by
  obtain ⟨e1, e2, -, -, -, e6, e7, e8⟩ := snw_F (ka := ka) (S := S) (q := q) (k := 44) (n := n)
  rw [wF_aI (by rw [e1]), e2]
  simp only [e6, e7, e8]
theorem na_45 {ka : Nat → ClassId} {S : HS} {q n : Nat} : wF ka (snw S q 45 n) q = .inl (ka 1, n, .inl (fun _ => 0)) := by
  obtain ⟨e1, e2, -, -, -, e6, e7, e8⟩ := snw_F (ka := ka) (S := S) (q := q) (k := 45) (n := n)
  rw [wF_aI (by rw [e1]), e2]
  simp only [e6, e7, e8]
theorem na_46 {ka : Nat → ClassId} {S : HS} {q n : Nat} : wF ka (snw S q 46 n) q = .inl (ka 1, n, .inl (fun _ => 0)) := by
  obtain ⟨e1, e2, -, -, -, e6, e7, e8⟩ := snw_F (ka := ka) (S := S) (q := q) (k := 46) (n := n)
  rw [wF_aI (by rw [e1]), e2]
  simp only [e6, e7, e8]
theorem na_47 {ka : Nat → ClassId} {S : HS} {q n : Nat} : wF ka (snw S q 47 n) q = .inl (ka 1, n, .inl (fun _ => 0)) := by
  obtain ⟨e1, e2, -, -, -, e6, e7, e8⟩ := snw_F (ka := ka) (S := S) (q := q) (k := 47) (n := n)
  rw [wF_aI (by rw [e1]), e2]
  simp only [e6, e7, e8]
theorem na_48 {ka : Nat → ClassId} {S : HS} {q n : Nat} : wF ka (snw S q 48 n) q = .inl (ka 1, n, .inl (fun _ => 0)) := by
  obtain ⟨e1, e2, -, -, -, e6, e7, e8⟩ := snw_F (ka := ka) (S := S) (q := q) (k := 48) (n := n)
  rw [wF_aI (by rw [e1]), e2]
  simp only [e6, e7, e8]
theorem na_64 {ka : Nat → ClassId} {S : HS} {q n : Nat} : wF ka (snw S q 64 n) q = .inl (ka 2, n, .inl (fun _ => 0)) := by
  obtain ⟨e1, e2, -, -, -, e6, e7, e8⟩ := snw_F (ka := ka) (S := S) (q := q) (k := 64) (n := n)
  rw [wF_aB (by rw [e1]), e2]
  simp only [e6, e7, e8]
theorem na_65 {ka : Nat → ClassId} {S : HS} {q n : Nat} : wF ka (snw S q 65 n) q = .inl (ka 2, n, .inl (fun _ => 0)) := by
  obtain ⟨e1, e2, -, -, -, e6, e7, e8⟩ := snw_F (ka := ka) (S := S) (q := q) (k := 65) (n := n)
  rw [wF_aB (by rw [e1]), e2]
  simp only [e6, e7, e8]
theorem na_66 {ka : Nat → ClassId} {S : HS} {q n : Nat} : wF ka (snw S q 66 n) q = .inl (ka 2, n, .inl (fun _ => 0)) := by
  obtain ⟨e1, e2, -, -, -, e6, e7, e8⟩ := snw_F (ka := ka) (S := S) (q := q) (k := 66) (n := n)
  rw [wF_aB (by rw [e1]), e2]
  simp only [e6, e7, e8]
theorem na_67 {ka : Nat → ClassId} {S : HS} {q n : Nat} : wF ka (snw S q 67 n) q = .inl (ka 2, n, .inl (fun _ => 0)) := by
  obtain ⟨e1, e2, -, -, -, e6, e7, e8⟩ := snw_F (ka := ka) (S := S) (q := q) (k := 67) (n := n)
  rw [wF_aB (by rw [e1]), e2]
  simp only [e6, e7, e8]
theorem na_68 {ka : Nat → ClassId} {S : HS} {q n : Nat} : wF ka (snw S q 68 n) q = .inl (ka 2, n, .inl (fun _ => 0)) := by
  obtain ⟨e1, e2, -, -, -, e6, e7, e8⟩ := snw_F (ka := ka) (S := S) (q := q) (k := 68) (n := n)
  rw [wF_aB (by rw [e1]), e2]
  simp only [e6, e7, e8]
theorem na_96 {ka : Nat → ClassId} {S : HS} {q n : Nat} : wF ka (snw S q 96 n) q = .inl (ka 3, n, .inr (.inl (fun _ => 0))) := by
  obtain ⟨e1, e2, -, -, -, e6, e7, e8⟩ := snw_F (ka := ka) (S := S) (q := q) (k := 96) (n := n)
  rw [wF_aJ (by rw [e1]), e2]
  simp only [e6, e7, e8]
theorem na_97 {ka : Nat → ClassId} {S : HS} {q n : Nat} : wF ka (snw S q 97 n) q = .inl (ka 3, n, .inr (.inl (fun _ => 0))) := by
  obtain ⟨e1, e2, -, -, -, e6, e7, e8⟩ := snw_F (ka := ka) (S := S) (q := q) (k := 97) (n := n)
  rw [wF_aJ (by rw [e1]), e2]
  simp only [e6, e7, e8]
theorem na_128 {ka : Nat → ClassId} {S : HS} {q n : Nat} : wF ka (snw S q 128 n) q = .inl (ka 4, n, .inr (.inr (.inr (.inr (fun _ => none))))) := by
  obtain ⟨e1, e2, -, -, -, e6, e7, e8⟩ := snw_F (ka := ka) (S := S) (q := q) (k := 128) (n := n)
  rw [wF_aE (by rw [e1]), e2]
  simp only [e6, e7, e8]
theorem na_160 {ka : Nat → ClassId} {S : HS} {q n : Nat} : wF ka (snw S q 160 n) q = .inl (ka 5, n, .inr (.inr (.inr (.inr (fun _ => none))))) := by
  obtain ⟨e1, e2, -, -, -, e6, e7, e8⟩ := snw_F (ka := ka) (S := S) (q := q) (k := 160) (n := n)
  rw [wF_aR (by rw [e1]), e2]
  simp only [e6, e7, e8]
theorem na_192 {ka : Nat → ClassId} {S : HS} {q n : Nat} : wF ka (snw S q 192 n) q = .inl (ka 6, n, .inr (.inr (.inr (.inr (fun _ => none))))) := by
  obtain ⟨e1, e2, -, -, -, e6, e7, e8⟩ := snw_F (ka := ka) (S := S) (q := q) (k := 192) (n := n)
  rw [wF_aO (by rw [e1]), e2]
  simp only [e6, e7, e8]
theorem sw_out (n : Nat) (x : Int32) (h : ∀ j : Nat, j ≤ n → ¬ x = nI j) : x.toInt < 0 ∨ (n : Int) < x.toInt := by
  by_cases h0 : x.toInt < 0
  · exact Or.inl h0
  · refine Or.inr ?_
    have hx : ¬ x < 0 := fun q => h0 (by have := Int32.lt_iff_toInt_lt.mp q; simpa using this)
    obtain ⟨j, hj, rfl⟩ := nI_of hx
    rw [nI_toInt hj]
    by_cases hn : j ≤ n
    · exact absurd rfl (h j hn)
    · omega
