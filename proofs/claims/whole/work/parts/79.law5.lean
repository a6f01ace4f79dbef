/-! ===== the law from its entry ===== -/
def z0 (e0 : Nat) : HS := (e0, fun a => if a = e0 then 224 else 0, fun _ => 0, fun _ _ => 0, fun _ _ => 0, fun _ _ => none, fun _ _ => 0, fun _ _ => 0, fun _ _ => none)
theorem kd_z0 (e0 a : Nat) : kd (z0 e0) a = if a = e0 then 224 else 0 := id rfl
theorem ln_z0 (e0 a : Nat) : ln (z0 e0) a = 0 := id rfl
theorem es_z0 (e0 : Nat) : es (z0 e0) = e0 := id rfl
theorem no_z0 (e0 a : Nat) : ¬ (kd (z0 e0) a ≠ 0 ∧ kd (z0 e0) a ≠ 224) := fun h => by
  rw [kd_z0] at h
  by_cases q : a = e0
  · rw [if_pos q] at h; exact h.2 rfl
  · rw [if_neg q] at h; exact h.1 rfl
theorem Hv_z0 {D : va_G} {ka : Nat → ClassId} {s : State} {e0 : Nat} : Hv D ka (z0 e0) s (fun q => s.heap.size ≤ q) (z0 e0) s.heap [] := by
  refine ⟨⟨[], fun a => ⟨fun h => (List.not_mem_nil h).elim, fun h => (no_z0 e0 a h).elim⟩, fun k q h => by simp [va_pl] at h, fun i j p q h => by simp [va_pl] at h, fun k q h => trivial⟩, va_S.rf, fun q h => ?_, ⟨Or.inr ⟨?_, ln_z0 _ _⟩, fun a h => ?_⟩, mono.rf _⟩
  · rcases h with h | h
    · exact (no_z0 e0 q h).elim
    · exact h
  · rw [es_z0, kd_z0, if_pos rfl]
  · rw [kd_z0] at h
    by_cases q : a = e0
    · rw [es_z0]; exact q
    · rw [if_neg q] at h; cases h
theorem ak_prim {args : Array Value} {s : State} {ty : FieldType} (h : (Cond.arrayClass ty).before args s = true) : ∃ cA : ClassId, ArrOfT s cA ty ∧ s.vm.findClass ("[" ++ ty.toString) = some cA := by
  obtain ⟨c, k, comp, h1, h2, h3⟩ := Cond.arrayClass_spec h
  exact ⟨c, fun n z => ⟨fun k h => (by cases h), k, h2, comp, h3⟩, h1⟩
theorem ak_obj {args : Array Value} {s : State} {C : String} (h : (Cond.arrayOver (.object C)).before args s = true) : ∃ cA : ClassId, ArrOfT s cA (.object C) ∧ va_RA s cA (.object C) := by
  obtain ⟨comp, c, k, h1, -, h2, h3, h4⟩ := Cond.arrayOver_spec h
  exact ⟨c, fun n z => ⟨fun k h => (by cases h), k, h2, comp, h3⟩, k, comp, h2, h3, h1, h4⟩
theorem ak_all {args : Array Value} {s : State} (hts : ∀ w ∈ lw_tbl, w.before args s = true) : ∃ ka : Nat → ClassId, ∀ (k : Nat) (q : ClassId × FieldType), (tyl ka)[k]? = some q → ArrOfT s q.1 q.2 ∧ va_RA s q.1 q.2 := by
  obtain ⟨c1, a1, b1⟩ := ak_prim (hts (.arrayClass .int) (by decide +kernel))
  obtain ⟨c2, a2, b2⟩ := ak_prim (hts (.arrayClass .byte) (by decide +kernel))
  obtain ⟨c3, a3, b3⟩ := ak_prim (hts (.arrayClass .long) (by decide +kernel))
  obtain ⟨c4, a4, b4⟩ := ak_obj (hts (.arrayOver (.object RX0)) (by decide +kernel))
  obtain ⟨c5, a5, b5⟩ := ak_obj (hts (.arrayOver (.object RX3)) (by decide +kernel))
  obtain ⟨c6, a6, b6⟩ := ak_obj (hts (.arrayOver (.object "java/lang/Object")) (by decide +kernel))
  refine ⟨fun t => match t with | 1 => c1 | 2 => c2 | 3 => c3 | 4 => c4 | 5 => c5 | _ => c6, fun k q h => ?_⟩
  match k, h with
  | 0, h => cases h; exact ⟨a1, b1⟩
  | 1, h => cases h; exact ⟨a2, b2⟩
  | 2, h => cases h; exact ⟨a3, b3⟩
  | 3, h => cases h; exact ⟨a4, b4⟩
  | 4, h => cases h; exact ⟨a5, b5⟩
  | 5, h => cases h; exact ⟨a6, b6⟩
  | k + 6, h => simp [tyl] at h
theorem ck_all {args : Array Value} {s : State} (hts : ∀ w ∈ lw_tbl, w.before args s = true) : ∃ D : va_G, ∀ (k : Nat) (q : vw_C), vwCl[k]? = some q → u_Kn s q.1 q.2.1 q.2.2 (D.1 k) (D.2 k) := by
  obtain ⟨c0, i0, h0⟩ := u_known (n := 3) hts (fun w h => (in_Jx4a65c w h).1) (hts (.instantiable RJx4a65c 3) (by decide +kernel))
  obtain ⟨c1, i1, h1⟩ := u_known (n := 4) hts (fun w h => (in_X0 w h).1) (hts (.instantiable RX0 4) (by decide +kernel))
  obtain ⟨c2, i2, h2⟩ := u_known (n := 5) hts (fun w h => (in_X1 w h).1) (hts (.instantiable RX1 5) (by decide +kernel))
  obtain ⟨c3, i3, h3⟩ := u_known (n := 2) hts (fun w h => (in_X2 w h).1) (hts (.instantiable RX2 2) (by decide +kernel))
  obtain ⟨c4, i4, h4⟩ := u_known (n := 2) hts (fun w h => (in_X3 w h).1) (hts (.instantiable RX3 2) (by decide +kernel))
  obtain ⟨c5, i5, h5⟩ := u_known (n := 5) hts (fun w h => (in_X4 w h).1) (hts (.instantiable RX4 5) (by decide +kernel))
  obtain ⟨c6, i6, h6⟩ := u_known (n := 6) hts (fun w h => (in_X6 w h).1) (hts (.instantiable RX6 6) (by decide +kernel))
  obtain ⟨c7, i7, h7⟩ := u_known (n := 26) hts (fun w h => (in_X7 w h).1) (hts (.instantiable RX7 26) (by decide +kernel))
  refine ⟨(fun t => match t with | 0 => c0 | 1 => c1 | 2 => c2 | 3 => c3 | 4 => c4 | 5 => c5 | 6 => c6 | _ => c7, fun t => match t with | 0 => i0 | 1 => i1 | 2 => i2 | 3 => i3 | 4 => i4 | 5 => i5 | 6 => i6 | _ => i7), fun k q h => ?_⟩
  match k, h with
  | 0, h => cases h; exact h0
  | 1, h => cases h; exact h1
  | 2, h => cases h; exact h2
  | 3, h => cases h; exact h3
  | 4, h => cases h; exact h4
  | 5, h => cases h; exact h5
  | 6, h => cases h; exact h6
  | 7, h => cases h; exact h7
  | k + 8, h => simp [vwCl] at h
abbrev tmE : Term := .static "java/util/ArrayList" "DEFAULTCAPACITY_EMPTY_ELEMENTDATA" "[Ljava/lang/Object;"
theorem st_all {b : Nat} {s : State} (hts : ∀ w ∈ lw_tbl, w.before #[Value.ref b] s = true) (hgv : (Jvm.Cond.and given_1 narrow_1).before #[Value.ref b] s = true) : (∃ e0, stx e0 (fun q => s.heap.size ≤ q) s s.heap) ∧ ∃ mi : Nat, va_Mi "[Ljava/lang/Object;" mi s := by
  have hs := flat_of_before _ hgv
  have h1 : (Cond.arrayOf tmE (.object "java/lang/Object")).before #[Value.ref b] s = true := hs _ (by decide +kernel)
  have h2 : (Cond.eq (.length tmE) (.int 0)).before #[Value.ref b] s = true := hs _ (by decide +kernel)
  have h3 : (Cond.isRef (.mirror "[Ljava/lang/Object;")).before #[Value.ref b] s = true := hs _ (by decide +kernel)
  have hA : ∀ a : Nat, a < s.heap.size → ¬ (fun q : Nat => s.heap.size ≤ q) a := fun a h => Nat.not_le.mpr h
  obtain ⟨t, ht, hT⟩ := va_Tof (N := 0) (f := fun _ => Value.null) (A := fun q => s.heap.size ≤ q) (by decide) h1 (va_eqt h2) (fun j hj => (Nat.not_lt_zero j hj).elim) hA
  exact ⟨⟨t, hT, va_Zref (hts (.laysStatic "java/util/ArrayList" "DEFAULTCAPACITY_EMPTY_ELEMENTDATA" "[Ljava/lang/Object;") (by decide +kernel)) (hts (.initialized "java/util/ArrayList") (by decide +kernel)) ht hA⟩, va_Mi.of h3⟩
set_option maxHeartbeats 400000 in
set_option maxRecDepth 100000 in
theorem whole_start {p : Program} {e : Env} {s : State} {m : MethodId} {below : List Frame} {meth : Method} {c : Code} (l : Launch) {b L : Nat} {xs : Nat → Int32} (hL : L ≤ 2560) (C0 : lw_At p s m meth c b L xs) : W p l e room_1 s m #[Value.ref b] below meth c s.heap [] 0 0 (lw_Z below #[Value.ref b] s) (entryFrame m ([Value.ref b] : List Value).toArray 4) := by
  obtain ⟨hx, hb, hr, hml, hown, hts, hX, hbl, hlocks, hgv⟩ := id C0
  obtain ⟨D, hD⟩ := ck_all hts
  obtain ⟨ka, hka⟩ := ak_all hts
  obtain ⟨⟨e0, hst⟩, hmi⟩ := st_all hts hgv
  have X : Cx p s m meth c cL_law 4 RL D ka (z0 e0) (fun q => s.heap.size ≤ q) := ⟨⟨hx, hb, hml, hown, hlocks⟩, ⟨tb.of hts, ⟨hD, hka⟩, hmi⟩, fun _ h => h, hst⟩
  have V0 : Hv D ka (z0 e0) s (fun q => s.heap.size ≤ q) (z0 e0) s.heap [] := Hv_z0
  have ap0 : ap (z0 e0) (z0 e0) := fun a h => (no_z0 e0 a h).elim
  have hl := lv_entry ([.ref b]) (n := 4) (Nat.le_of_ble_eq_true rfl)
  rw [lg_entry_eq]
  generalize (lg_sl ([.ref b]) ++ List.replicate (4 - (lg_sl ([.ref b])).length) Slot.unset).toArray = ls at hl ⊢
  have hl : lv_has ls 4 [(0, .ref b)] := hl
  refine r_new2 X V0 V0 ap0 (C := RX6) (T := TX6) (N := 6) (ci := 6) (k := 7) (fs := [.null, .null, .null, .null, .null, .int 0]) rfl in_X6 tyX6 tyX6_ok wl_179 wl_180 wl_2 (by decide) (by decide) (by decide +kernel) (fun q => ?_) (show 0 + 1 ≤ 600000 by omega) (show 0 + 6 ≤ 7302250 by omega) dL_law_0 (fun g H hg0 Vc V0 hap => ?_)
  · obtain ⟨e1, -, e3, e4, e5, -⟩ := snw_F (ka := ka) (S := z0 e0) (q := q) (k := 7) (n := 0)
    rw [wF_7 e1]
    simp only [e3, e4, e5] <;> rfl
  have hkg : kd (snw (z0 e0) g 7 0) g = 7 := by rw [kd_nw, if_pos rfl]
  have hge : ¬ e0 = g := fun q => by rw [kd_z0, if_pos q.symm] at hg0; cases hg0
  have hes : kd (snw (z0 e0) g 7 0) (es (snw (z0 e0) g 7 0)) = 224 ∧ ln (snw (z0 e0) g 7 0) (es (snw (z0 e0) g 7 0)) = 0 := by
    rw [es_nw, es_z0, kd_nw, ln_nw, if_neg hge, if_neg hge, kd_z0, if_pos rfl]
    exact ⟨rfl, ln_z0 _ _⟩
  refine lv_dup X.1.1 X.1.2.1 dL_law_3 rfl ?_
  refine r_callI2 (n := 0) (As := []) X Vc V0 hap (sd_X6_init l D ka _ (snw (z0 e0) g 7 0) (fun _ S' => ∃ G, RC S' g G T0) g (c_init hkg hes (fun S' G h => ⟨G, h⟩))) wl_181 wl_182 wl_2 wl_183 rfl rfl rfl (by decide +kernel) ⟨Nat.le_of_ble_eq_true rfl, Nat.le_of_ble_eq_true rfl⟩ rfl hl.1 rfl (Nat.le_of_ble_eq_true rfl) dL_law_4 ⟨show 0 + 1 + 36 ≤ 600000 by omega, show 0 + 6 + 299 ≤ 7302250 by omega⟩ (fun r Sc H locs hC Vc V0 hap => ?_)
  obtain ⟨G, hC⟩ := hC
  refine lv_astore_n (lv' := [(1, .ref g), (0, .ref b)]) X.1.1 X.1.2.1 dL_law_7 rfl hl (by decide) rfl (fun ls hl => ?_)
  refine r_new2 X V0 Vc hap.sym (C := RX7) (T := TX7) (N := 26) (ci := 7) (k := 8) (fs := [.int 0, .int 0, .null, .null, .null, .null, .null, .null, .null, .null, .null, .null, .null, .null, .null, .null, .int 0, .null, .null, .null, .int 0, .null, .null, .int 0, .null, .int 0]) rfl in_X7 tyX7 tyX7_ok wl_184 wl_185 wl_7 (by decide) (by decide) (by decide +kernel) (fun q => ?_) (show 0 + 1 + 36 + 1 ≤ 600000 by omega) (show 0 + 6 + 299 + 26 ≤ 7302250 by omega) dL_law_8 (fun o H ho0 Vr Vc hap => ?_)
  · obtain ⟨e1, -, e3, e4, e5, -⟩ := snw_F (ka := ka) (S := z0 e0) (q := q) (k := 8) (n := 0)
    rw [wF_8 e1]
    simp only [e3, e4, e5] <;> rfl
  have hko : kd (snw (z0 e0) o 8 0) o = 8 := by rw [kd_nw, if_pos rfl]
  have h43 : fi (snw (z0 e0) o 8 0) 43 o = 0 := by rw [fi_nw, if_pos rfl]
  refine lv_dup X.1.1 X.1.2.1 dL_law_11 rfl ?_
  refine r_callI2 (n := 0) (As := []) X Vr Vc hap (sd_X7_init l D ka _ (snw (z0 e0) o 8 0) (fun _ S' => ∃ R, RV S' o R T0) o (v_init hko h43 (fun R S' h => ⟨R, h⟩))) wl_186 wl_187 wl_7 wl_188 rfl rfl rfl (by decide +kernel) ⟨Nat.le_of_ble_eq_true rfl, Nat.le_of_ble_eq_true rfl⟩ rfl hl.1 rfl (Nat.le_of_ble_eq_true rfl) dL_law_12 ⟨show 0 + 1 + 36 + 1 + 20 ≤ 600000 by omega, show 0 + 6 + 299 + 26 + 30681 ≤ 7302250 by omega⟩ (fun r2 Sr H locs hV Vr Vc hap => ?_)
  obtain ⟨R, hV⟩ := hV
  refine lv_astore_n (lv' := [(2, .ref o), (1, .ref g), (0, .ref b)]) X.1.1 X.1.2.1 dL_law_15 rfl hl (by decide) rfl (fun ls hl => ?_)
  refine lv_iconst (v := 0) X.1.1 X.1.2.1 dL_law_16 (by decide) ?_
  refine lv_istore_n (lv' := [(3, .int 0), (2, .ref o), (1, .ref g), (0, .ref b)]) X.1.1 X.1.2.1 dL_law_17 rfl hl (by decide) rfl (fun ls hl => ?_)
  refine W.widen (k := 100 + 0 * 44) (n := 31100 + 0 * 2247) (by omega) (by omega) ?_
  exact law_loop l hr X hX hbl hL (L + 1) 0 T0 H locs ls (by omega) (by omega) ⟨Sc, Sr, G, Vc, Vr, hap.sym, hC, hV, OkT0⟩ (by rw [Nat.mul_zero, nI_0]; exact hl)
