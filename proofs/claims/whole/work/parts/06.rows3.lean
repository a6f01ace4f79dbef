/-! ===== references into arrays, casts, statics, calls ===== -/
/-- the name of a kind of objects -/
def knm (k : Nat) : String := match k with | 1 => RJx4a65c | 2 => RX0 | 3 => RX1 | 4 => RX2 | 5 => RX3 | 6 => RX4 | 7 => RX6 | _ => RX7
theorem wF_ob {ka : Nat → ClassId} {S : HS} {a : Nat} (h1 : 1 ≤ kd S a) (h8 : kd S a ≤ 8) : ∃ (r : vw_C) (fs : List Value), wF ka S a = .inr (kd S a - 1, fs) ∧ vwCl[kd S a - 1]? = some r ∧ r.1 = knm (kd S a) := by
  rcases (show kd S a = 1 ∨ kd S a = 2 ∨ kd S a = 3 ∨ kd S a = 4 ∨ kd S a = 5 ∨ kd S a = 6 ∨ kd S a = 7 ∨ kd S a = 8 by omega) with h | h | h | h | h | h | h | h
  · exact ⟨_, _, by rw [wF_1 h, h], by rw [h]; rfl, by rw [h]; rfl⟩
  · exact ⟨_, _, by rw [wF_2 h, h], by rw [h]; rfl, by rw [h]; rfl⟩
  · exact ⟨_, _, by rw [wF_3 h, h], by rw [h]; rfl, by rw [h]; rfl⟩
  · exact ⟨_, _, by rw [wF_4 h, h], by rw [h]; rfl, by rw [h]; rfl⟩
  · exact ⟨_, _, by rw [wF_5 h, h], by rw [h]; rfl, by rw [h]; rfl⟩
  · exact ⟨_, _, by rw [wF_6 h, h], by rw [h]; rfl, by rw [h]; rfl⟩
  · exact ⟨_, _, by rw [wF_7 h, h], by rw [h]; rfl, by rw [h]; rfl⟩
  · exact ⟨_, _, by rw [wF_8 h, h], by rw [h]; rfl, by rw [h]; rfl⟩
theorem cast_in : ∀ k, 2 ≤ k → k ≤ 8 → Cond.castable (knm k) "java/lang/Object" ∈ lw_tbl := by
  intro k h1 h2
  rcases (show k = 2 ∨ k = 3 ∨ k = 4 ∨ k = 5 ∨ k = 6 ∨ k = 7 ∨ k = 8 by omega) with rfl | rfl | rfl | rfl | rfl | rfl | rfl <;> decide +kernel
section RZ
variable {p : Program} {l : Launch} {e : Env} {R : Room} {s : State} {m : MethodId} {args : Array Value} {below : List Frame} {meth : Method} {c : Code} {H : Heap} {locs : List Loc} {cells slots : Nat} {Q : State → Prop}
variable {cc : ByteArray} {nL : Nat} {own : String} {D : va_G} {ka : Nat → ClassId} {Z : HS} {A : Nat → Prop} {S : HS} {pc : Nat} {ls : Array Slot} {rest : List Value} {a : Nat}
/-- an object of the view: its cell, its class -/
theorem Hv.recv (X : Cx p s m meth c cc nL own D ka Z A) (V : Hv D ka Z s A S H locs) (h1 : 1 ≤ kd S a) (h8 : kd S a ≤ 8) : ∃ cell : Cell, H[a]? = some cell ∧ cell.vm.isStatics = false ∧ s.vm.findClass (knm (kd S a)) = some cell.cls := by
  obtain ⟨ws, q0, hP, hq⟩ := V.at (a := a) ⟨by omega, by omega⟩
  obtain ⟨r, fs, e1, e2, e3⟩ := wF_ob (ka := ka) h1 h8
  rw [e1] at hq
  have := va_recv X.2.1.2.1 hP e2 hq
  rw [e3] at this
  exact this
theorem Hv.any (X : Cx p s m meth c cc nL own D ka Z A) (V : Hv D ka Z s A S H locs) {v : Nat} (h1 : 2 ≤ kd S v) (h8 : kd S v ≤ 8) : va_Any "java/lang/Object" s H v := by
  obtain ⟨cell, g1, g2, g3⟩ := V.recv X (a := v) (by omega) h8
  obtain ⟨kC, hkC, -⟩ := Vm.findClass_spec g3
  exact ⟨cell, g1, g2, ⟨kC, hkC⟩, fun comp h => vb_asgC (X.w (cast_in _ h1 h8) rfl #[]) comp _ h g3⟩
theorem Hv.anyS (X : Cx p s m meth c cc nL own D ka Z A) (V : Hv D ka Z s A S H locs) {v : Nat} (h1 : 1 ≤ kd S v) (h8 : kd S v ≤ 8) : va_Any (knm (kd S v)) s H v := by
  obtain ⟨cell, g1, g2, g3⟩ := V.recv X (a := v) h1 h8
  obtain ⟨kC, hkC, -⟩ := Vm.findClass_spec g3
  exact ⟨cell, g1, g2, ⟨kC, hkC⟩, fun comp h => vb_asgS comp _ h g3⟩
/-- aastore of an object: into Object[] (kinds 2 .. 8), Endpoint[], Row[] -/
theorem r_aast (X : Cx p s m meth c cc nL own D ka Z A) (V : Hv D ka Z s A S H locs) {v : Nat} (hk : (kd S a / 32 = 6 ∧ 2 ≤ kd S v ∧ kd S v ≤ 8) ∨ (kd S a / 32 = 4 ∧ kd S v = 2) ∨ (kd S a / 32 = 5 ∧ kd S v = 5)) {i : Int32} (hi : vp_in i (ln S a)) (hdg : decode cc pc = .ok (.aastore, 1)) (kk : ∀ (H1 : Heap) (locs1 : List Loc), Hv D ka Z s A (sar S a i.toNatClampNeg (some v)) H1 locs1 → W p l e R s m args below meth c H1 locs1 cells slots Q (F0 m (pc + 1) ls rest)) : W p l e R s m args below meth c H locs cells slots Q (F0 m pc ls (.ref v :: .int i :: .ref a :: rest)) := by
  obtain ⟨⟨L, hL, hP, hD⟩, hS, -⟩ := id V
  have hD2 := V.apart hL hD
  have hm := (hL a).mpr (by rcases hk with h | h | h <;> exact k_of h.1 (by decide) (by decide))
  obtain ⟨q0, hq⟩ := va_pl_get (X := []) (f := wF ka S) hm
  rcases hk with ⟨hk, h1, h2⟩ | ⟨hk, h1⟩ | ⟨hk, h1⟩
  · refine va_astqM X.1.1 X.1.2.1 X.2.1.2.1 hP hD2 hS q0 5 (hq.trans (by rw [wF_aO hk])) rfl (V.any X h1 h2) hi hdg (fun H1 locs1 hP1 hD1 hS1 => kk H1 locs1 (Hv.set X V rfl rfl rfl (fun b hb => wF_sar hb) ?_ hL hm hD2 hq hP1 hD1 hS1))
    rw [wF_aO (S := sar S a i.toNatClampNeg (some v)) hk]
    show Sum.inl (ka 6, ln S a, Sum.inr (Sum.inr (Sum.inr (Sum.inr (va_up (ar S) a (va_up (ar S a) i.toNatClampNeg (some v)) a))))) = _
    rw [va_up_self]
  · refine va_astqM X.1.1 X.1.2.1 X.2.1.2.1 hP hD2 hS q0 3 (E := RX0) (hq.trans (by rw [wF_aE hk])) rfl (by have := V.anyS X (v := v) (by omega) (by omega); rw [h1] at this; exact this) hi hdg (fun H1 locs1 hP1 hD1 hS1 => kk H1 locs1 (Hv.set X V rfl rfl rfl (fun b hb => wF_sar hb) ?_ hL hm hD2 hq hP1 hD1 hS1))
    rw [wF_aE (S := sar S a i.toNatClampNeg (some v)) hk]
    show Sum.inl (ka 4, ln S a, Sum.inr (Sum.inr (Sum.inr (Sum.inr (va_up (ar S) a (va_up (ar S a) i.toNatClampNeg (some v)) a))))) = _
    rw [va_up_self]
  · refine va_astqM X.1.1 X.1.2.1 X.2.1.2.1 hP hD2 hS q0 4 (E := RX3) (hq.trans (by rw [wF_aR hk])) rfl (by have := V.anyS X (v := v) (by omega) (by omega); rw [h1] at this; exact this) hi hdg (fun H1 locs1 hP1 hD1 hS1 => kk H1 locs1 (Hv.set X V rfl rfl rfl (fun b hb => wF_sar hb) ?_ hL hm hD2 hq hP1 hD1 hS1))
    rw [wF_aR (S := sar S a i.toNatClampNeg (some v)) hk]
    show Sum.inl (ka 5, ln S a, Sum.inr (Sum.inr (Sum.inr (Sum.inr (va_up (ar S) a (va_up (ar S a) i.toNatClampNeg (some v)) a))))) = _
    rw [va_up_self]
/-- aastore of null -/
theorem r_aastN (X : Cx p s m meth c cc nL own D ka Z A) (V : Hv D ka Z s A S H locs) (hk : kd S a / 32 = 6 ∨ kd S a / 32 = 4 ∨ kd S a / 32 = 5) {i : Int32} (hi : vp_in i (ln S a)) (hdg : decode cc pc = .ok (.aastore, 1)) (kk : ∀ (H1 : Heap) (locs1 : List Loc), Hv D ka Z s A (sar S a i.toNatClampNeg none) H1 locs1 → W p l e R s m args below meth c H1 locs1 cells slots Q (F0 m (pc + 1) ls rest)) : W p l e R s m args below meth c H locs cells slots Q (F0 m pc ls (.null :: .int i :: .ref a :: rest)) := by
  obtain ⟨⟨L, hL, hP, hD⟩, hS, -⟩ := id V
  have hD2 := V.apart hL hD
  have hm := (hL a).mpr (by rcases hk with h | h | h <;> exact k_of h (by decide) (by decide))
  obtain ⟨q0, hq⟩ := va_pl_get (X := []) (f := wF ka S) hm
  rcases hk with hk | hk | hk
  · refine va_astqN X.1.1 X.1.2.1 X.2.1.2.1 hP hD2 hS q0 5 (hq.trans (by rw [wF_aO hk])) rfl hi hdg (fun H1 locs1 hP1 hD1 hS1 => kk H1 locs1 (Hv.set X V rfl rfl rfl (fun b hb => wF_sar hb) ?_ hL hm hD2 hq hP1 hD1 hS1))
    rw [wF_aO (S := sar S a i.toNatClampNeg none) hk]
    show Sum.inl (ka 6, ln S a, Sum.inr (Sum.inr (Sum.inr (Sum.inr (va_up (ar S) a (va_up (ar S a) i.toNatClampNeg none) a))))) = _
    rw [va_up_self]
  · refine va_astqN X.1.1 X.1.2.1 X.2.1.2.1 hP hD2 hS q0 3 (C := RX0) (hq.trans (by rw [wF_aE hk])) rfl hi hdg (fun H1 locs1 hP1 hD1 hS1 => kk H1 locs1 (Hv.set X V rfl rfl rfl (fun b hb => wF_sar hb) ?_ hL hm hD2 hq hP1 hD1 hS1))
    rw [wF_aE (S := sar S a i.toNatClampNeg none) hk]
    show Sum.inl (ka 4, ln S a, Sum.inr (Sum.inr (Sum.inr (Sum.inr (va_up (ar S) a (va_up (ar S a) i.toNatClampNeg none) a))))) = _
    rw [va_up_self]
  · refine va_astqN X.1.1 X.1.2.1 X.2.1.2.1 hP hD2 hS q0 4 (C := RX3) (hq.trans (by rw [wF_aR hk])) rfl hi hdg (fun H1 locs1 hP1 hD1 hS1 => kk H1 locs1 (Hv.set X V rfl rfl rfl (fun b hb => wF_sar hb) ?_ hL hm hD2 hq hP1 hD1 hS1))
    rw [wF_aR (S := sar S a i.toNatClampNeg none) hk]
    show Sum.inl (ka 5, ln S a, Sum.inr (Sum.inr (Sum.inr (Sum.inr (va_up (ar S) a (va_up (ar S a) i.toNatClampNeg none) a))))) = _
    rw [va_up_self]
/-- checkcast to the object's own kind -/
theorem r_cast (X : Cx p s m meth c cc nL own D ka Z A) (V : Hv D ka Z s A S H locs) {k index : Nat} (hk : kd S a = k) (h1 : 1 ≤ k) (h8 : k ≤ 8) (hl : Cond.classLink own index (knm k) ∈ lw_tbl) (hdg : decode cc pc = .ok (.checkcast index, 3)) (kk : W p l e R s m args below meth c H locs cells slots Q (F0 m (pc + 3) ls (.ref a :: rest))) : W p l e R s m args below meth c H locs cells slots Q (F0 m pc ls (.ref a :: rest)) := by
  subst hk
  obtain ⟨r, fs, e1, e2, e3⟩ := wF_ob (ka := ka) h1 h8
  have hat := (X.2.1.2.1.1 _ _ e2).2
  rw [e3] at hat
  exact va_castS X.1.1 X.1.2.1 X.1.2.2.2.1 (X.w hl rfl args) hat (V.recv X h1 h8) hdg kk
/-- the JDK's empty array -/
theorem r_gets (X : Cx p s m meth c cc nL own D ka Z A) (V : Hv D ka Z s A S H locs) {index : Nat} (hl : Cond.fieldLink own index "java/util/ArrayList" "DEFAULTCAPACITY_EMPTY_ELEMENTDATA" "[Ljava/lang/Object;" ∈ lw_tbl) (hdg : decode cc pc = .ok (.getstatic index, 3)) (kk : W p l e R s m args below meth c H locs cells slots Q (F0 m (pc + 3) ls (.ref (es S) :: rest))) : W p l e R s m args below meth c H locs cells slots Q (F0 m pc ls rest) := by
  rw [V.2.2.2.2.2] at kk
  exact va_gets X.1.1 X.1.2.1 X.2.2.2.2 V.2.1 X.1.2.2.2.1 (X.w hl rfl args) (fun _ h => h) hdg kk
end RZ
/-! ===== contracts ===== -/
def Px (D : va_G) (ka : Nat → ClassId) (S : HS) (sz : Nat) (av : List Value) : Array Value → State → Prop := va_Pc av (fun U => U.heap.size = sz ∧ okS D ka U ∧ vw D ka S U.heap ∧ ro S ∧ stx (es S) (fA S sz) U U.heap)
def Qx {α : Type} (enc : α → Option Value) (post : α → HS → Prop) (D : va_G) (ka : Nat → ClassId) (S : HS) (sz : Nat) : Array Value → State → Outcome → State → Prop := fun _ st oc t => (∃ (r : α) (S' : HS), oc = .returned (enc r) ∧ post r S' ∧ mono S S' ∧ dm S S' sz ∧ ro S' ∧ vw D ka S' t.heap) ∧ va_F (fA S sz) st t
abbrev eV : Unit → Option Value := fun _ => none
abbrev eI : Int32 → Option Value := fun r => some (.int r)
abbrev eL : Int64 → Option Value := fun r => some (.long r)
abbrev eR : Option Nat → Option Value := fun r => some (va_rf r)
theorem va_T.at {ty : FieldType} {t N : Nat} {f : Nat → Value} {A B : Nat → Prop} {s U : State} {H : Heap} (h : va_T ty t N f A s s.heap) (hvm : s.vm.Alike U.vm) (hH : ∀ q, q < s.heap.size → ¬ A q → H[q]? = s.heap[q]?) (hB : ∀ q, B q → A q) : va_T ty t N f B U H := by
  obtain ⟨cell, h1, h2, h3, h4, h5, h6, h7⟩ := h
  exact ⟨cell, by rw [hH t (Array.getElem?_eq_some_iff.mp h1).1 h7]; exact h1, State.isArrayOf_alike hvm h2, h3, h4, h5, h6, fun q => h7 (hB t q)⟩
theorem stx.at {e0 : Nat} {A B : Nat → Prop} {s U : State} {H : Heap} (h : stx e0 A s s.heap) (hvm : s.vm.Alike U.vm) (hH : ∀ q, q < s.heap.size → ¬ A q → H[q]? = s.heap[q]?) (hB : ∀ q, B q → A q) : stx e0 B U H := by
  refine ⟨h.1.at hvm hH hB, ?_⟩
  have h2 := va_Z.moved hvm h.2
  obtain ⟨cf, kf, fi, f, a, cell, g1, g2, g3, g4, g5, g6, g7, g8⟩ := h2
  exact ⟨cf, kf, fi, f, a, cell, g1, g2, g3, g4, by rw [hH a (Array.getElem?_eq_some_iff.mp g5).1 g8]; exact g5, g6, g7, fun q => g8 (hB a q)⟩
theorem okS.warm {D : va_G} {ka : Nat → ClassId} {s U : State} (hW : s.WarmedH U.vm) (h : okS D ka s) : okS D ka U := ⟨h.1.warm hW, va_K.moved hW.alike h.2.1, by obtain ⟨mi, hm⟩ := h.2.2; exact ⟨mi, hm.moved hW.alike⟩⟩
theorem Px.blind {D : va_G} {ka : Nat → ClassId} {S : HS} {sz : Nat} {av : List Value} : FrameBlind (Px D ka S sz av) := by
  intro a U g mk h
  obtain ⟨h1, h2, h3, h4, h5, h6⟩ := h
  have hw : U.WarmedH (U.calling g mk a).vm := State.WarmedH.refl U
  exact ⟨h1, h2, h3.warm hw, h4, h5, h6.at hw.alike (fun _ _ _ => rfl) (fun _ h => h)⟩
section RC
variable {p : Program} {l : Launch} {e : Env} {R : Room} {s : State} {m : MethodId} {args : Array Value} {below : List Frame} {meth : Method} {c : Code} {H : Heap} {locs : List Loc} {cells slots : Nat} {Q : State → Prop}
variable {cc : ByteArray} {nL : Nat} {own : String} {D : va_G} {ka : Nat → ClassId} {Z : HS} {A : Nat → Prop} {S : HS} {pc : Nat} {ls : Array Slot} {rest st0 : List Value} {a : Nat}
/-- the start of a method -/
theorem Cx.entry {y : MethodName} {ws : List Cond} {rm : Room} {maxL : Nat} {ret : Option FieldType} {s₁ : State} {av : List Value} {sz : Nat} (B : BodyLoose p l y (headSpec ws rm) cc maxL ret e s m args below meth c s₁) (hml : c.maxLocals = maxL) (h : Px D ka S sz av args s) : args = av.toArray ∧ Cx p s m meth c cc maxL y.cls D ka S (fA S sz) ∧ Hv D ka S s (fA S sz) S s.heap [] ∧ s.heap.size = sz := by
  obtain ⟨h1, h2, h3, h4, h5, h6⟩ := h
  subst h2
  exact ⟨h1, ⟨⟨B.exec, B.bytes, hml, findClass_of_methodNamed B.named, B.notSynchronized⟩, h3, fun q h => Or.inr h, h6⟩, ⟨h4, va_S.rf, fun _ h => h, h5, mono.rf S⟩, rfl⟩
/-- the end of a method -/
theorem Hv.q {α : Type} {enc : α → Option Value} {post : α → HS → Prop} {r : α} {sz : Nat} {t : State} (V : Hv D ka Z s (fA Z sz) S H locs) (hp : post r S) (ht : t.heap = H) : Qx enc post D ka Z sz args s (.returned (enc r)) t :=
  ⟨⟨r, S, rfl, hp, V.2.2.2.2, fun a h0 h1 => V.2.2.1 a (Or.inl ⟨h0, h1⟩), V.2.2.2.1, by rw [ht]; exact V.1⟩, V.2.1.F ht⟩
/-- what a callee finds -/
theorem Hv.px (X : Cx p s m meth c cc nL own D ka Z A) (V : Hv D ka Z s A S H locs) {av : List Value} {U : State} (hU : U.heap = H) (hW : s.WarmedH U.vm) : Px D ka S H.size av av.toArray U := by
  subst hU
  refine ⟨rfl, rfl, X.2.1.warm hW, V.1, V.2.2.2.1, ?_⟩
  rw [V.2.2.2.2.2]
  exact X.2.2.2.at hW.alike (fun q h1 h2 => V.2.1.2.1 q h1 h2) V.2.2.1
/-- behind a call -/
theorem r_call {α : Type} {enc : α → Option Value} {post : α → HS → Prop} {mc ms : Nat} {av : Array Value} (X : Cx p s m meth c cc nL own D ka Z A) (V : Hv D ka Z s A S H locs) (hr : va_Run p l e R s m args below meth c H locs cells slots mc ms (F0 m pc ls st0) rest (Qx enc post D ka S H.size av) (fA S H.size))
    (kk : ∀ (r : α) (S' : HS) (H1 : Heap) (locs1 : List Loc), post r S' → mono S S' → Hv D ka Z s A S' H1 locs1 → W p l e R s m args below meth c H1 locs1 (cells + mc) (slots + ms) Q (F0 m (pc + 3) ls ((enc r).toList ++ rest))) : W p l e R s m args below meth c H locs cells slots Q (F0 m pc ls st0) := by
  intro T hT Y
  obtain ⟨v, st₀, t, T', L, h0, Y', hL, e1, e2, ⟨⟨r, S', hv, hp, hm, hd, hro, hvw⟩, hz, hk⟩, st⟩ := hr T hT Y
  cases hv
  rw [h0] at hz hk
  have hS := V.2.1
  have hA := V.2.2.1
  have hS1 : va_S A s.heap T'.heap (locs ++ L) := ⟨Nat.le_trans hS.1 (by rw [e1]; exact hz), fun q h1 h2 => by rw [e1, hk q (Nat.lt_of_lt_of_le h1 hS.1) (fun z => h2 (hA q z))]; exact hS.2.1 q h1 h2, fun q hq => by
      rcases List.mem_append.mp hq with h | h
      · exact hS.2.2 q h
      · exact hA _ (hL q h)⟩
  have V' : Hv D ka Z s A S' T'.heap (locs ++ L) := ⟨by rw [e1]; exact hvw, hS1, fun q h => by
      rcases h with h | h
      · exact hA q (hd q h.1 h.2)
      · exact X.2.2.1 q (Nat.le_trans hS1.1 h), hro, V.2.2.2.2.tr hm⟩
  obtain ⟨t2, a1, b1⟩ := kk r S' T'.heap (locs ++ L) hp hm V' T' rfl Y'
  exact ⟨t2, st t2 a1, b1⟩
/-- the words of a call: the callee's contract asks its own code alone -/
theorem cb_of {y : MethodName} {bytes : ByteArray} {maxL index mc ms n : Nat} {ret : Option FieldType} {rm : Room} (X : Cx p s m meth c cc nL own D ka Z A) (hc : Cond.code y bytes maxL ret ∈ lw_tbl) (hl : Cond.methodLink own index y ∈ lw_tbl) (hi : Cond.initialized y.cls ∈ lw_tbl) (hrc : rm.cells = mc) (hrs : rm.slots = ms) (hd : y.cls ≠ "java/lang/invoke/MethodHandle" ∧ y.cls ≠ "java/lang/invoke/VarHandle" ∧ (parseMethodDescriptor y.desc).map (fun d => d.parameters.length) = some n) (hR : rm.frames + 1 ≤ R.frames ∧ 8 + (maxL + 11) + rm.locals ≤ R.locals) : CallB R s args own index y bytes maxL ret [Cond.code y bytes maxL ret] rm mc ms n :=
  callB_of (Ts := [Cond.code y bytes maxL ret]) n (fun w h => by rw [List.mem_singleton.mp h]; exact X.w hc rfl args) (fun w h => ⟨h, by rw [List.mem_singleton.mp h]; exact Or.inl rfl⟩) rfl hrc hrs (X.w hi rfl args) (X.w hl rfl args) hd hR
theorem r_callV {α : Type} {enc : α → Option Value} {post : α → HS → Prop} {y : MethodName} {bytes : ByteArray} {maxL index mc ms n k : Nat} {ret : Option FieldType} {rm : Room} {As : List Value} (X : Cx p s m meth c cc nL own D ka Z A) (V : Hv D ka Z s A S H locs) (hM : Met l y [Cond.code y bytes maxL ret] rm (Px D ka S H.size (.ref a :: As)) (Qx enc post D ka S H.size) mc ms (fA S H.size)) (hk : kd S a = k) (h1 : 1 ≤ k) (h8 : k ≤ 8) (hyk : y.cls = knm k)
    (hc : Cond.code y bytes maxL ret ∈ lw_tbl) (hl : Cond.methodLink own index y ∈ lw_tbl) (hi : Cond.initialized y.cls ∈ lw_tbl) (hin : Cond.instanceMethod y ∈ lw_tbl) (hse : Cond.selects (knm k) y y ∈ lw_tbl) (hrc : rm.cells = mc) (hrs : rm.slots = ms) (hd : y.cls ≠ "java/lang/invoke/MethodHandle" ∧ y.cls ≠ "java/lang/invoke/VarHandle" ∧ (parseMethodDescriptor y.desc).map (fun d => d.parameters.length) = some n) (hR : rm.frames + 1 ≤ R.frames ∧ 8 + (maxL + 11) + rm.locals ≤ R.locals) (hn : As.length = n) (hsz : ls.size = nL) (hst : st0 = As.reverse ++ .ref a :: rest) (hrest : (rest.map fun v => v.category).sum ≤ 8) (hdg : decode cc pc = .ok (.invokevirtual index, 3)) (hf : cells + mc ≤ R.cells ∧ slots + ms ≤ R.slots)
    (kk : ∀ (r : α) (S' : HS) (H1 : Heap) (locs1 : List Loc), post r S' → mono S S' → Hv D ka Z s A S' H1 locs1 → W p l e R s m args below meth c H1 locs1 (cells + mc) (slots + ms) Q (F0 m (pc + 3) ls ((enc r).toList ++ rest))) : W p l e R s m args below meth c H locs cells slots Q (F0 m pc ls st0) := by
  subst hk
  refine r_call X V (va_runV (Ts := []) (C := knm (kd S a)) (g := F0 m pc ls st0) (As := As) (rest := rest) ⟨X.1.1, X.1.2.1, X.1.2.2.1, X.1.2.2.2.1, fun _ h => absurd h List.not_mem_nil⟩ hM ⟨cb_of X hc hl hi hrc hrs hd hR, X.w hin rfl args, X.w hse rfl args⟩ ⟨Px.blind, V.recv X h1 h8, fun U hU hW => V.px X hU hW⟩ rfl hn hsz hst (lv_room hrest) hdg hf) kk
theorem r_callI {α : Type} {enc : α → Option Value} {post : α → HS → Prop} {y : MethodName} {bytes : ByteArray} {maxL index mc ms n : Nat} {rm : Room} {As : List Value} (X : Cx p s m meth c cc nL own D ka Z A) (V : Hv D ka Z s A S H locs) (hM : Met l y [Cond.code y bytes maxL none] rm (Px D ka S H.size (.ref a :: As)) (Qx enc post D ka S H.size) mc ms (fA S H.size))
    (hc : Cond.code y bytes maxL none ∈ lw_tbl) (hl : Cond.methodLink own index y ∈ lw_tbl) (hi : Cond.initialized y.cls ∈ lw_tbl) (hin : Cond.instanceMethod y ∈ lw_tbl) (hy1 : y.name = "<init>") (hrc : rm.cells = mc) (hrs : rm.slots = ms) (hd : y.cls ≠ "java/lang/invoke/MethodHandle" ∧ y.cls ≠ "java/lang/invoke/VarHandle" ∧ (parseMethodDescriptor y.desc).map (fun d => d.parameters.length) = some n) (hR : rm.frames + 1 ≤ R.frames ∧ 8 + (maxL + 11) + rm.locals ≤ R.locals) (hn : As.length = n) (hsz : ls.size = nL) (hst : st0 = As.reverse ++ .ref a :: rest) (hrest : (rest.map fun v => v.category).sum ≤ 8) (hdg : decode cc pc = .ok (.invokespecial index, 3)) (hf : cells + mc ≤ R.cells ∧ slots + ms ≤ R.slots)
    (kk : ∀ (r : α) (S' : HS) (H1 : Heap) (locs1 : List Loc), post r S' → mono S S' → Hv D ka Z s A S' H1 locs1 → W p l e R s m args below meth c H1 locs1 (cells + mc) (slots + ms) Q (F0 m (pc + 3) ls ((enc r).toList ++ rest))) : W p l e R s m args below meth c H locs cells slots Q (F0 m pc ls st0) := by
  refine r_call X V (va_runI (Ts := []) (g := F0 m pc ls st0) (b := a) (As := As) (rest := rest) ⟨X.1.1, X.1.2.1, X.1.2.2.1, X.1.2.2.2.1, fun _ h => absurd h List.not_mem_nil⟩ hM ⟨cb_of X hc hl hi hrc hrs hd hR, hy1, X.w hin rfl args⟩ ⟨Px.blind, fun U hU hW => V.px X hU hW⟩ rfl hn hsz hst (lv_room hrest) hdg hf) kk
theorem r_callS {α : Type} {enc : α → Option Value} {post : α → HS → Prop} {y : MethodName} {bytes : ByteArray} {maxL index mc ms n : Nat} {ret : Option FieldType} {rm : Room} {As : List Value} (X : Cx p s m meth c cc nL own D ka Z A) (V : Hv D ka Z s A S H locs) (hM : Met l y [Cond.code y bytes maxL ret] rm (Px D ka S H.size As) (Qx enc post D ka S H.size) mc ms (fA S H.size))
    (hc : Cond.code y bytes maxL ret ∈ lw_tbl) (hl : Cond.methodLink own index y ∈ lw_tbl) (hi : Cond.initialized y.cls ∈ lw_tbl) (hst1 : Cond.static y ∈ lw_tbl) (hrc : rm.cells = mc) (hrs : rm.slots = ms) (hd : y.cls ≠ "java/lang/invoke/MethodHandle" ∧ y.cls ≠ "java/lang/invoke/VarHandle" ∧ (parseMethodDescriptor y.desc).map (fun d => d.parameters.length) = some n) (hR : rm.frames + 1 ≤ R.frames ∧ 8 + (maxL + 11) + rm.locals ≤ R.locals) (hn : As.length = n) (hsz : ls.size = nL) (hst : st0 = As.reverse ++ rest) (hrest : (rest.map fun v => v.category).sum ≤ 8) (hdg : decode cc pc = .ok (.invokestatic index, 3)) (hf : cells + mc ≤ R.cells ∧ slots + ms ≤ R.slots)
    (kk : ∀ (r : α) (S' : HS) (H1 : Heap) (locs1 : List Loc), post r S' → mono S S' → Hv D ka Z s A S' H1 locs1 → W p l e R s m args below meth c H1 locs1 (cells + mc) (slots + ms) Q (F0 m (pc + 3) ls ((enc r).toList ++ rest))) : W p l e R s m args below meth c H locs cells slots Q (F0 m pc ls st0) := by
  refine r_call X V (va_runS (Ts := []) (g := F0 m pc ls st0) (As := As) (rest := rest) ⟨X.1.1, X.1.2.1, X.1.2.2.1, X.1.2.2.2.1, fun _ h => absurd h List.not_mem_nil⟩ hM ⟨cb_of X hc hl hi hrc hrs hd hR, X.w hst1 rfl args⟩ ⟨Px.blind, fun U hU hW => V.px X hU hW⟩ rfl hn hsz hst (lv_room hrest) hdg hf) kk
end RC
