/-! ===== new cells, references in arrays, casts, statics ===== -/
theorem ka_I {D : va_G} {cl : List vw_C} {tys : List (ClassId × FieldType)} {s : State} {cA cB : ClassId} {i j : Nat} {t : FieldType} (hK : va_K D cl tys s) (h1 : tys[i]? = some (cA, t)) (h2 : tys[j]? = some (cB, t)) : cA = cB := by
  have a1 := (hK.2 i _ h1).2
  have a2 := (hK.2 j _ h2).2
  cases t with
  | object C =>
    obtain ⟨_, _, _, _, _, e1⟩ := a1
    obtain ⟨_, _, _, _, _, e2⟩ := a2
    exact Option.some.inj (e1.symm.trans e2)
  | _ => exact Option.some.inj (Eq.trans (Eq.symm a1) a2)
theorem snw_F {ka : Nat → ClassId} {S : HS} {q k n : Nat} : kd (snw S q k n) q = k ∧ ln (snw S q k n) q = n ∧ (∀ f, fi (snw S q k n) f q = 0) ∧ (∀ f, fl (snw S q k n) f q = 0) ∧ (∀ f, fr (snw S q k n) f q = none) ∧ ai (snw S q k n) q = (fun _ => 0) ∧ al (snw S q k n) q = (fun _ => 0) ∧ ar (snw S q k n) q = (fun _ => none) :=
  ⟨va_up_self _ _ _, va_up_self _ _ _, fun _ => va_up_self _ _ _, fun _ => va_up_self _ _ _, fun _ => va_up_self _ _ _, va_up_self _ _ _, va_up_self _ _ _, va_up_self _ _ _⟩
section RX
variable {p : Program} {l : Launch} {e : Env} {R : Room} {s : State} {m : MethodId} {args : Array Value} {below : List Frame} {meth : Method} {c : Code} {H : Heap} {locs : List Loc} {cells slots : Nat} {Q : State → Prop}
variable {cc : ByteArray} {nL : Nat} {own : String} {D : va_G} {ka : Nat → ClassId} {Z : HS} {A : Nat → Prop} {S : HS} {pc : Nat} {ls : Array Slot} {rest : List Value} {a : Nat}
/-- a new cell's address: free in the view -/
theorem Hv.fresh {L : List Nat} {x : va_E} {q : Nat} (X : Cx p s m meth c cc nL own D ka Z A) (V : Hv D ka Z s A S H locs) (hL : ∀ a, a ∈ L ↔ (kd S a ≠ 0 ∧ kd S a ≠ 224)) (hq : q = H.size) : kd S q = 0 ∧ q ≠ es S := by
  have he : es Z < s.heap.size := by
    obtain ⟨⟨cell, h1, -⟩, -⟩ := X.2.2.2
    exact (Array.getElem?_eq_some_iff.mp h1).1
  have hqe : q ≠ es S := by
    rw [V.2.2.2.2.2]
    have := V.2.1.1
    omega
  refine ⟨?_, hqe⟩
  by_cases h : kd S q = 0
  · exact h
  · by_cases h2 : kd S q = 224
    · exact absurd (V.2.2.2.1.2 q h2) hqe
    · have := V.lt ⟨h, h2⟩
      omega
theorem r_new (X : Cx p s m meth c cc nL own D ka Z A) (V : Hv D ka Z s A S H locs) {C : String} {T : u_T} {N ci index k : Nat} {fs : List Value} (hc : vwCl[ci]? = some (C, T, N)) (hin : ∀ w ∈ u_ws C T N, w ∈ lw_tbl ∧ okW w = true) (ty : Nat → FieldType) (hty : ∀ k, k < N → parseFieldDescriptor (T k).2.2.1 = some (ty k)) (hcl : Cond.classLink own index C ∈ lw_tbl) (hinst : Cond.instantiable C N ∈ lw_tbl) (hini : Cond.initialized C ∈ lw_tbl) (hk0 : k ≠ 0) (hk1 : k ≠ 224) (hfs : ∀ j, j < N → defaultValue (ty j) = vp_V fs j) (hF : ∀ q, wF ka (snw S q k 0) q = .inr (ci, fs))
    (hcells : cells + 1 ≤ R.cells) (hslots : slots + N ≤ R.slots) (hdg : decode cc pc = .ok (.new index, 3)) (kk : ∀ (q : Nat) (H1 : Heap), kd S q = 0 → Hv D ka Z s A (snw S q k 0) H1 locs → W p l e R s m args below meth c H1 locs (cells + 1) (slots + N) Q (F0 m (pc + 3) ls (.ref q :: rest))) : W p l e R s m args below meth c H locs cells slots Q (F0 m pc ls rest) := by
  obtain ⟨⟨L, hL, hP, hD⟩, hS, -⟩ := id V
  have hD2 := V.apart hL hD
  have hKn := X.2.1.2.1.1 ci _ hc
  refine W.newcK X.1.1 X.1.2.1 X.1.2.2.2.1 (X.w hcl rfl args) (X.w hinst rfl args) (X.w hini rfl args) rfl hdg hcells hslots hKn.2.1 rfl fun H1 kC hkC e1 z1 o1 => ?_
  obtain ⟨hq0, hqe⟩ := Hv.fresh (q := H.size) (x := .inr (ci, fs)) X V hL rfl
  have hkp : ∀ (k : Nat) (x : Nat × va_E), (va_pl L (wF ka S))[k]? = some x → H1[x.1]? = H[x.1]? := fun k x hx => o1 x.1 ((hP k x hx).lt)
  refine kk H.size H1 hq0 (Hv.new (x := .inr (ci, fs)) X V hL hk0 hk1 hq0 hqe (hF _) ((hP.kept hkp).app (fun k x hx => ?_)) (hD2.push hP rfl (X.2.2.1 _ hS.1)) ⟨Nat.le_trans hS.1 (by omega), fun x h1 h2 => (o1 x (Nat.lt_of_lt_of_le h1 hS.1)).trans (hS.2.1 x h1 h2), hS.2.2⟩)
  have hz : k < 1 := (List.getElem?_eq_some_iff.mp hx).1
  rw [show k = 0 by omega] at hx
  cases hx
  exact ⟨_, hc, (u_born ty (fun w h => X.w (hin w h).1 (hin w h).2 args) (fun _ h => h) hKn hkC e1 hty).to hfs⟩
/-- newarray of int, byte, long: t the type's place in the kinds -/
theorem r_newa (X : Cx p s m meth c cc nL own D ka Z A) (V : Hv D ka Z s A S H locs) {atype : ArrayType} {ty : FieldType} {t k : Nat} (harr : Cond.arrayClass ty ∈ lw_tbl) (hty : newarray.typeOf atype = ty) (ht : (tyl ka)[t]? = some (ka (t + 1), ty)) {n : Int32} {N' : Nat} {a0 : vp_A} (ha : ∀ cA : ClassId, vp_cell cA a0 = arrV cA N' (fun _ => defaultValue ty)) (hk0 : k ≠ 0) (hk1 : k ≠ 224) (hF : ∀ q, wF ka (snw S q k N') q = .inl (ka (t + 1), a0)) (hn : ¬ n < 0) (hN : n.toNatClampNeg = N') (hbytes : N' * componentBytes ty ≤ 536870912)
    (hcells : cells + 1 ≤ R.cells) (hslots : slots + N' ≤ R.slots) (hdg : decode cc pc = .ok (.newarray atype, 2)) (kk : ∀ (q : Nat) (H1 : Heap), kd S q = 0 → Hv D ka Z s A (snw S q k N') H1 locs → W p l e R s m args below meth c H1 locs (cells + 1) (slots + N') Q (F0 m (pc + 2) ls (.ref q :: rest))) : W p l e R s m args below meth c H locs cells slots Q (F0 m pc ls (.int n :: rest)) := by
  obtain ⟨⟨L, hL, hP, hD⟩, hS, -⟩ := id V
  have hD2 := V.apart hL hD
  have hz : ∀ q, q ∉ L → kd S q = 0 ∨ kd S q = 224 := fun q h => by
    by_cases h0 : kd S q = 0
    · exact Or.inl h0
    · by_cases h1 : kd S q = 224
      · exact Or.inr h1
      · exact absurd ((hL q).mpr ⟨h0, h1⟩) h
  subst hty
  refine va_newaK X.1.1 X.1.2.1 (X.w harr rfl args) rfl hdg rfl hn hN hbytes hcells hslots rfl fun H1 cA e1 z1 o1 hAr hNm => ?_
  obtain ⟨hq0, hqe⟩ := Hv.fresh (q := H.size) (x := .inl (cA, a0)) X V hL rfl
  have hcA : cA = ka (t + 1) := by
    have h2 := (X.2.1.2.1.2 t _ ht).2
    have h3 : va_RA s (ka (t + 1)) (newarray.typeOf atype) := h2
    have h4 : s.vm.findClass ("[" ++ (newarray.typeOf atype).toString) = some (ka (t + 1)) := by
      cases atype <;> exact h3
    exact Option.some.inj (hNm.symm.trans h4)
  subst hcA
  have hkp : ∀ (k : Nat) (x : Nat × va_E), (va_pl L (wF ka S))[k]? = some x → H1[x.1]? = H[x.1]? := fun k x hx => o1 x.1 ((hP k x hx).lt)
  refine kk H.size H1 hq0 (Hv.new (x := .inl (ka (t + 1), a0)) X V hL hk0 hk1 hq0 hqe (hF _) ((hP.kept hkp).app (fun k x hx => ?_)) (hD2.push hP rfl (X.2.2.1 _ hS.1)) ⟨Nat.le_trans hS.1 (by omega), fun x h1 h2 => (o1 x (Nat.lt_of_lt_of_le h1 hS.1)).trans (hS.2.1 x h1 h2), hS.2.2⟩)
  have hz : k < 1 := (List.getElem?_eq_some_iff.mp hx).1
  rw [show k = 0 by omega] at hx
  cases hx
  show H1[H.size]? = some (vp_cell _ _)
  rw [ha]
  exact e1
/-- anewarray: t the type's place in the kinds -/
theorem r_newq (X : Cx p s m meth c cc nL own D ka Z A) (V : Hv D ka Z s A S H locs) {C : String} {index t k : Nat} (hcl : Cond.classLink own index C ∈ lw_tbl) (hover : Cond.arrayOver (.object C) ∈ lw_tbl) (ht : (tyl ka)[t]? = some (ka (t + 1), .object C)) {n : Int32} {N' : Nat} (hk0 : k ≠ 0) (hk1 : k ≠ 224) (hF : ∀ q, wF ka (snw S q k N') q = .inl (ka (t + 1), N', .inr (.inr (.inr (.inr (fun _ => none)))))) (hn : ¬ n < 0) (hN : n.toNatClampNeg = N') (hbytes : N' * 4 ≤ 536870912)
    (hcells : cells + 1 ≤ R.cells) (hslots : slots + N' ≤ R.slots) (hdg : decode cc pc = .ok (.anewarray index, 3)) (kk : ∀ (q : Nat) (H1 : Heap), kd S q = 0 → Hv D ka Z s A (snw S q k N') H1 locs → W p l e R s m args below meth c H1 locs (cells + 1) (slots + N') Q (F0 m (pc + 3) ls (.ref q :: rest))) : W p l e R s m args below meth c H locs cells slots Q (F0 m pc ls (.int n :: rest)) := by
  obtain ⟨⟨L, hL, hP, hD⟩, hS, -⟩ := id V
  have hD2 := V.apart hL hD
  refine va_newq X.1.1 X.1.2.1 X.1.2.2.2.1 (X.w hcl rfl args) (va_AO.of (X.w hover rfl args)) X.2.1.2.1 hP hD2 hS X.2.2.1 hn hN hbytes hcells hslots hdg (fun q cA H1 hK1 hP1 hD1 hS1 => ?_)
  have hcA : ka (t + 1) = cA := ka_I (i := t) (j := 6) hK1 (by rw [List.getElem?_append_left (List.getElem?_eq_some_iff.mp ht).1]; exact ht) rfl
  subst hcA
  have hqL : q ∉ L := va_pl_fresh2 (X := []) hD1
  have hAq : A q := by
    have h9 : (va_pl L (wF ka S) ++ [(q, Sum.inl (ka (t + 1), N', Sum.inr (Sum.inr (Sum.inr (Sum.inr (fun _ => none))))))])[(va_pl L (wF ka S)).length]? = some (q, Sum.inl (ka (t + 1), N', Sum.inr (Sum.inr (Sum.inr (Sum.inr (fun _ => none)))))) := by rw [List.getElem?_append_right (Nat.le_refl _), Nat.sub_self]; rfl
    exact hD1.2 _ _ h9
  have hqe : q ≠ es S := by
    rw [V.2.2.2.2.2]
    obtain ⟨⟨cell, -, -, -, -, -, -, hne⟩, -⟩ := X.2.2.2
    exact fun h => hne (by rw [← h]; exact hAq)
  have hkq : kd S q = 0 := by
    by_cases h : kd S q = 0
    · exact h
    · by_cases h2 : kd S q = 224
      · exact absurd (V.2.2.2.1.2 q h2) hqe
      · exact absurd ((hL q).mpr ⟨h, h2⟩) hqL
  exact kk q H1 hkq (Hv.new X V hL hk0 hk1 hkq hqe (hF q) hP1 hD1 hS1)
end RX
