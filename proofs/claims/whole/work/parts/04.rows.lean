/-! ===== what stands fixed in a method, and the view of the heap there ===== -/
def tyl (ka : Nat → ClassId) : List (ClassId × FieldType) := [(ka 1, .int), (ka 2, .byte), (ka 3, .long), (ka 4, .object RX0), (ka 5, .object RX3), (ka 6, .object "java/lang/Object")]
def fA (S : HS) (n : Nat) : Nat → Prop := fun q => (kd S q ≠ 0 ∧ kd S q ≠ 224) ∨ n ≤ q
def vw (D : va_G) (ka : Nat → ClassId) (S : HS) (H : Heap) : Prop := ∃ L : List Nat, (∀ a, a ∈ L ↔ (kd S a ≠ 0 ∧ kd S a ≠ 224)) ∧ va_P D vwCl (va_pl L (wF ka S)) H ∧ va_D (fun _ => True) (va_pl L (wF ka S))
def ro (S : HS) : Prop := (kd S (es S) = 0 ∨ (kd S (es S) = 224 ∧ ln S (es S) = 0)) ∧ ∀ a, kd S a = 224 → a = es S
def okS (D : va_G) (ka : Nat → ClassId) (U : State) : Prop := tb U ∧ va_K D vwCl (tyl ka) U ∧ ∃ mi : Nat, va_Mi "[Ljava/lang/Object;" mi U
def stx (e0 : Nat) (A : Nat → Prop) (U : State) (H : Heap) : Prop := va_T (.object "java/lang/Object") e0 0 (fun _ => Value.null) A U H ∧ va_Z "java/util/ArrayList" "DEFAULTCAPACITY_EMPTY_ELEMENTDATA" "[Ljava/lang/Object;" (.ref e0) A U H
def Cx (p : Program) (s : State) (m : MethodId) (meth : Method) (c : Code) (cc : ByteArray) (nL : Nat) (own : String) (D : va_G) (ka : Nat → ClassId) (Z : HS) (A : Nat → Prop) : Prop :=
  (p.tables.exec = Jvm.exec ∧ c.code = cc ∧ c.maxLocals = nL ∧ s.vm.findClass own = some m.cls ∧ meth.locks = false) ∧ okS D ka s ∧ (∀ q, s.heap.size ≤ q → A q) ∧ stx (es Z) A s s.heap
/-- kinds and lengths of what is there stay; what is new lies behind -/
def mono (S S' : HS) : Prop := (∀ a, kd S a ≠ 0 → kd S' a = kd S a ∧ ln S' a = ln S a) ∧ es S' = es S
theorem mono.rf (S : HS) : mono S S := ⟨fun _ _ => ⟨rfl, rfl⟩, rfl⟩
theorem mono.tr {S S' S'' : HS} (h : mono S S') (h' : mono S' S'') : mono S S'' := ⟨fun a ha => ⟨((h'.1 a (by rw [(h.1 a ha).1]; exact ha)).1).trans (h.1 a ha).1, ((h'.1 a (by rw [(h.1 a ha).1]; exact ha)).2).trans (h.1 a ha).2⟩, h'.2.trans h.2⟩
theorem mono.k {S S' : HS} (h : mono S S') {a k : Nat} (ha : kd S a = k) (h0 : k ≠ 0) : kd S' a = k := ((h.1 a (by rw [ha]; exact h0)).1).trans ha
theorem mono.t {S S' : HS} (h : mono S S') {a t : Nat} (ha : kd S a / 32 = t) (h0 : t ≠ 0) : kd S' a / 32 = t := by
  rw [(h.1 a (fun q => h0 (by rw [← ha, q]))).1]; exact ha
theorem mono.snw {S : HS} {q k n : Nat} (hq : kd S q = 0) : mono S (snw S q k n) := ⟨fun a ha => by
  have h : a ≠ q := fun e => ha (by rw [e]; exact hq)
  exact ⟨va_up_ne _ _ h, va_up_ne _ _ h⟩, rfl⟩
def Hv (D : va_G) (ka : Nat → ClassId) (Z : HS) (s : State) (A : Nat → Prop) (S : HS) (H : Heap) (locs : List Loc) : Prop := vw D ka S H ∧ va_S A s.heap H locs ∧ (∀ q, fA S H.size q → A q) ∧ ro S ∧ mono Z S
def dm (S S' : HS) (n : Nat) : Prop := ∀ a, kd S' a ≠ 0 → kd S' a ≠ 224 → fA S n a
section RW
variable {p : Program} {l : Launch} {e : Env} {R : Room} {s : State} {m : MethodId} {args : Array Value} {below : List Frame} {meth : Method} {c : Code} {H : Heap} {locs : List Loc} {cells slots : Nat} {Q : State → Prop}
variable {cc : ByteArray} {nL : Nat} {own : String} {D : va_G} {ka : Nat → ClassId} {Z : HS} {A : Nat → Prop} {S : HS} {pc : Nat} {ls : Array Slot} {rest : List Value} {a : Nat}
theorem Cx.w (X : Cx p s m meth c cc nL own D ka Z A) {w : Cond} (hw : w ∈ lw_tbl) (ho : okW w = true) (b : Array Value) : w.before b s = true := X.2.1.1 w hw ho b
theorem Hv.apart {L : List Nat} (V : Hv D ka Z s A S H locs) (hL : ∀ a, a ∈ L ↔ (kd S a ≠ 0 ∧ kd S a ≠ 224)) (hD : va_D (fun _ => True) (va_pl L (wF ka S))) : va_D A (va_pl L (wF ka S)) := by
  refine hD.weaken (fun k q hq _ => ?_)
  obtain ⟨x, hx, rfl⟩ := List.mem_map.mp (List.mem_of_getElem? hq)
  exact V.2.2.1 x (Or.inl ((hL x).mp hx))
theorem Hv.at (V : Hv D ka Z s A S H locs) (h : kd S a ≠ 0 ∧ kd S a ≠ 224) : ∃ (ws : va_W) (q0 : Nat), va_P D vwCl ws H ∧ ws[q0]? = some (a, wF ka S a) := by
  obtain ⟨⟨L, hL, hP, hD⟩, -⟩ := V
  obtain ⟨q0, hq⟩ := va_pl_get (X := []) (f := wF ka S) ((hL a).mpr h)
  exact ⟨_, q0, hP, hq⟩
theorem Hv.lt (V : Hv D ka Z s A S H locs) (h : kd S a ≠ 0 ∧ kd S a ≠ 224) : a < H.size := by
  obtain ⟨ws, q0, hP, hq⟩ := V.at h
  exact (hP q0 _ hq).lt
/-- one cell has changed -/
theorem Hv.set {S' : HS} {x : va_E} {L : List Nat} {q0 : Nat} {H1 : Heap} {locs1 : List Loc} (X : Cx p s m meth c cc nL own D ka Z A) (V : Hv D ka Z s A S H locs) (hk : kd S' = kd S) (hl : ln S' = ln S) (he : es S' = es S) (hn : ∀ b, b ≠ a → wF ka S' b = wF ka S b) (ha : wF ka S' a = x)
    (hL : ∀ a, a ∈ L ↔ (kd S a ≠ 0 ∧ kd S a ≠ 224)) (hm : a ∈ L) (hD : va_D A (va_pl L (wF ka S))) (hq : (va_pl L (wF ka S))[q0]? = some (a, wF ka S a)) (hP1 : va_P D vwCl ((va_pl L (wF ka S)).set q0 (a, x)) H1) (hD1 : va_D A ((va_pl L (wF ka S)).set q0 (a, x))) (hS1 : va_S A s.heap H1 locs1) : Hv D ka Z s A S' H1 locs1 := by
  have e1 : (va_pl L (wF ka S)).set q0 (a, x) = va_pl L (wF ka S') := (va_pl_set (X := []) hD hm hq).trans (va_pl_congr (wF_up hn ha))
  rw [e1] at hP1 hD1
  obtain ⟨-, -, hf, hro, hes⟩ := V
  refine ⟨⟨L, by rw [hk]; exact hL, hP1, hD1.weaken (fun _ _ _ _ => trivial)⟩, hS1, fun q h => ?_, ?_, hes.tr ⟨fun b _ => ⟨by rw [hk], by rw [hl]⟩, he⟩⟩
  · rcases h with h | h
    · rw [hk] at h
      exact hf q (Or.inl h)
    · exact X.2.2.1 q (Nat.le_trans hS1.1 h)
  · unfold ro
    rw [hk, hl, he]
    exact hro
/-- a new cell -/
theorem Hv.new {x : va_E} {L : List Nat} {q k n : Nat} {H1 : Heap} (X : Cx p s m meth c cc nL own D ka Z A) (V : Hv D ka Z s A S H locs) (hL : ∀ a, a ∈ L ↔ (kd S a ≠ 0 ∧ kd S a ≠ 224)) (hk0 : k ≠ 0) (hk1 : k ≠ 224) (hq0 : kd S q = 0) (hqe : q ≠ es S) (hx : wF ka (snw S q k n) q = x)
    (hP1 : va_P D vwCl (va_pl L (wF ka S) ++ [(q, x)]) H1) (hD1 : va_D A (va_pl L (wF ka S) ++ [(q, x)])) (hS1 : va_S A s.heap H1 locs) : Hv D ka Z s A (snw S q k n) H1 locs := by
  have hqL : q ∉ L := fun h => ((hL q).mp h).1 hq0
  have e1 : va_pl L (wF ka S) ++ [(q, x)] = va_pl (L ++ [q]) (wF ka (snw S q k n)) := (va_pl_push hqL).trans (va_pl_congr (wF_up (fun b hb => wF_snw hb) hx))
  rw [e1] at hP1 hD1
  obtain ⟨-, -, hf, hro, hes⟩ := V
  have hkq : kd (snw S q k n) q = k := va_up_self _ _ _
  have hkn : ∀ b, b ≠ q → kd (snw S q k n) b = kd S b := fun b hb => va_up_ne _ _ hb
  have hln : ∀ b, b ≠ q → ln (snw S q k n) b = ln S b := fun b hb => va_up_ne _ _ hb
  refine ⟨⟨L ++ [q], fun b => ?_, hP1, hD1.weaken (fun _ _ _ _ => trivial)⟩, hS1, fun b h => ?_, ⟨?_, fun b hb => ?_⟩, hes.tr (mono.snw hq0)⟩
  · by_cases hb : b = q
    · subst hb
      rw [hkq]
      simp [hk0, hk1]
    · rw [hkn b hb, List.mem_append, List.mem_singleton, hL b]
      simp [hb]
  · rcases h with h | h
    · by_cases hb : b = q
      · subst hb
        have := hD1.2
        obtain ⟨i, hi⟩ := List.getElem?_of_mem (show (b, wF ka (snw S b k n) b) ∈ va_pl (L ++ [b]) (wF ka (snw S b k n)) from List.mem_map.mpr ⟨b, by simp, rfl⟩)
        exact this i _ hi
      · rw [hkn b hb] at h
        exact hf b (Or.inl h)
    · exact X.2.2.1 b (Nat.le_trans hS1.1 h)
  · show kd (snw S q k n) (es S) = 0 ∨ _
    rcases hro.1 with h | h
    · exact Or.inl (by rw [hkn _ (Ne.symm hqe)]; exact h)
    · refine Or.inr ⟨?_, ?_⟩
      · show kd (snw S q k n) (es S) = 224
        rw [hkn _ (Ne.symm hqe)]; exact h.1
      · show ln (snw S q k n) (es S) = 0
        rw [hln _ (Ne.symm hqe)]; exact h.2
  · by_cases hbq : b = q
    · subst hbq
      rw [hkq] at hb
      exact absurd hb hk1
    · rw [hkn b hbq] at hb
      exact hro.2 b hb
/-! ===== the rows: fields ===== -/
theorem r_get (X : Cx p s m meth c cc nL own D ka Z A) (V : Hv D ka Z s A S H locs) {C ref : String} {T : u_T} {N ci index k : Nat} {fs : List Value} {v : Value} (hc : vwCl[ci]? = some (C, T, N)) (hin : ∀ w ∈ u_ws C T N, w ∈ lw_tbl ∧ okW w = true) (hk : k < N) (hl : Cond.fieldLink own index ref (T k).2.1 (T k).2.2.1 ∈ lw_tbl) (hsame : ∀ x, s.fieldFound? (T k).1 (T k).2.1 (T k).2.2.1 = some x → s.fieldFound? ref (T k).2.1 (T k).2.2.1 = some x) (h0 : kd S a ≠ 0 ∧ kd S a ≠ 224) (hF : wF ka S a = .inr (ci, fs)) (hv : fs[k]? = some v) (hdg : decode cc pc = .ok (.getfield index, 3))
    (kk : W p l e R s m args below meth c H locs cells slots Q (F0 m (pc + 3) ls (v :: rest))) : W p l e R s m args below meth c H locs cells slots Q (F0 m pc ls (.ref a :: rest)) := by
  obtain ⟨ws, q0, hP, hq⟩ := V.at h0
  rw [hF] at hq
  exact va_get (Ts := u_ws C T N) X.1.1 X.1.2.1 (fun w h => X.w (hin w h).1 (hin w h).2 args) (fun _ h => h) X.1.2.2.2.1 X.2.1.2.1 hP q0 hq hc k hk (X.w hl rfl args) hsame hv hdg kk
theorem r_getN (X : Cx p s m meth c cc nL own D ka Z A) (V : Hv D ka Z s A S H locs) {C ref host : String} {T : u_T} {N ci index k : Nat} {fs : List Value} {v : Value} (hc : vwCl[ci]? = some (C, T, N)) (hin : ∀ w ∈ u_ws C T N, w ∈ lw_tbl ∧ okW w = true) (hk : k < N) (hl : Cond.fieldLinkNest own index ref (T k).2.1 (T k).2.2.1 host ∈ lw_tbl) (hsame : ∀ x, s.fieldFound? (T k).1 (T k).2.1 (T k).2.2.1 = some x → s.fieldFound? ref (T k).2.1 (T k).2.2.1 = some x) (h0 : kd S a ≠ 0 ∧ kd S a ≠ 224) (hF : wF ka S a = .inr (ci, fs)) (hv : fs[k]? = some v) (hdg : decode cc pc = .ok (.getfield index, 3))
    (kk : W p l e R s m args below meth c H locs cells slots Q (F0 m (pc + 3) ls (v :: rest))) : W p l e R s m args below meth c H locs cells slots Q (F0 m pc ls (.ref a :: rest)) := by
  obtain ⟨ws, q0, hP, hq⟩ := V.at h0
  rw [hF] at hq
  exact va_getN (Ts := u_ws C T N) X.1.1 X.1.2.1 (fun w h => X.w (hin w h).1 (hin w h).2 args) (fun _ h => h) X.1.2.2.2.1 X.2.1.2.1 hP q0 hq hc k hk (X.w hl rfl args) hsame hv hdg kk
theorem r_put {S' : HS} (X : Cx p s m meth c cc nL own D ka Z A) (V : Hv D ka Z s A S H locs) {C ref : String} {T : u_T} {N ci index k : Nat} {fs : List Value} {v : Value} {ty : FieldType} (hc : vwCl[ci]? = some (C, T, N)) (hin : ∀ w ∈ u_ws C T N, w ∈ lw_tbl ∧ okW w = true) (ty0 : Nat → FieldType) (hty : ∀ k, k < N → parseFieldDescriptor (T k).2.2.1 = some (ty0 k)) (hnm : ∀ a, a < N → ∀ b, b < N → a ≠ b → (T a).2.1 ≠ (T b).2.1) (hk : k < N) (hl : Cond.fieldLink own index ref (T k).2.1 (T k).2.2.1 ∈ lw_tbl) (hsame : ∀ x, s.fieldFound? (T k).1 (T k).2.1 (T k).2.2.1 = some x → s.fieldFound? ref (T k).2.1 (T k).2.2.1 = some x)
    (hfin : (T k).2.2.2 = false) (hd : parseFieldDescriptor (T k).2.2.1 = some ty) (hnr : narrow ty v = v) (hfit : fits ty v = true) (h0 : kd S a ≠ 0 ∧ kd S a ≠ 224) (hF : wF ka S a = .inr (ci, fs)) (hlen : k < fs.length) (e1 : kd S' = kd S) (e2 : ln S' = ln S) (e3 : es S' = es S) (hn : ∀ b, b ≠ a → wF ka S' b = wF ka S b) (hF' : wF ka S' a = .inr (ci, fs.set k v)) (hdg : decode cc pc = .ok (.putfield index, 3))
    (kk : ∀ (H1 : Heap) (locs1 : List Loc), Hv D ka Z s A S' H1 locs1 → W p l e R s m args below meth c H1 locs1 cells slots Q (F0 m (pc + 3) ls rest)) : W p l e R s m args below meth c H locs cells slots Q (F0 m pc ls (v :: .ref a :: rest)) := by
  obtain ⟨⟨L, hL, hP, hD⟩, hS, -⟩ := id V
  have hD2 := V.apart hL hD
  have hm := (hL a).mpr h0
  obtain ⟨q0, hq⟩ := va_pl_get (X := []) (f := wF ka S) hm
  exact va_put (Ts := u_ws C T N) X.1.1 X.1.2.1 (fun w h => X.w (hin w h).1 (hin w h).2 args) (fun _ h => h) ty0 hty hnm X.1.2.2.2.1 X.2.1.2.1 hP hD2 hS q0 (hq.trans (by rw [hF])) hc k hk (X.w hl rfl args) hsame hfin hd hnr hfit hlen hdg (fun H1 locs1 hP1 hD1 hS1 => kk H1 locs1 (Hv.set X V e1 e2 e3 hn hF' hL hm hD2 hq hP1 hD1 hS1))
theorem r_putN {S' : HS} (X : Cx p s m meth c cc nL own D ka Z A) (V : Hv D ka Z s A S H locs) {C ref host : String} {T : u_T} {N ci index k : Nat} {fs : List Value} {v : Value} {ty : FieldType} (hc : vwCl[ci]? = some (C, T, N)) (hin : ∀ w ∈ u_ws C T N, w ∈ lw_tbl ∧ okW w = true) (ty0 : Nat → FieldType) (hty : ∀ k, k < N → parseFieldDescriptor (T k).2.2.1 = some (ty0 k)) (hnm : ∀ a, a < N → ∀ b, b < N → a ≠ b → (T a).2.1 ≠ (T b).2.1) (hk : k < N) (hl : Cond.fieldLinkNest own index ref (T k).2.1 (T k).2.2.1 host ∈ lw_tbl) (hsame : ∀ x, s.fieldFound? (T k).1 (T k).2.1 (T k).2.2.1 = some x → s.fieldFound? ref (T k).2.1 (T k).2.2.1 = some x)
    (hfin : (T k).2.2.2 = false) (hd : parseFieldDescriptor (T k).2.2.1 = some ty) (hnr : narrow ty v = v) (hfit : fits ty v = true) (h0 : kd S a ≠ 0 ∧ kd S a ≠ 224) (hF : wF ka S a = .inr (ci, fs)) (hlen : k < fs.length) (e1 : kd S' = kd S) (e2 : ln S' = ln S) (e3 : es S' = es S) (hn : ∀ b, b ≠ a → wF ka S' b = wF ka S b) (hF' : wF ka S' a = .inr (ci, fs.set k v)) (hdg : decode cc pc = .ok (.putfield index, 3))
    (kk : ∀ (H1 : Heap) (locs1 : List Loc), Hv D ka Z s A S' H1 locs1 → W p l e R s m args below meth c H1 locs1 cells slots Q (F0 m (pc + 3) ls rest)) : W p l e R s m args below meth c H locs cells slots Q (F0 m pc ls (v :: .ref a :: rest)) := by
  obtain ⟨⟨L, hL, hP, hD⟩, hS, -⟩ := id V
  have hD2 := V.apart hL hD
  have hm := (hL a).mpr h0
  obtain ⟨q0, hq⟩ := va_pl_get (X := []) (f := wF ka S) hm
  exact va_putN (Ts := u_ws C T N) X.1.1 X.1.2.1 (fun w h => X.w (hin w h).1 (hin w h).2 args) (fun _ h => h) ty0 hty hnm X.1.2.2.2.1 X.2.1.2.1 hP hD2 hS q0 (hq.trans (by rw [hF])) hc k hk (X.w hl rfl args) hsame hfin hd hnr hfit hlen hdg (fun H1 locs1 hP1 hD1 hS1 => kk H1 locs1 (Hv.set X V e1 e2 e3 hn hF' hL hm hD2 hq hP1 hD1 hS1))
theorem r_putF {S' : HS} (X : Cx p s m meth c cc nL own D ka Z A) (V : Hv D ka Z s A S H locs) (hin2 : meth.name = "<init>") {C ref : String} {T : u_T} {N ci index k : Nat} {fs : List Value} {v : Value} {ty : FieldType} (hc : vwCl[ci]? = some (C, T, N)) (hin : ∀ w ∈ u_ws C T N, w ∈ lw_tbl ∧ okW w = true) (ty0 : Nat → FieldType) (hty : ∀ k, k < N → parseFieldDescriptor (T k).2.2.1 = some (ty0 k)) (hnm : ∀ a, a < N → ∀ b, b < N → a ≠ b → (T a).2.1 ≠ (T b).2.1) (hk : k < N) (hl : Cond.fieldLink own index ref (T k).2.1 (T k).2.2.1 ∈ lw_tbl) (hsame : ∀ x, s.fieldFound? (T k).1 (T k).2.1 (T k).2.2.1 = some x → s.fieldFound? ref (T k).2.1 (T k).2.2.1 = some x)
    (hfin : (T k).2.2.2 = true) (hdecl : (T k).1 = own) (hd : parseFieldDescriptor (T k).2.2.1 = some ty) (hnr : narrow ty v = v) (hfit : fits ty v = true) (h0 : kd S a ≠ 0 ∧ kd S a ≠ 224) (hF : wF ka S a = .inr (ci, fs)) (hlen : k < fs.length) (e1 : kd S' = kd S) (e2 : ln S' = ln S) (e3 : es S' = es S) (hn : ∀ b, b ≠ a → wF ka S' b = wF ka S b) (hF' : wF ka S' a = .inr (ci, fs.set k v)) (hdg : decode cc pc = .ok (.putfield index, 3))
    (kk : ∀ (H1 : Heap) (locs1 : List Loc), Hv D ka Z s A S' H1 locs1 → W p l e R s m args below meth c H1 locs1 cells slots Q (F0 m (pc + 3) ls rest)) : W p l e R s m args below meth c H locs cells slots Q (F0 m pc ls (v :: .ref a :: rest)) := by
  obtain ⟨⟨L, hL, hP, hD⟩, hS, -⟩ := id V
  have hD2 := V.apart hL hD
  have hm := (hL a).mpr h0
  obtain ⟨q0, hq⟩ := va_pl_get (X := []) (f := wF ka S) hm
  exact va_putF (Ts := u_ws C T N) X.1.1 X.1.2.1 (fun w h => X.w (hin w h).1 (hin w h).2 args) (fun _ h => h) ty0 hty hnm X.1.2.2.2.1 X.2.1.2.1 hP hD2 hS q0 (hq.trans (by rw [hF])) hc k hk (X.w hl rfl args) hsame hfin hin2 hdecl hd hnr hfit hlen hdg (fun H1 locs1 hP1 hD1 hS1 => kk H1 locs1 (Hv.set X V e1 e2 e3 hn hF' hL hm hD2 hq hP1 hD1 hS1))
/-! ===== arrays ===== -/
theorem k_of {k t : Nat} (h : k / 32 = t) (h0 : 0 < t) (h7 : t < 7) : k ≠ 0 ∧ k ≠ 224 := ⟨fun q => by subst q; omega, fun q => by subst q; omega⟩
theorem r_iald (X : Cx p s m meth c cc nL own D ka Z A) (V : Hv D ka Z s A S H locs) (hk : kd S a / 32 = 1) {i : Int32} (hi : vp_in i (ln S a)) (hdg : decode cc pc = .ok (.iaload, 1)) (kk : W p l e R s m args below meth c H locs cells slots Q (F0 m (pc + 1) ls (.int (ai S a i.toNatClampNeg) :: rest))) : W p l e R s m args below meth c H locs cells slots Q (F0 m pc ls (.int i :: .ref a :: rest)) := by
  obtain ⟨ws, q0, hP, hq⟩ := V.at (k_of hk (by decide) (by decide))
  exact va_iald X.1.1 X.1.2.1 X.2.1.2.1 hP q0 0 (hq.trans (by rw [wF_aI hk])) rfl hi hdg kk
theorem r_bald (X : Cx p s m meth c cc nL own D ka Z A) (V : Hv D ka Z s A S H locs) (hk : kd S a / 32 = 2) {i : Int32} (hi : vp_in i (ln S a)) (hdg : decode cc pc = .ok (.baload, 1)) (kk : W p l e R s m args below meth c H locs cells slots Q (F0 m (pc + 1) ls (.int (ai S a i.toNatClampNeg) :: rest))) : W p l e R s m args below meth c H locs cells slots Q (F0 m pc ls (.int i :: .ref a :: rest)) := by
  obtain ⟨ws, q0, hP, hq⟩ := V.at (k_of hk (by decide) (by decide))
  exact va_bald X.1.1 X.1.2.1 X.2.1.2.1 hP q0 1 (hq.trans (by rw [wF_aB hk])) rfl hi hdg kk
theorem r_lald (X : Cx p s m meth c cc nL own D ka Z A) (V : Hv D ka Z s A S H locs) (hk : kd S a / 32 = 3) {i : Int32} (hi : vp_in i (ln S a)) (hdg : decode cc pc = .ok (.laload, 1)) (kk : W p l e R s m args below meth c H locs cells slots Q (F0 m (pc + 1) ls (.long (al S a i.toNatClampNeg) :: rest))) : W p l e R s m args below meth c H locs cells slots Q (F0 m pc ls (.int i :: .ref a :: rest)) := by
  obtain ⟨ws, q0, hP, hq⟩ := V.at (k_of hk (by decide) (by decide))
  exact va_lald X.1.1 X.1.2.1 X.2.1.2.1 hP q0 2 (hq.trans (by rw [wF_aJ hk])) rfl hi hdg kk
theorem r_aald (X : Cx p s m meth c cc nL own D ka Z A) (V : Hv D ka Z s A S H locs) (hk : kd S a / 32 = 4 ∨ kd S a / 32 = 5 ∨ kd S a / 32 = 6) {i : Int32} (hi : vp_in i (ln S a)) (hdg : decode cc pc = .ok (.aaload, 1)) (kk : W p l e R s m args below meth c H locs cells slots Q (F0 m (pc + 1) ls (va_rf (ar S a i.toNatClampNeg) :: rest))) : W p l e R s m args below meth c H locs cells slots Q (F0 m pc ls (.int i :: .ref a :: rest)) := by
  rcases hk with hk | hk | hk
  · obtain ⟨ws, q0, hP, hq⟩ := V.at (k_of hk (by decide) (by decide))
    exact va_aldq X.1.1 X.1.2.1 X.2.1.2.1 hP q0 3 (hq.trans (by rw [wF_aE hk])) rfl hi hdg kk
  · obtain ⟨ws, q0, hP, hq⟩ := V.at (k_of hk (by decide) (by decide))
    exact va_aldq X.1.1 X.1.2.1 X.2.1.2.1 hP q0 4 (hq.trans (by rw [wF_aR hk])) rfl hi hdg kk
  · obtain ⟨ws, q0, hP, hq⟩ := V.at (k_of hk (by decide) (by decide))
    exact va_aldq X.1.1 X.1.2.1 X.2.1.2.1 hP q0 5 (hq.trans (by rw [wF_aO hk])) rfl hi hdg kk
theorem r_iast (X : Cx p s m meth c cc nL own D ka Z A) (V : Hv D ka Z s A S H locs) (hk : kd S a / 32 = 1) {i x : Int32} (hi : vp_in i (ln S a)) (hdg : decode cc pc = .ok (.iastore, 1)) (kk : ∀ (H1 : Heap) (locs1 : List Loc), Hv D ka Z s A (sai S a i.toNatClampNeg x) H1 locs1 → W p l e R s m args below meth c H1 locs1 cells slots Q (F0 m (pc + 1) ls rest)) : W p l e R s m args below meth c H locs cells slots Q (F0 m pc ls (.int x :: .int i :: .ref a :: rest)) := by
  obtain ⟨⟨L, hL, hP, hD⟩, hS, -⟩ := id V
  have hD2 := V.apart hL hD
  have hm := (hL a).mpr (k_of hk (by decide) (by decide))
  obtain ⟨q0, hq⟩ := va_pl_get (X := []) (f := wF ka S) hm
  refine va_iast X.1.1 X.1.2.1 X.2.1.2.1 hP hD2 hS q0 0 (hq.trans (by rw [wF_aI hk])) rfl hi hdg (fun H1 locs1 hP1 hD1 hS1 => kk H1 locs1 (Hv.set X V rfl rfl rfl (fun b hb => wF_sai hb) ?_ hL hm hD2 hq hP1 hD1 hS1))
  rw [wF_aI (S := sai S a i.toNatClampNeg x) hk]
  show Sum.inl (ka 1, ln S a, Sum.inl (va_up (ai S) a (upd (ai S a) i.toNatClampNeg x) a)) = _
  rw [va_up_self]
theorem r_bast (X : Cx p s m meth c cc nL own D ka Z A) (V : Hv D ka Z s A S H locs) (hk : kd S a / 32 = 2) {i x : Int32} (hi : vp_in i (ln S a)) (hdg : decode cc pc = .ok (.bastore, 1)) (kk : ∀ (H1 : Heap) (locs1 : List Loc), Hv D ka Z s A (sai S a i.toNatClampNeg x.toInt8.toInt32) H1 locs1 → W p l e R s m args below meth c H1 locs1 cells slots Q (F0 m (pc + 1) ls rest)) : W p l e R s m args below meth c H locs cells slots Q (F0 m pc ls (.int x :: .int i :: .ref a :: rest)) := by
  obtain ⟨⟨L, hL, hP, hD⟩, hS, -⟩ := id V
  have hD2 := V.apart hL hD
  have hm := (hL a).mpr (k_of hk (by decide) (by decide))
  obtain ⟨q0, hq⟩ := va_pl_get (X := []) (f := wF ka S) hm
  refine va_bast X.1.1 X.1.2.1 X.2.1.2.1 hP hD2 hS q0 1 (hq.trans (by rw [wF_aB hk])) rfl hi hdg (fun H1 locs1 hP1 hD1 hS1 => kk H1 locs1 (Hv.set X V rfl rfl rfl (fun b hb => wF_sai hb) ?_ hL hm hD2 hq hP1 hD1 hS1))
  rw [wF_aB (S := sai S a i.toNatClampNeg x.toInt8.toInt32) hk]
  show Sum.inl (ka 2, ln S a, Sum.inl (va_up (ai S) a (upd (ai S a) i.toNatClampNeg x.toInt8.toInt32) a)) = _
  rw [va_up_self, vp_nar_byte]
theorem r_last (X : Cx p s m meth c cc nL own D ka Z A) (V : Hv D ka Z s A S H locs) (hk : kd S a / 32 = 3) {i : Int32} {x : Int64} (hi : vp_in i (ln S a)) (hdg : decode cc pc = .ok (.lastore, 1)) (kk : ∀ (H1 : Heap) (locs1 : List Loc), Hv D ka Z s A (sal S a i.toNatClampNeg x) H1 locs1 → W p l e R s m args below meth c H1 locs1 cells slots Q (F0 m (pc + 1) ls rest)) : W p l e R s m args below meth c H locs cells slots Q (F0 m pc ls (.long x :: .int i :: .ref a :: rest)) := by
  obtain ⟨⟨L, hL, hP, hD⟩, hS, -⟩ := id V
  have hD2 := V.apart hL hD
  have hm := (hL a).mpr (k_of hk (by decide) (by decide))
  obtain ⟨q0, hq⟩ := va_pl_get (X := []) (f := wF ka S) hm
  refine va_last X.1.1 X.1.2.1 X.2.1.2.1 hP hD2 hS q0 2 (hq.trans (by rw [wF_aJ hk])) rfl hi hdg (fun H1 locs1 hP1 hD1 hS1 => kk H1 locs1 (Hv.set X V rfl rfl rfl (fun b hb => wF_sal hb) ?_ hL hm hD2 hq hP1 hD1 hS1))
  rw [wF_aJ (S := sal S a i.toNatClampNeg x) hk]
  show Sum.inl (ka 3, ln S a, Sum.inr (Sum.inl (va_up (al S) a (vp_updL (al S a) i.toNatClampNeg x) a))) = _
  rw [va_up_self]
/-- arraylength: of any array, the empty one of the JDK too -/
theorem r_alen (X : Cx p s m meth c cc nL own D ka Z A) (V : Hv D ka Z s A S H locs) (hk : 1 ≤ kd S a / 32 ∧ kd S a ≤ 224) (hdg : decode cc pc = .ok (.arraylength, 1)) (kk : W p l e R s m args below meth c H locs cells slots Q (F0 m (pc + 1) ls (.int (Int32.ofNat (ln S a)) :: rest))) : W p l e R s m args below meth c H locs cells slots Q (F0 m pc ls (.ref a :: rest)) := by
  by_cases h7 : kd S a = 224
  · have ha := V.2.2.2.1.2 a h7
    have hl : ln S a = 0 := by
      rcases V.2.2.2.1.1 with h | h
      · rw [← ha, h7] at h; cases h
      · rw [ha]; exact h.2
    have he : a = es Z := ha.trans V.2.2.2.2.2
    subst he
    rw [hl] at kk
    exact va_tlen X.1.1 X.1.2.1 X.2.2.2.1 V.2.1 rfl hdg kk
  · have h6 : kd S a / 32 < 7 := by omega
    obtain ⟨ws, q0, hP, hq⟩ := V.at (a := a) ⟨fun q => by rw [q] at hk; omega, h7⟩
    rcases (show kd S a / 32 = 1 ∨ kd S a / 32 = 2 ∨ kd S a / 32 = 3 ∨ kd S a / 32 = 4 ∨ kd S a / 32 = 5 ∨ kd S a / 32 = 6 by omega) with h | h | h | h | h | h
    · rw [wF_aI h] at hq; exact va_alen X.1.1 X.1.2.1 X.2.1.2.1 hP q0 0 hq (ty := .int) rfl rfl hdg kk
    · rw [wF_aB h] at hq; exact va_alen X.1.1 X.1.2.1 X.2.1.2.1 hP q0 1 hq (ty := .byte) rfl rfl hdg kk
    · rw [wF_aJ h] at hq; exact va_alen X.1.1 X.1.2.1 X.2.1.2.1 hP q0 2 hq (ty := .long) rfl rfl hdg kk
    · rw [wF_aE h] at hq; exact va_alen X.1.1 X.1.2.1 X.2.1.2.1 hP q0 3 hq (ty := .object RX0) rfl rfl hdg kk
    · rw [wF_aR h] at hq; exact va_alen X.1.1 X.1.2.1 X.2.1.2.1 hP q0 4 hq (ty := .object RX3) rfl rfl hdg kk
    · rw [wF_aO h] at hq; exact va_alen X.1.1 X.1.2.1 X.2.1.2.1 hP q0 5 hq (ty := .object "java/lang/Object") rfl rfl hdg kk
end RW
