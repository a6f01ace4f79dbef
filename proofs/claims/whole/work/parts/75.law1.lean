/-! ===== two views of one heap: the class's objects and the reference's ===== -/
def ap (S S2 : HS) : Prop := ∀ a, (kd S a ≠ 0 ∧ kd S a ≠ 224) → ¬ (kd S2 a ≠ 0 ∧ kd S2 a ≠ 224)
theorem ap.sym {S S2 : HS} (h : ap S S2) : ap S2 S := fun a h2 h1 => h a h1 h2
section LW
variable {p : Program} {l : Launch} {e : Env} {R : Room} {s : State} {m : MethodId} {args : Array Value} {below : List Frame} {meth : Method} {c : Code} {H : Heap} {locs : List Loc} {cells slots : Nat} {Q : State → Prop}
variable {cc : ByteArray} {nL : Nat} {own : String} {D : va_G} {ka : Nat → ClassId} {Z : HS} {A : Nat → Prop} {S S2 : HS} {pc : Nat} {ls : Array Slot} {rest st0 : List Value} {a : Nat}
/-- a view whose cells stay -/
theorem Hv.keep {H1 : Heap} {locs1 : List Loc} (X : Cx p s m meth c cc nL own D ka Z A) (V : Hv D ka Z s A S H locs) (hS1 : va_S A s.heap H1 locs1) (hk : ∀ q, q < H.size → (kd S q ≠ 0 ∧ kd S q ≠ 224) → H1[q]? = H[q]?) : Hv D ka Z s A S H1 locs1 := by
  obtain ⟨⟨L, hL, hP, hD⟩, -, hA, hro, hm⟩ := V
  refine ⟨⟨L, hL, hP.kept (fun k x hx => ?_), hD⟩, hS1, fun q h => ?_, hro, hm⟩
  · have hx1 : x.1 ∈ L := by
      obtain ⟨y, hy, rfl⟩ := List.mem_map.mp (List.mem_of_getElem? hx)
      exact hy
    exact hk x.1 (hP k x hx).lt ((hL x.1).mp hx1)
  · rcases h with h | h
    · exact hA q (Or.inl h)
    · exact X.2.2.1 q (Nat.le_trans hS1.1 h)
/-- behind a call: the other view stays -/
theorem r_call2 {α : Type} {enc : α → Option Value} {post : α → HS → Prop} {mc ms : Nat} {av : Array Value} (X : Cx p s m meth c cc nL own D ka Z A) (V : Hv D ka Z s A S H locs) (V2 : Hv D ka Z s A S2 H locs) (hap : ap S S2) (hr : va_Run p l e R s m args below meth c H locs cells slots mc ms (F0 m pc ls st0) rest (Qx enc post D ka S H.size av) (fA S H.size))
    (kk : ∀ (r : α) (S' : HS) (H1 : Heap) (locs1 : List Loc), post r S' → Hv D ka Z s A S' H1 locs1 → Hv D ka Z s A S2 H1 locs1 → ap S' S2 → W p l e R s m args below meth c H1 locs1 (cells + mc) (slots + ms) Q (F0 m (pc + 3) ls ((enc r).toList ++ rest))) : W p l e R s m args below meth c H locs cells slots Q (F0 m pc ls st0) := by
  intro T hT Y
  obtain ⟨v, st₀, t, T', L, h0, Y', hL, e1, e2, ⟨⟨r, S', hv, hp, hm, hd, hro, hvw⟩, hz, hk⟩, st⟩ := hr T hT Y
  cases hv
  rw [h0] at hz hk
  have hS := V.2.1
  have hA := V.2.2.1
  have hS1 : va_S A s.heap T'.heap (locs ++ L) := ⟨Nat.le_trans hS.1 (by rw [e1]; exact hz), fun q h1 h2 => by rw [e1, hk q (Nat.lt_of_lt_of_le h1 hS.1) (fun z => h2 (hA q z))]; exact hS.2.1 q h1 h2, fun q hq => by
      rcases List.mem_append.mp hq with h | h
      · exact hS.2.2 q h
      · exact hA _ (hL q h)⟩
  have V' : Hv D ka Z s A S' T'.heap (locs ++ L) := ⟨by rw [e1]; exact hvw, hS1, fun q h => by
      rcases h with h | h
      · exact hA q (hd q h.1 h.2)
      · exact X.2.2.1 q (Nat.le_trans hS1.1 h), hro, V.2.2.2.2.tr hm⟩
  have V2' : Hv D ka Z s A S2 T'.heap (locs ++ L) := V2.keep X hS1 (fun q h1 h2 => by
    rw [e1]
    refine hk q h1 (fun z => ?_)
    rcases z with z | z
    · exact hap q z h2
    · exact absurd h1 (Nat.not_lt.mpr z))
  have hap' : ap S' S2 := fun q h1 h2 => by
    rcases hd q h1.1 h1.2 with z | z
    · exact hap q z h2
    · exact absurd (V2.lt h2) (Nat.not_lt.mpr z)
  obtain ⟨t2, a1, b1⟩ := kk r S' T'.heap (locs ++ L) hp V' V2' hap' T' rfl Y'
  exact ⟨t2, st t2 a1, b1⟩
theorem r_callV2 {α : Type} {enc : α → Option Value} {post : α → HS → Prop} {y : MethodName} {bytes : ByteArray} {maxL index mc ms n k : Nat} {ret : Option FieldType} {rm : Room} {As : List Value} (X : Cx p s m meth c cc nL own D ka Z A) (V : Hv D ka Z s A S H locs) (V2 : Hv D ka Z s A S2 H locs) (hap : ap S S2) (hM : Met l y [Cond.code y bytes maxL ret] rm (Px D ka S H.size (.ref a :: As)) (Qx enc post D ka S H.size) mc ms (fA S H.size)) (hk : kd S a = k) (h1 : 1 ≤ k) (h8 : k ≤ 8) (hyk : y.cls = knm k)
    (hc : Cond.code y bytes maxL ret ∈ lw_tbl) (hl : Cond.methodLink own index y ∈ lw_tbl) (hi : Cond.initialized y.cls ∈ lw_tbl) (hin : Cond.instanceMethod y ∈ lw_tbl) (hse : Cond.selects (knm k) y y ∈ lw_tbl) (hrc : rm.cells = mc) (hrs : rm.slots = ms) (hd : y.cls ≠ "java/lang/invoke/MethodHandle" ∧ y.cls ≠ "java/lang/invoke/VarHandle" ∧ (parseMethodDescriptor y.desc).map (fun d => d.parameters.length) = some n) (hR : rm.frames + 1 ≤ R.frames ∧ 8 + (maxL + 11) + rm.locals ≤ R.locals) (hn : As.length = n) (hsz : ls.size = nL) (hst : st0 = As.reverse ++ .ref a :: rest) (hrest : (rest.map fun v => v.category).sum ≤ 8) (hdg : decode cc pc = .ok (.invokevirtual index, 3)) (hf : cells + mc ≤ R.cells ∧ slots + ms ≤ R.slots)
    (kk : ∀ (r : α) (S' : HS) (H1 : Heap) (locs1 : List Loc), post r S' → Hv D ka Z s A S' H1 locs1 → Hv D ka Z s A S2 H1 locs1 → ap S' S2 → W p l e R s m args below meth c H1 locs1 (cells + mc) (slots + ms) Q (F0 m (pc + 3) ls ((enc r).toList ++ rest))) : W p l e R s m args below meth c H locs cells slots Q (F0 m pc ls st0) := by
  subst hk
  refine r_call2 X V V2 hap (va_runV (Ts := []) (C := knm (kd S a)) (g := F0 m pc ls st0) (As := As) (rest := rest) ⟨X.1.1, X.1.2.1, X.1.2.2.1, X.1.2.2.2.1, fun _ h => absurd h List.not_mem_nil⟩ hM ⟨cb_of X hc hl hi hrc hrs hd hR, X.w hin rfl args, X.w hse rfl args⟩ ⟨Px.blind, V.recv X h1 h8, fun U hU hW => V.px X hU hW⟩ rfl hn hsz hst (lv_room hrest) hdg hf) kk
theorem r_callI2 {α : Type} {enc : α → Option Value} {post : α → HS → Prop} {y : MethodName} {bytes : ByteArray} {maxL index mc ms n : Nat} {rm : Room} {As : List Value} (X : Cx p s m meth c cc nL own D ka Z A) (V : Hv D ka Z s A S H locs) (V2 : Hv D ka Z s A S2 H locs) (hap : ap S S2) (hM : Met l y [Cond.code y bytes maxL none] rm (Px D ka S H.size (.ref a :: As)) (Qx enc post D ka S H.size) mc ms (fA S H.size))
    (hc : Cond.code y bytes maxL none ∈ lw_tbl) (hl : Cond.methodLink own index y ∈ lw_tbl) (hi : Cond.initialized y.cls ∈ lw_tbl) (hin : Cond.instanceMethod y ∈ lw_tbl) (hy1 : y.name = "<init>") (hrc : rm.cells = mc) (hrs : rm.slots = ms) (hd : y.cls ≠ "java/lang/invoke/MethodHandle" ∧ y.cls ≠ "java/lang/invoke/VarHandle" ∧ (parseMethodDescriptor y.desc).map (fun d => d.parameters.length) = some n) (hR : rm.frames + 1 ≤ R.frames ∧ 8 + (maxL + 11) + rm.locals ≤ R.locals) (hn : As.length = n) (hsz : ls.size = nL) (hst : st0 = As.reverse ++ .ref a :: rest) (hrest : (rest.map fun v => v.category).sum ≤ 8) (hdg : decode cc pc = .ok (.invokespecial index, 3)) (hf : cells + mc ≤ R.cells ∧ slots + ms ≤ R.slots)
    (kk : ∀ (r : α) (S' : HS) (H1 : Heap) (locs1 : List Loc), post r S' → Hv D ka Z s A S' H1 locs1 → Hv D ka Z s A S2 H1 locs1 → ap S' S2 → W p l e R s m args below meth c H1 locs1 (cells + mc) (slots + ms) Q (F0 m (pc + 3) ls ((enc r).toList ++ rest))) : W p l e R s m args below meth c H locs cells slots Q (F0 m pc ls st0) := by
  refine r_call2 X V V2 hap (va_runI (Ts := []) (g := F0 m pc ls st0) (b := a) (As := As) (rest := rest) ⟨X.1.1, X.1.2.1, X.1.2.2.1, X.1.2.2.2.1, fun _ h => absurd h List.not_mem_nil⟩ hM ⟨cb_of X hc hl hi hrc hrs hd hR, hy1, X.w hin rfl args⟩ ⟨Px.blind, fun U hU hW => V.px X hU hW⟩ rfl hn hsz hst (lv_room hrest) hdg hf) kk
/-- a new object: the other view stays -/
theorem r_new2 (X : Cx p s m meth c cc nL own D ka Z A) (V : Hv D ka Z s A S H locs) (V2 : Hv D ka Z s A S2 H locs) (hap : ap S S2) {C : String} {T : u_T} {N ci index k : Nat} {fs : List Value} (hc : vwCl[ci]? = some (C, T, N)) (hin : ∀ w ∈ u_ws C T N, w ∈ lw_tbl ∧ okW w = true) (ty : Nat → FieldType) (hty : ∀ k, k < N → parseFieldDescriptor (T k).2.2.1 = some (ty k)) (hcl : Cond.classLink own index C ∈ lw_tbl) (hinst : Cond.instantiable C N ∈ lw_tbl) (hini : Cond.initialized C ∈ lw_tbl) (hk0 : k ≠ 0) (hk1 : k ≠ 224) (hfs : ∀ j, j < N → defaultValue (ty j) = vp_V fs j) (hF : ∀ q, wF ka (snw S q k 0) q = .inr (ci, fs))
    (hcells : cells + 1 ≤ R.cells) (hslots : slots + N ≤ R.slots) (hdg : decode cc pc = .ok (.new index, 3)) (kk : ∀ (q : Nat) (H1 : Heap), kd S q = 0 → Hv D ka Z s A (snw S q k 0) H1 locs → Hv D ka Z s A S2 H1 locs → ap (snw S q k 0) S2 → W p l e R s m args below meth c H1 locs (cells + 1) (slots + N) Q (F0 m (pc + 3) ls (.ref q :: rest))) : W p l e R s m args below meth c H locs cells slots Q (F0 m pc ls rest) := by
  obtain ⟨⟨L, hL, hP, hD⟩, hS, -⟩ := id V
  have hD2 := V.apart hL hD
  have hKn := X.2.1.2.1.1 ci _ hc
  refine W.newcK X.1.1 X.1.2.1 X.1.2.2.2.1 (X.w hcl rfl args) (X.w hinst rfl args) (X.w hini rfl args) rfl hdg hcells hslots hKn.2.1 rfl fun H1 kC hkC e1 z1 o1 => ?_
  obtain ⟨hq0, hqe⟩ := Hv.fresh (q := H.size) (x := .inr (ci, fs)) X V hL rfl
  have hkp : ∀ (k : Nat) (x : Nat × va_E), (va_pl L (wF ka S))[k]? = some x → H1[x.1]? = H[x.1]? := fun k x hx => o1 x.1 ((hP k x hx).lt)
  have hS1 : va_S A s.heap H1 locs := ⟨Nat.le_trans hS.1 (by omega), fun x h1 h2 => (o1 x (Nat.lt_of_lt_of_le h1 hS.1)).trans (hS.2.1 x h1 h2), hS.2.2⟩
  refine kk H.size H1 hq0 (Hv.new (x := .inr (ci, fs)) X V hL hk0 hk1 hq0 hqe (hF _) ((hP.kept hkp).app (fun k x hx => ?_)) (hD2.push hP rfl (X.2.2.1 _ hS.1)) hS1) (V2.keep X hS1 (fun q h _ => o1 q h)) (fun q h1 h2 => ?_)
  · have hz : k < 1 := (List.getElem?_eq_some_iff.mp hx).1
    rw [show k = 0 by omega] at hx
    cases hx
    exact ⟨_, hc, (u_born ty (fun w h => X.w (hin w h).1 (hin w h).2 args) (fun _ h => h) hKn hkC e1 hty).to hfs⟩
  · by_cases z : q = H.size
    · have := V2.lt h2
      omega
    · have e0 : kd (snw S H.size k 0) q = kd S q := va_up_ne _ _ z
      rw [e0] at h1
      exact hap q h1 h2
/-- an int of the script onto the stack -/
theorem l_arg (X : Cx p s m meth c cc nL own D ka Z A) {b L g o i k : Nat} {xs : Nat → Int32} {kz : Int} {kv : Int32} (hX : va_X b L xs s s.heap) (hbl : b < s.heap.size) (hbA : ¬ A b) (hS : va_S A s.heap H locs) (hl : lv_has ls nL [(3, .int (nI i)), (2, .ref o), (1, .ref g), (0, .ref b)]) (hk : i + k < L) (hL : L ≤ 2560) (hkz : Int32.ofInt kz = kv) (hkv : kv = nI k)
    (d0 : decode cc pc = .ok (.aload_n 0, 1)) (d1 : decode cc (pc + 1) = .ok (.iload_n 3, 1)) (d2 : decode cc (pc + 2) = .ok (.iconst kz, 1)) (d3 : decode cc (pc + 3) = .ok (.iadd, 1)) (d4 : decode cc (pc + 4) = .ok (.iaload, 1)) (kk : W p l e R s m args below meth c H locs cells slots Q (F0 m (pc + 5) ls (.int (xs (i + k)) :: rest))) : W p l e R s m args below meth c H locs cells slots Q (F0 m pc ls rest) := by
  refine lv_aload_n X.1.1 X.1.2.1 d0 rfl (lv_at hl 3 rfl) ?_
  refine lv_iload_n X.1.1 X.1.2.1 d1 rfl (lv_at hl 0 rfl) ?_
  refine lv_iconst X.1.1 X.1.2.1 d2 hkz ?_
  refine lv_iadd X.1.1 X.1.2.1 d3 ?_
  rw [hkv, nI_add]
  refine va_sld X.1.1 X.1.2.1 hX hbl hbA hS (vp_in_nI hk (by omega)) d4 ?_
  rw [nI_clamp (by omega)]
  exact kk
end LW
theorem RC.k {S : HS} {g : Nat} {G : Nat → Nat} {T : TS} (h : RC S g G T) : kd S g = 7 := by
  obtain ⟨w, A, h⟩ := h
  exact h.1.1
/-! ===== what stands between two calls of the law ===== -/
def Inv (D : va_G) (ka : Nat → ClassId) (Z : HS) (s : State) (A : Nat → Prop) (g o : Nat) (R : Nat → Nat) (T : TS) (N : Nat) (H : Heap) (locs : List Loc) : Prop := ∃ (Sc Sr : HS) (G : Nat → Nat), Hv D ka Z s A Sc H locs ∧ Hv D ka Z s A Sr H locs ∧ ap Sc Sr ∧ RC Sc g G T ∧ RV Sr o R T ∧ OkT T N
