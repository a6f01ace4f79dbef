/-! ===== System.arraycopy of references; Arrays.copyOf's class argument ===== -/
section RCP
variable {p : Program} {l : Launch} {e : Env} {R : Room} {s : State} {m : MethodId} {args : Array Value} {below : List Frame} {meth : Method} {c : Code} {H : Heap} {locs : List Loc} {cells slots : Nat} {Q : State → Prop}
variable {cc : ByteArray} {nL : Nat} {own : String} {D : va_G} {ka : Nat → ClassId} {Z : HS} {A : Nat → Prop} {S : HS} {pc : Nat} {ls : Array Slot} {rest st0 : List Value} {a : Nat}
theorem r_copy {b index : Nat} {sp dp n : Int32} (X : Cx p s m meth c cc nL own D ka Z A) (V : Hv D ka Z s A S H locs) (hml : c.maxLocals = ls.size) (h1 : kd S b / 32 = 6) (h2 : kd S a / 32 = 6)
    (u : ¬ sp < 0 ∧ ¬ dp < 0 ∧ ¬ n < 0 ∧ sp.toNatClampNeg + n.toNatClampNeg ≤ ln S b ∧ dp.toNatClampNeg + n.toNatClampNeg ≤ ln S a ∧ (∀ i : Nat, i < n.toNatClampNeg → ∀ y : Nat, ar S b (sp.toNatClampNeg + i) = some y → 2 ≤ kd S y ∧ kd S y ≤ 8))
    (hl : Cond.methodLink own index arraycopyName ∈ lw_tbl) (hnat : Cond.native arraycopyName ∈ lw_tbl) (hstat : Cond.static arraycopyName ∈ lw_tbl) (hini : Cond.initialized "java/lang/System" ∈ lw_tbl) (hframes : 1 ≤ R.frames) (hlocals : (rest.map fun v => v.category).sum + (nativeFrameWords "java/lang/System" "arraycopy" 5 + 11) ≤ R.locals) (hdg : decode cc pc = .ok (.invokestatic index, 3))
    (kk : ∀ (H1 : Heap) (locs1 : List Loc), Hv D ka Z s A (scp S a (va_cpy (ar S b) (ar S a) sp.toNatClampNeg dp.toNatClampNeg n.toNatClampNeg)) H1 locs1 → W p l e R s m args below meth c H1 locs1 cells slots Q (F0 m (pc + 3) ls rest)) : W p l e R s m args below meth c H locs cells slots Q (F0 m pc ls (.int n :: .int dp :: .ref a :: .int sp :: .ref b :: rest)) := by
  obtain ⟨u1, u2, u3, u4, u5, u6⟩ := u
  obtain ⟨⟨L, hL, hP, hD⟩, hS, -⟩ := id V
  have hD2 := V.apart hL hD
  have hm := (hL a).mpr (k_of h2 (by decide) (by decide))
  have hmb := (hL b).mpr (k_of h1 (by decide) (by decide))
  obtain ⟨q0, hq⟩ := va_pl_get (X := []) (f := wF ka S) hm
  obtain ⟨q1, hq1⟩ := va_pl_get (X := []) (f := wF ka S) hmb
  refine va_copyM X.1.1 X.1.2.1 hml X.1.2.2.2.1 (X.w hl rfl args) (X.w hnat rfl args) (X.w hstat rfl args) (X.w hini rfl args) X.2.1.2.1 hP hD2 hS q1 q0 5 5 (hq1.trans (by rw [wF_aO h1])) (hq.trans (by rw [wF_aO h2])) rfl rfl u1 u2 u3 u4 u5 (fun i hi y hy => V.any X (u6 i hi y hy).1 (u6 i hi y hy).2) hframes hlocals hdg (fun H1 locs1 hP1 hD1 hS1 => kk H1 locs1 (Hv.set X V rfl rfl rfl (fun b hb => wF_scp hb) ?_ hL hm hD2 hq hP1 hD1 hS1))
  rw [wF_aO (S := scp S a (va_cpy (ar S b) (ar S a) sp.toNatClampNeg dp.toNatClampNeg n.toNatClampNeg)) h2]
  show Sum.inl (ka 6, ln S a, Sum.inr (Sum.inr (Sum.inr (Sum.inr (va_up (ar S) a (va_cpy (ar S b) (ar S a) sp.toNatClampNeg dp.toNatClampNeg n.toNatClampNeg) a))))) = _
  rw [va_up_self]
end RCP
def Pm (D : va_G) (ka : Nat → ClassId) (S : HS) (sz : Nat) (av : List Value) (mi : Nat) : Array Value → State → Prop := fun v U => Px D ka S sz av v U ∧ va_Mi "[Ljava/lang/Object;" mi U
theorem Pm.blind {D : va_G} {ka : Nat → ClassId} {S : HS} {sz mi : Nat} {av : List Value} : FrameBlind (Pm D ka S sz av mi) := by
  intro a U g mk h
  have hw : U.WarmedH (U.calling g mk a).vm := State.WarmedH.refl U
  exact ⟨Px.blind a U g mk h.1, h.2.moved hw.alike⟩
