/-! ===== the reference's cells hold the state ===== -/
def plc (p : Nat ⊕ Nat) : Int32 := match p with | Sum.inl s => nI s | Sum.inr e => -1 - nI e
def RvS (S : HS) (o : Nat) (R : Nat → Nat) (T : TS) : Prop := fi S 28 o = nI (tS T).length ∧ ∀ i s, (tS T)[i]? = some s → ai S (R 0) i = nI s.1 ∧ ai S (R 1) i = nI s.2.1 ∧ 2199023255552 + (ai S (R 2) i).toBitVec.toNat = s.2.2.1 ∧ ai S (R 3) i = nI s.2.2.2.1 ∧ ∀ k b, s.2.2.2.2[k]? = some b → ai S (R 5) (6 * i + k) = nI b.length ∧ ∀ j, j < b.length → ai S (R 4) (120 * (6 * i + k) + j) &&& 255 = nI (gb b j)
def RvW (S : HS) (R : Nat → Nat) (T : TS) : Prop := ∀ e d, e < 8 → d < 8 → ai S (R 6) (8 * e + d) = nI (tW T e d)
def RvQ (S : HS) (R : Nat → Nat) (T : TS) : Prop := ∀ e, e < 8 → ai S (R 7) e = nI (tQ T e)
def RvK (S : HS) (R : Nat → Nat) (T : TS) : Prop := ∀ e, e < 8 → ai S (R 8) e = nI (tK T e).length ∧ ∀ k κ, (tK T e)[k]? = some κ → ai S (R 9) (24 * e + k) = nI κ.1 ∧ al S (R 10) (24 * e + k) = lN κ.2.1 ∧ ai S (R 11) (24 * e + k) = plc κ.2.2.1 ∧ al S (R 12) (24 * e + k) = lN κ.2.2.2
def RvB (S : HS) (a f : Nat) (b : List Nat) : Prop := ∀ j, j < b.length → ai S a (f + j) &&& 255 = nI (gb b j)
def RvT (S : HS) (o : Nat) (R : Nat → Nat) (T : TS) : Prop := fi S 43 o = nI (tT T).length ∧ RvB S (R 13) 0 (tT T)
def RvF (S : HS) (o : Nat) (R : Nat → Nat) (T : TS) : Prop := fi S 47 o = nI (tF T).length ∧ ∀ i f, (tF T)[i]? = some f → ai S (R 15) i = nI f.1.length ∧ ai S (R 16) i = nI f.2 ∧ RvB S (R 14) (120 * i) f.1
def RvC (S : HS) (R : Nat → Nat) (T : TS) : Prop := ∀ k, k < 13 → ai S (R 17) k = nI (tC T k)
def RV (S : HS) (o : Nat) (R : Nat → Nat) (T : TS) : Prop := RM S o R ∧ fi S 27 o = nI (tN T) ∧ RvS S o R T ∧ RvW S R T ∧ RvQ S R T ∧ RvK S R T ∧ RvT S o R T ∧ RvF S o R T ∧ RvC S R T
/-- what of the reference's cells may have changed -/
def rfm (S S' : HS) (o : Nat) (R : Nat → Nat) (wf wj : Nat → Bool) : Prop := (∀ f, wf f = false → fi S' f o = fi S f o) ∧ ∀ j, j < 20 → wj j = false → ai S' (R j) = ai S (R j) ∧ al S' (R j) = al S (R j)
theorem rfm.rf {S : HS} {o : Nat} {R : Nat → Nat} {wf wj : Nat → Bool} : rfm S S o R wf wj := ⟨fun _ _ => rfl, fun _ _ _ => ⟨rfl, rfl⟩⟩
theorem rfm.tr {S S' S'' : HS} {o : Nat} {R : Nat → Nat} {wf wj : Nat → Bool} (h : rfm S S' o R wf wj) (g : rfm S' S'' o R wf wj) : rfm S S'' o R wf wj := ⟨fun f q => (g.1 f q).trans (h.1 f q), fun j hj q => ⟨(g.2 j hj q).1.trans (h.2 j hj q).1, (g.2 j hj q).2.trans (h.2 j hj q).2⟩⟩
theorem rfm.wfi {S : HS} {o : Nat} {R : Nat → Nat} {wf wj : Nat → Bool} {f : Nat} {v : Int32} (h : wf f = true) : rfm S (sfi S f o v) o R wf wj := ⟨fun g q => fi_ne S f o v (Or.inl (fun e => by rw [e, h] at q; cases q)), fun _ _ _ => ⟨rfl, rfl⟩⟩
theorem rfm.wai {S : HS} {o : Nat} {R : Nat → Nat} {wf wj : Nat → Bool} {j i : Nat} {v : Int32} (hM : RM S o R) (hj : j < 20) (h : wj j = true) : rfm S (sai S (R j) i v) o R wf wj := ⟨fun _ _ => rfl, fun k hk q => ⟨ai_ne S (R j) i v (hM.ne hk hj (fun e => by rw [e, h] at q; cases q)), rfl⟩⟩
theorem al_self (S : HS) (a i : Nat) (v : Int64) (j : Nat) : al (sal S a i v) a j = if j = i then v else al S a j := by
  show va_up (al S) a (vp_updL (al S a) i v) a j = _
  rw [va_up_self]; rfl
theorem al_ne (S : HS) (a i : Nat) (v : Int64) {b : Nat} (h : b ≠ a) : al (sal S a i v) b = al S b := va_up_ne _ _ h
theorem rfm.wal {S : HS} {o : Nat} {R : Nat → Nat} {wf wj : Nat → Bool} {j i : Nat} {v : Int64} (hM : RM S o R) (hj : j < 20) (h : wj j = true) : rfm S (sal S (R j) i v) o R wf wj := ⟨fun _ _ => rfl, fun k hk q => ⟨rfl, al_ne S (R j) i v (hM.ne hk hj (fun e => by rw [e, h] at q; cases q))⟩⟩
theorem RvS.fr {S S' : HS} {o : Nat} {R : Nat → Nat} {T T' : TS} {wf wj : Nat → Bool} (h : RvS S o R T) (g : rfm S S' o R wf wj) (e : tS T' = tS T) (h1 : wf 28 = false) (h2 : wj 0 = false ∧ wj 1 = false ∧ wj 2 = false ∧ wj 3 = false ∧ wj 4 = false ∧ wj 5 = false) : RvS S' o R T' := by
  unfold RvS
  rw [e, g.1 28 h1, (g.2 0 (by decide) h2.1).1, (g.2 1 (by decide) h2.2.1).1, (g.2 2 (by decide) h2.2.2.1).1, (g.2 3 (by decide) h2.2.2.2.1).1, (g.2 4 (by decide) h2.2.2.2.2.1).1, (g.2 5 (by decide) h2.2.2.2.2.2).1]
  exact h
theorem RvW.fr {S S' : HS} {o : Nat} {R : Nat → Nat} {T T' : TS} {wf wj : Nat → Bool} (h : RvW S R T) (g : rfm S S' o R wf wj) (e : tW T' = tW T) (h2 : wj 6 = false) : RvW S' R T' := by
  unfold RvW
  rw [e, (g.2 6 (by decide) h2).1]
  exact h
theorem RvQ.fr {S S' : HS} {o : Nat} {R : Nat → Nat} {T T' : TS} {wf wj : Nat → Bool} (h : RvQ S R T) (g : rfm S S' o R wf wj) (e : tQ T' = tQ T) (h2 : wj 7 = false) : RvQ S' R T' := by
  unfold RvQ
  rw [e, (g.2 7 (by decide) h2).1]
  exact h
theorem RvK.fr {S S' : HS} {o : Nat} {R : Nat → Nat} {T T' : TS} {wf wj : Nat → Bool} (h : RvK S R T) (g : rfm S S' o R wf wj) (e : tK T' = tK T) (h2 : wj 8 = false ∧ wj 9 = false ∧ wj 10 = false ∧ wj 11 = false ∧ wj 12 = false) : RvK S' R T' := by
  unfold RvK
  rw [e, (g.2 8 (by decide) h2.1).1, (g.2 9 (by decide) h2.2.1).1, (g.2 10 (by decide) h2.2.2.1).2, (g.2 11 (by decide) h2.2.2.2.1).1, (g.2 12 (by decide) h2.2.2.2.2).2]
  exact h
theorem RvT.fr {S S' : HS} {o : Nat} {R : Nat → Nat} {T T' : TS} {wf wj : Nat → Bool} (h : RvT S o R T) (g : rfm S S' o R wf wj) (e : tT T' = tT T) (h1 : wf 43 = false) (h2 : wj 13 = false) : RvT S' o R T' := by
  unfold RvT RvB
  rw [e, g.1 43 h1, (g.2 13 (by decide) h2).1]
  exact h
theorem RvF.fr {S S' : HS} {o : Nat} {R : Nat → Nat} {T T' : TS} {wf wj : Nat → Bool} (h : RvF S o R T) (g : rfm S S' o R wf wj) (e : tF T' = tF T) (h1 : wf 47 = false) (h2 : wj 14 = false ∧ wj 15 = false ∧ wj 16 = false) : RvF S' o R T' := by
  unfold RvF RvB
  rw [e, g.1 47 h1, (g.2 14 (by decide) h2.1).1, (g.2 15 (by decide) h2.2.1).1, (g.2 16 (by decide) h2.2.2).1]
  exact h
theorem RvC.fr {S S' : HS} {o : Nat} {R : Nat → Nat} {T T' : TS} {wf wj : Nat → Bool} (h : RvC S R T) (g : rfm S S' o R wf wj) (e : tC T' = tC T) (h2 : wj 17 = false) : RvC S' R T' := by
  unfold RvC
  rw [e, (g.2 17 (by decide) h2).1]
  exact h
/-- only scratch has changed -/
def scr : Nat → Bool := fun f => f == 50 || f == 52
def scj : Nat → Bool := fun j => j == 18 || j == 19
theorem RV.scr {S S' : HS} {o : Nat} {R : Nat → Nat} {T : TS} (h : RV S o R T) (hM : RM S' o R) (g : rfm S S' o R scr scj) : RV S' o R T := by
  obtain ⟨-, h1, h2, h3, h4, h5, h6, h7, h8⟩ := h
  exact ⟨hM, (g.1 27 rfl).trans h1, h2.fr g rfl rfl ⟨rfl, rfl, rfl, rfl, rfl, rfl⟩, h3.fr g rfl rfl, h4.fr g rfl rfl, h5.fr g rfl ⟨rfl, rfl, rfl, rfl, rfl⟩, h6.fr g rfl rfl rfl, h7.fr g rfl rfl ⟨rfl, rfl, rfl⟩, h8.fr g rfl rfl⟩
/-! ===== the small questions ===== -/
theorem rg_c {post : Int32 → HS → Prop} {S : HS} {x n : Int32} {N : Nat} (hn : n = nI N) (hN : N < 2 ^ 31) (h1 : ∀ j : Nat, x = nI j → j < N → post 1 S) (h0 : (∀ j : Nat, j < N → ¬ x = nI j) → post 0 S) : (x < 0 → post 0 S) ∧ (¬ x < 0 → (n ≤ x → post 0 S) ∧ (¬ n ≤ x → post 1 S)) := by
  subst hn
  refine ⟨fun c => h0 (fun j hj e => ?_), fun c => ?_⟩
  · subst e; exact nI_pos (by omega) c
  · obtain ⟨j, hj, rfl⟩ := nI_of c
    refine ⟨fun c2 => h0 (fun k hk e => ?_), fun c2 => h1 j rfl (Nat.not_le.mp fun q => c2 ((nI_leI hN hj).mpr q))⟩
    have h3 := (nI_leI hN hj).mp c2
    have := (nI_eq hj (by omega)).mp e
    omega
theorem q_isE {post : Int32 → HS → Prop} {S : HS} {o : Nat} {R : Nat → Nat} {T : TS} {N : Nat} (h : RV S o R T) (hT : OkT T N) {x : Int32} (h1 : ∀ j : Nat, x = nI j → j < tN T → post 1 S) (h0 : (∀ j : Nat, j < tN T → ¬ x = nI j) → post 0 S) : wq_X7_isEndpoint post R S o x := rg_c h.2.1 (by have := hT.1.2; omega) h1 h0
theorem q_isS {post : Int32 → HS → Prop} {S : HS} {o : Nat} {R : Nat → Nat} {T : TS} {N : Nat} (h : RV S o R T) (hT : OkT T N) {x : Int32} (h1 : ∀ j : Nat, x = nI j → j < (tS T).length → post 1 S) (h0 : (∀ j : Nat, j < (tS T).length → ¬ x = nI j) → post 0 S) : wq_X7_isStation post R S o x := rg_c h.2.2.1.1 (by have := hT.2.1.1; omega) h1 h0
theorem q_isP {post : Int32 → HS → Prop} {S : HS} {o : Nat} {R : Nat → Nat} {T : TS} {N : Nat} (h : RV S o R T) (hT : OkT T N) {x : Int32} (h1 : ∀ j : Nat, x = nI j → j < (tF T).length → post 1 S) (h0 : (∀ j : Nat, j < (tF T).length → ¬ x = nI j) → post 0 S) : wq_X7_isPacket post R S o x := rg_c h.2.2.2.2.2.2.2.1.1 (by have := hT.2.2.2.2.2.1; omega) h1 h0
theorem get_lt {α : Type} {l : List α} {i : Nat} (h : i < l.length) : ∃ x, l[i]? = some x := ⟨l[i], List.getElem?_eq_getElem h⟩
/-- is there a station of the net at e among those from i on -/
def hasF (l : List Sta) (e net : Nat) : Bool := l.any (fun s => decide (s.1 = e ∧ s.2.1 = net))
theorem q_has_loop {post : Int32 → HS → Prop} {S : HS} {o : Nat} {R : Nat → Nat} {T : TS} {N : Nat} (h : RV S o R T) (hT : OkT T N) {e net : Nat} (he : e < 8) (hnet : net < 16777216) (hp : post (if t_has T e net then 1 else 0) S) : ∀ (k i : Nat) (b : Bool), i + k = (tS T).length → (b || hasF ((tS T).drop i) e net) = t_has T e net → wq_X7_has_5 (k + 1) post R S o (nI e) (nI net) (if b then 1 else 0) (nI i) := by
  have hl := hT.2.1.1
  intro k
  induction k with
  | zero =>
    intro i b hi hb
    rw [List.drop_eq_nil_of_le (by omega)] at hb
    have hb' : b = t_has T e net := by simpa [hasF] using hb
    refine ⟨fun _ => ⟨by cases b <;> decide, by rw [hb']; exact hp⟩, fun c => absurd ?_ c⟩
    rw [h.2.2.1.1]; exact (nI_leI (by omega) (by omega)).mpr (by omega)
  | succ k ih =>
    intro i b hi hb
    obtain ⟨s, hs⟩ := get_lt (l := tS T) (i := i) (by omega)
    obtain ⟨f1, f2, -⟩ := h.2.2.1.2 i s hs
    have hm := hT.2.1.2 s (List.mem_of_getElem? hs)
    have hd : (tS T).drop i = s :: (tS T).drop (i + 1) := by
      rw [List.drop_eq_getElem_cons (by omega : i < (tS T).length)]
      congr 1
      exact Option.some.inj ((List.getElem?_eq_getElem (by omega)).symm.trans hs)
    rw [hd] at hb
    have go : ∀ b2 : Bool, (b2 || hasF ((tS T).drop (i + 1)) e net) = t_has T e net → wq_X7_has_5 (k + 1) post R S o (nI e) (nI net) (if b2 then 1 else 0) (nI i + 1) := fun b2 hb2 => by rw [nI_1]; exact ih (i + 1) b2 (by omega) hb2
    have z0 : ∀ b : Bool, (if b then (1 : Int32) else 0) ||| 0 = if b then 1 else 0 := by decide
    have z1 : ∀ b : Bool, (if b then (1 : Int32) else 0) ||| 1 = if true then 1 else 0 := by decide
    refine ⟨fun c => ?_, fun _ => ⟨vp_in_nI (by omega) (by decide), ?_⟩⟩
    · rw [h.2.2.1.1] at c
      exact absurd ((nI_leI (by omega) (by omega)).mp c) (by omega)
    · rw [nI_clamp (by omega), f1]
      refine ⟨fun c => ?_, fun c => ⟨vp_in_nI (by omega) (by decide), ?_⟩⟩
      · rw [z0]
        refine go b ?_
        have : ¬ s.1 = e := fun q => c (by rw [q])
        simpa [hasF, this] using hb
      · have e1 : s.1 = e := (nI_eq (by have := hm.1; have := hT.1.2; omega) (by omega)).mp c
        rw [f2]
        refine ⟨fun c2 => ?_, fun c2 => ?_⟩
        · rw [z0]
          refine go b ?_
          have : ¬ s.2.1 = net := fun q => c2 (by rw [q])
          simpa [hasF, this] using hb
        · have e2 : s.2.1 = net := (nI_eq (by have := hm.2.1; omega) (by omega)).mp c2
          rw [z1]
          refine go true ?_
          simpa [hasF, e1, e2] using hb
theorem q_has {post : Int32 → HS → Prop} {S : HS} {o : Nat} {R : Nat → Nat} {T : TS} {N : Nat} (h : RV S o R T) (hT : OkT T N) {e net : Nat} (he : e < 8) (hnet : net < 16777216) (hp : post (if t_has T e net then 1 else 0) S) : wq_X7_has post R S o (nI e) (nI net) :=
  ⟨(tS T).length + 1, q_has_loop h hT he hnet hp (tS T).length 0 false (by omega) (by simp [hasF, t_has])⟩
