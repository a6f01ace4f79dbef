/-! ===== the class: a packet goes ===== -/
theorem frnk {S S' : HS} (f : frn S S') : kr S S' := frm.kr f (fun _ _ => id) (fun _ _ => id) (fun _ _ => id)
theorem RepC.frn {w' : Nat → Nat} {S S' : HS} {g : Nat} {G w : Nat → Nat} {A : Nat → List Nat} {T : TS} (h : RepC S g G w A T) (f : frn S S') (hw : sam S w w') : RepC S' g G w' A T := h.free f hw (fun _ _ q => q.elim) (fun _ _ q => q.elim) (fun _ q => q.elim) (fun _ q => q.elim)
theorem c_launch {post : Unit → HS → Prop} {S : HS} {g : Nat} {G w : Nat → Nat} {A : Nat → List Nat} {T : TS} {N e d net r c n : Nat} {b : List Nat} (h : RepC S g G w A T) (hT : OkT T N) (he : e < 8) (hd : d < 8) (hnet : net < 16777216) (hr : RowAt S r c n b) (hb : By b) (h12 : 12 ≤ b.length) (h54 : b.length ≤ 54) (hp : ∀ S' w' A', RepC S' g G w' A' (t_go T e d net b) → kr S S' → sam S w w' → (∀ i, i ≠ 9 → A' i = A i) → post () S') : wp_X6_launch post S g r (nI net) (G (10 + e)) (nI d) := by
  have h50 := hT.2.2.2.2.2.1
  obtain ⟨b1, b2, b3, b4, b5, b6, b7⟩ := h.E.2 e he
  obtain ⟨-, cw⟩ := h.2.2.1 e d he hd
  obtain ⟨-, cq⟩ := h.2.2.2.1 e he
  refine ⟨b2, fun c => absurd c (nI_pos (by omega)), fun _ => ⟨fun c => absurd ((nI_leI (a := 8) (by omega) (by omega)).mp c) (by omega), fun _ => ⟨b2, G (30 + e), b5, by rw [b6], by rw [b7]; exact vp_in_nI (by omega) (by decide), ?_⟩⟩⟩
  rw [nI_clamp (by omega), cw]
  show wp_X5_wrap _ S r (nI net) (nI (tW T e d)) (fi S 6 (G (10 + e))) (fi S 3 (G (10 + e))) (nI d)
  rw [cq, b3]
  refine c_wrap hr hb h12 h54 (hT.2.2.2.1 e d) he hd hnet (fun o c' n' S5 ho hc' hoc f5 r5 => ⟨o, rfl, ?_⟩)
  generalize hpk : pkt (tW T e d) (tQ T e) e d net b = p at *
  have sm5 : sam S w (va_up (va_up w o 0) c' (o + 1)) := (sam.rf.up (Or.inl ho)).up (Or.inl hc')
  have w5o : va_up (va_up w o 0) c' (o + 1) o = 0 := (va_up_ne _ _ hoc).trans (va_up_self _ _ _)
  have w5c : va_up (va_up w o 0) c' (o + 1) c' = o + 1 := va_up_self _ _ _
  have h5 := h.frn f5 sm5
  generalize va_up (va_up w o 0) c' (o + 1) = w5 at *
  obtain ⟨-, cq5⟩ := h5.2.2.2.1 e he
  obtain ⟨-, b25, -⟩ := h5.E.2 e he
  rw [cq5, nI_1]
  have h6 := h5.lau he
  have f6 : frm S5 (sfi S5 6 (G (10 + e)) (nI (tQ T e + 1))) (fun f x => f = 6 ∧ x = G (10 + e)) no2 no1 no1 := frm.wfi (Or.inr ⟨rfl, rfl⟩)
  generalize hS6 : sfi S5 6 (G (10 + e)) (nI (tQ T e + 1)) = S6 at *
  have r6 : RowAt S6 o c' n' p := r5.fr f6 (fun z => absurd z.1 (by decide)) id id
  have k6 : kr S5 S6 := f6.kr (fun _ _ z => absurd z.1 (by decide)) (fun _ _ => id) (fun _ _ => id)
  refine ⟨h6.F.1, G 29, h6.F.2.2.2.1, fun a ha => ?_⟩
  have hao : a ≠ o := fun z => by have := r6.1.1; rw [← z, ha] at this; cases this
  have hac : a ≠ c' := fun z => by have := r6.1.2.2.1; rw [← z, ha] at this; cases this
  have ka : kd (snw S6 a 4 0) a = 4 := va_up_self _ _ _
  refine ⟨ka, ?_⟩
  have f8 : frn S6 (sfi (sfr (snw S6 a 4 0) 12 a (some o)) 13 a (nI d)) := ((frm.wnw ha).tsfr (Or.inl ha)).tsfi (Or.inl ha)
  have sm8 : sam S6 w5 (va_up (va_up w5 a 1) o (a + 3)) := (sam.rf.up (Or.inl ha)).up (Or.inr (Or.inl w5o))
  have h8 := h6.frn f8 sm8
  have r8 : RowAt (sfi (sfr (snw S6 a 4 0) 12 a (some o)) 13 a (nI d)) o c' n' p := r6.fr f8 id id id
  have p8 : PkAt (sfi (sfr (snw S6 a 4 0) 12 a (some o)) 13 a (nI d)) (va_up (va_up w5 a 1) o (a + 3)) a (p, d) := by
    refine ⟨ka, fi_self _ _ _ _, o, c', n', ?_, va_up_self _ _ _, ?_, r8⟩
    · show fr (sfr (snw S6 a 4 0) 12 a (some o)) 12 a = some o
      rw [fr_self]
    · rw [va_up_ne _ _ (fun z => hoc z.symm), va_up_ne _ _ (fun z => hac z.symm)]; exact w5c
  have wa8 : va_up (va_up w5 a 1) o (a + 3) a = 1 := (va_up_ne _ _ hao).trans (va_up_self _ _ _)
  have ka8 : kd (sfi (sfr (snw S6 a 4 0) 12 a (some o)) 13 a (nI d)) a = 4 := ka
  obtain ⟨-, d6, hL6, -⟩ := h6.L (i := 9) (by omega)
  have hna := mem_kd hL6 ha
  generalize sfi (sfr (snw S6 a 4 0) 12 a (some o)) 13 a (nI d) = S8 at *
  generalize va_up (va_up w5 a 1) o (a + 3) = w8 at *
  obtain ⟨hn8, d8, hL8, hd8⟩ := h8.L (i := 9) (by omega)
  have hlen : (A 9).length = (tF T).length := h.P.1
  refine ⟨hL8.1, sp_add hL8 (by omega) (by omega) (fun S9 q f9 hL9 hq => ?_)⟩
  have sm9 : sam S8 w8 (va_up w8 q 10) := sam.rf.up (by
    rcases hq with z | z
    · rw [z]
      rcases hL8.kd with u | u
      · exact Or.inr (Or.inr (hd8 u))
      · refine Or.inl ?_
        exfalso
        rw [z] at hL9
        rcases hL9.2.2.2.2.2 with v | v
        · rw [(f9.2 d8 (by rw [u]; decide)).1, u] at v
          exact absurd v.1 (by decide)
        · simp at v
    · exact Or.inl z)
  have k9 : kr S8 S9 := lst_kr hL8 f9
  have p9 : PkAt S9 (va_up w8 q 10) a (p, d) := by
    have k1 : kd S8 (G 29) = 1 := hL8.1
    refine p8.fr f9 sm9 (fun z => ?_) (fun z => ?_) (fun r hr _ z => ?_) (fun r hr _ z => ?_) (fun _ _ _ _ _ => id)
    · rw [z.1] at ka8; omega
    · rw [z.1] at ka8; omega
    · rw [z.1] at hr; omega
    · rw [z.1] at hr; omega
  have h9 := h8.lp (l := tF T ++ [(p, d)]) hL8 hd8 f9 hL9 (nod_app hn8 hna) (fun _ => va_up_self _ _ _) sm9 (fun u => Al.app u ⟨(sm9 a (by omega) (by omega)).trans wa8, p9⟩)
  have smA : sam S w (va_up w8 q 10) := ((sm5.tr (frnk f5) (sam.rf.tr k6 sm8)).tr (((frnk f5).tr k6).tr (frnk f8)) sm9)
  have krA : kr S S9 := (((frnk f5).tr k6).tr (frnk f8)).tr k9
  generalize va_up w8 q 10 = w9 at *
  refine c_tally h9 (by decide) (fun S10 h10 k10 => ?_)
  obtain ⟨hn10, d10, hL10, hd10⟩ := h10.L (i := 9) (by omega)
  rw [va_up_self] at hL10
  refine ⟨G 29, h10.F.2.2.2.1, hL10.1, sp_size hL10 ?_⟩
  rw [List.length_append, hlen]
  show (nI ((tF T).length + 1) ≤ 50 → _) ∧ (¬ nI ((tF T).length + 1) ≤ 50 → _)
  refine ⟨fun c1 => ?_, fun c1 => ?_⟩
  · have hle := (nI_leI (a := (tF T).length + 1) (b := 50) (by omega) (by omega)).mp c1
    have et : t_go T e d net b = uC (uF (uQ T e) (tF T ++ [(p, d)])) 0 := by
      unfold t_go
      rw [hpk]
      show (if (tF T).length = 50 then _ else _) = _
      rw [if_neg (by omega)]
      rfl
    rw [et] at hp
    exact hp S10 w9 _ h10 (krA.tr k10) smA (fun i hi => va_up_ne _ _ hi)
  · have hle : (tF T).length = 50 := by
      have : ¬ (tF T).length + 1 ≤ 50 := fun z => c1 ((nI_leI (a := (tF T).length + 1) (b := 50) (by omega) (by omega)).mpr z)
      omega
    have et : t_go T e d net b = uC (uF (uC (uQ T e) 0) ((tF T ++ [(p, d)]).eraseIdx 0)) 10 := by
      unfold t_go
      rw [hpk, List.eraseIdx_append_of_lt_length (by omega)]
      show (if (tF T).length = 50 then _ else _) = _
      rw [if_pos hle]
    rw [et] at hp
    obtain ⟨x, hx⟩ := get_lt (l := A 9 ++ [a]) (i := 0) (by simp)
    refine ⟨G 29, h10.F.2.2.2.1, hL10.1, ?_⟩
    refine c_rem9 (i := 0) (a := x) h10 (by rw [va_up_self]; exact hx) (fun S11 h11 k11 _ => ⟨x, rfl, ?_⟩)
    refine c_tally h11 (by decide) (fun S12 h12' k12 => hp S12 w9 _ h12' (((krA.tr k10).tr k11).tr k12) smA (fun i hi => ?_))
    rw [va_up_ne _ _ hi, va_up_ne _ _ hi]
theorem c_goall_loop {post : Int32 → HS → Prop} {S0 : HS} {g : Nat} {G : Nat → Nat} {TA : TS} {N e net r c n0 : Nat} {b : List Nat} (hTA : OkT TA N) (he : e < 8) (hnet : net < 16777216) (hb : By b) (h12 : 12 ≤ b.length) (h54 : b.length ≤ 54) (hr0 : RowAt S0 r c n0 b) (hp : ∀ S w A, RepC S g G w A (t_goAll TA e net b (tN TA)) → post (nI (t_goN TA e net (tN TA))) S) : ∀ (n j : Nat) (S : HS) (w : Nat → Nat) (A : Nat → List Nat), j + n = tN TA → RepC S g G w A (t_goAll TA e net b j) → kr S0 S → wp_X6_launchToAll_6 (n + 1) post S g r (G (10 + e)) (nI net) (nI (t_goN TA e net j)) (nI j) := by
  have h8 := hTA.1.2
  intro n
  induction n with
  | zero =>
    intro j S w A hj h k
    have : j = tN TA := by omega
    subst this
    obtain ⟨a1, a2, a3⟩ := t_goAll_N TA e net b (tN TA)
    exact ⟨h.F.1, fun _ => hp S w A h, fun c => absurd (by rw [h.F.2.2.2.2.2.2, a1]; exact (nI_leI (by omega) (by omega)).mpr (Nat.le_refl _)) c⟩
  | succ n ih =>
    intro j S w A hj h k
    obtain ⟨a1, a2, a3⟩ := t_goAll_N TA e net b j
    have hO : OkT (t_goAll TA e net b j) N := hTA.goAll hb h54 j (by omega)
    have hh : t_has (t_goAll TA e net b j) j net = t_has TA j net := by unfold t_has; rw [a2]
    obtain ⟨b1, b2, b3, -⟩ := h.E.2 e he
    have skip : ¬ (j ≠ e ∧ t_has TA j net = true) → wp_X6_launchToAll_6 (n + 1) post S g r (G (10 + e)) (nI net) (nI (t_goN TA e net j)) (nI j + 1) := fun q => by
      rw [nI_1]
      have := ih (j + 1) S w A (by omega) (by unfold t_goAll; rw [if_neg q]; exact h) k
      have e1 : t_goN TA e net (j + 1) = t_goN TA e net j := by
        show (if _ then _ else _) = _
        rw [if_neg q]
      rw [e1] at this
      exact this
    refine ⟨h.F.1, fun c => ?_, fun _ => ⟨b2, ?_⟩⟩
    · rw [h.F.2.2.2.2.2.2, a1] at c
      exact absurd ((nI_leI (by omega) (by omega)).mp c) (by omega)
    · rw [b3]
      refine ⟨fun c => skip ?_, fun c => ?_⟩
      · have : j = e := (nI_eq (by omega) (by omega)).mp c
        rintro ⟨q, -⟩
        exact q this
      · have hje : j ≠ e := fun q => c (by rw [q])
        refine c_has h hO (by omega) hnet ?_
        rw [hh]
        cases hq : t_has TA j net with
        | false =>
          refine ⟨fun _ => skip ?_, fun c => absurd rfl c⟩
          rintro ⟨-, q⟩
          rw [hq] at q; cases q
        | true =>
          refine ⟨fun c => absurd c n01, fun _ => ?_⟩
          refine c_launch h hO he (by omega) hnet (k.2 _ _ _ _ hr0) hb h12 h54 (fun S1 w1 A1 h1 k1 _ _ => ?_)
          rw [nI_1, nI_1]
          have := ih (j + 1) S1 w1 A1 (by omega) (by unfold t_goAll; rw [if_pos ⟨hje, hq⟩]; exact h1) (k.tr k1)
          have e1 : t_goN TA e net (j + 1) = t_goN TA e net j + 1 := by
            show (if _ then _ else _) = _
            rw [if_pos ⟨hje, hq⟩]
          rw [e1] at this
          exact this
theorem c_goall {post : Int32 → HS → Prop} {S : HS} {g : Nat} {G w : Nat → Nat} {A : Nat → List Nat} {TA : TS} {N e net r c n0 : Nat} {b : List Nat} (h : RepC S g G w A TA) (hTA : OkT TA N) (he : e < 8) (hnet : net < 16777216) (hb : By b) (h12 : 12 ≤ b.length) (h54 : b.length ≤ 54) (hr0 : RowAt S r c n0 b) (hp : ∀ S w A, RepC S g G w A (t_goAll TA e net b (tN TA)) → post (nI (t_goN TA e net (tN TA))) S) : wp_X6_launchToAll post S g r (G (10 + e)) (nI net) :=
  ⟨tN TA + 1, by have := hTA.1.2; omega, c_goall_loop hTA he hnet hb h12 h54 hr0 hp (tN TA) 0 S w A (by omega) h kr.rf⟩
