/-! ===== the class: what comes is looked at ===== -/
theorem netP_lt {p : List Nat} (hb : By p) : netP p < 16777216 := by have := nb_lt hb (fst p - 4) 3; unfold netP; omega
theorem srcM_lt {p : List Nat} (hb : By p) : srcM p < 281474976710656 := by have := nb_lt hb (fst p + 6) 6; unfold srcM; omega
theorem dstM_lt {p : List Nat} (hb : By p) : dstM p < 281474976710656 := by have := nb_lt hb (fst p) 6; unfold dstM; omega
theorem srcP_lt {p : List Nat} (hb : By p) : srcP p < 2 ^ 32 := by have := nb_lt hb 12 4; unfold srcP; omega
theorem snd_in {p : List Nat} {n : Nat} (hb : By p) (hn : n ≤ 8) : (∀ j, rg (nI (srcP p) - 167772161) n = some j → srcP p = 167772161 + j) ∧ (rg (nI (srcP p) - 167772161) n = none → ¬ (167772161 ≤ srcP p ∧ srcP p < 167772161 + n)) := by
  have hs := srcP_lt hb
  refine ⟨fun j hj => ?_, fun hj q => ?_⟩
  · obtain ⟨h1, h2⟩ := rg_lt hj
    have e1 : nI (srcP p) = nI (167772161 + j) := by
      rw [← nI_add, Int32.add_comm, ← h2]
      exact (Int32.sub_add_cancel _ _).symm
    exact (nI_inj hs (by omega)).mp e1
  · refine rg_no hj (by omega) (srcP p - 167772161) (by omega) ?_
    show nI (srcP p) - nI 167772161 = _
    rw [nI_sub q.1]
theorem c_mis {post : Int32 → HS → Prop} {S : HS} {g : Nat} {G w : Nat → Nat} {A : Nat → List Nat} {T : TS} {N e r c n : Nat} {p : List Nat} (h : RepC S g G w A T) (hT : OkT T N) (hr : RowAt S r c n p) (hb : By p) (hc : carries p = true) (he : e < tN T) (hp : post (nI (misfit T p e)) S) : wp_X6_misfitOf post S g r (nI e) := by
  have h8 := hT.1.2
  have hn := netP_lt hb
  obtain ⟨i1, i0⟩ := snd_in (n := tN T) hb h8
  refine c_net hr hb hc ⟨h.F.1, c_has h hT (by omega) hn ?_⟩
  cases h6 : t_has T e (netP p) with
  | false =>
    refine ⟨fun c => absurd rfl c, fun _ => ?_⟩
    have : misfit T p e = 6 := by unfold misfit; rw [h6]; rfl
    rw [this] at hp; exact hp
  | true =>
    have m7 : (¬ (167772161 ≤ srcP p ∧ srcP p < 167772161 + tN T) ∨ srcP p = 167772161 + e ∨ t_has T (srcP p - 167772161) (netP p) = false) → post 7 S := fun q => by
      have : misfit T p e = 7 := by
        unfold misfit
        rw [h6, if_neg (by decide), if_pos q]
      rw [this] at hp; exact hp
    refine ⟨fun _ => c_snd hr hb hc ?_, fun c => absurd c n01⟩
    refine c_endp h hT (fun j hj hl hx => ⟨som, fun o ho => ?_⟩) (fun hj => ⟨fun _ => m7 (Or.inl (i0 hj)), fun o ho => som ho.symm⟩)
    have ej := i1 j hj
    rw [hx]
    refine ⟨fun c => m7 (Or.inr (Or.inl ?_)), fun c => c_has h hT (by omega) hn ?_⟩
    · have : j = e := (nI_eq (by omega) (by omega)).mp c
      rw [ej, this]
    · have hje : j ≠ e := fun q => c (by rw [q])
      cases h7 : t_has T j (netP p) with
      | false =>
        refine ⟨fun c => absurd rfl c, fun _ => m7 (Or.inr (Or.inr ?_))⟩
        rw [ej, Nat.add_sub_cancel_left]; exact h7
      | true =>
        refine ⟨fun _ => c_mfr hr hb hc (c_grp (srcM_lt hb) ?_), fun c => absurd c n01⟩
        have nm : ¬ (¬ (167772161 ≤ srcP p ∧ srcP p < 167772161 + tN T) ∨ srcP p = 167772161 + e ∨ t_has T (srcP p - 167772161) (netP p) = false) := by
          rintro (q | q | q)
          · exact q ⟨by omega, by omega⟩
          · omega
          · rw [ej, Nat.add_sub_cancel_left, h7] at q; cases q
        have hmf : misfit T p e = if isGrp (srcM p) then 8 else 0 := by
          unfold misfit
          rw [h6, if_neg (by decide), if_neg nm]
        cases hg : isGrp (srcM p) with
        | true =>
          refine ⟨fun c => absurd c n01, fun _ => ?_⟩
          rw [hmf, hg] at hp; exact hp
        | false =>
          refine ⟨fun _ => ?_, fun c => absurd rfl c⟩
          rw [hmf, hg] at hp; exact hp
theorem mis_in {T : TS} {p : List Nat} {e : Nat} (hm : misfit T p e = 0) : (167772161 ≤ srcP p ∧ srcP p < 167772161 + tN T) ∧ ¬ srcP p = 167772161 + e := by
  have hq : ¬ (¬ (167772161 ≤ srcP p ∧ srcP p < 167772161 + tN T) ∨ srcP p = 167772161 + e ∨ t_has T (srcP p - 167772161) (netP p) = false) := fun q => by
    unfold misfit at hm
    split at hm
    · cases hm
    · first | cases hm | (rw [if_pos q] at hm; cases hm)
  exact ⟨Classical.byContradiction (fun z => hq (Or.inl z)), fun z => hq (Or.inr (Or.inl z))⟩
/-- a new known -/
theorem kn_new {S : HS} {a net mac : Nat} {pl : Nat ⊕ Nat} (ha : kd S a = 0) : frn S (sfi (sfi (sfl (sfi (snw S a 3 0) 7 a (nI net)) 8 a (lN mac)) 9 a (kE pl)) 10 a (kS pl)) ∧ KnAt (sfi (sfi (sfl (sfi (snw S a 3 0) 7 a (nI net)) 8 a (lN mac)) 9 a (kE pl)) 10 a (kS pl)) a (net, mac, pl, 0) := by
  refine ⟨((((frm.wnw ha).tsfi (Or.inl ha)).tsfl ha).tsfi (Or.inl ha)).tsfi (Or.inl ha), va_up_self _ _ _, ?_, ?_, ?_, fi_self _ _ _ _, ?_⟩
  · rw [fi_ne _ _ _ _ (Or.inl (by decide)), fi_ne _ _ _ _ (Or.inl (by decide))]
    show fi (sfi (snw S a 3 0) 7 a (nI net)) 7 a = nI net
    rw [fi_self]
  · show fl (sfl (sfi (snw S a 3 0) 7 a (nI net)) 8 a (lN mac)) 8 a = lN mac
    rw [fl_self]
  · rw [fi_ne _ _ _ _ (Or.inl (by decide)), fi_self]
  · rw [fi_ne _ _ _ _ (Or.inl (by decide)), fi_ne _ _ _ _ (Or.inl (by decide))]
    show fi (sfi (snw S a 3 0) 7 a (nI net)) 11 a = nI 0
    rw [fi_ne _ _ _ _ (Or.inl (by decide))]
    exact va_up_self _ _ _
theorem c_let {post : Int32 → HS → Prop} {S : HS} {g : Nat} {G w : Nat → Nat} {A : Nat → List Nat} {T : TS} {N e r c n : Nat} {p : List Nat} (h : RepC S g G w A T) (hT : OkT T N) (hr : RowAt S r c n p) (hb : By p) (hc : carries p = true) (he : e < tN T) (hm : misfit T p e = 0) (hp : ∀ S' w' A', RepC S' g G w' A' (t_let T p e).2 → post (nI (t_let T p e).1) S') : wp_X6_letIn post S g r (G (10 + e)) := by
  have h8 := hT.1.2
  have hn := netP_lt hb
  have hsm := srcM_lt hb
  have hdm := dstM_lt hb
  have hl120 : p.length ≤ 120 := Nat.le_trans hr.2.2.1 hr.1.2.2.2.2
  obtain ⟨s1, s2⟩ := mis_in hm
  obtain ⟨d, hd⟩ : ∃ d, srcP p = 167772161 + d := ⟨srcP p - 167772161, by omega⟩
  have hdn : d < tN T := by omega
  have hde : d ≠ e := by omega
  refine c_net hr hb hc (fun a ha => ?_)
  have f1 : frn S (snw S a 3 0) := frm.wnw ha
  refine c_mfr (hr.fr f1 id id id) hb hc (c_snd (hr.fr f1 id id id) hb hc ?_)
  have esd : nI (srcP p) - 167772161 = nI d := by
    rw [hd]
    show nI (167772161 + d) - nI 167772161 = _
    rw [nI_sub (by omega), Nat.add_sub_cancel_left]
  rw [esd]
  obtain ⟨f2, kn2⟩ := kn_new (net := netP p) (mac := srcM p) (pl := Sum.inr d) ha
  refine ⟨va_up_self _ _ _, ?_⟩
  generalize hS2 : sfi (sfi (sfl (sfi (snw S a 3 0) 7 a (nI (netP p))) 8 a (lN (srcM p))) 9 a (kE (Sum.inr d))) 10 a (kS (Sum.inr d)) = S2 at *
  have eS2 : sfi (sfi (sfl (sfi (snw S a 3 0) 7 a (nI (netP p))) 8 a (lN (srcM p))) 9 a (nI d)) 10 a (-1) = S2 := hS2
  rw [eS2]
  have sm2 : sam S w (va_up w a 0) := sam.rf.up (Or.inl ha)
  have h2 := h.frn f2 sm2
  have r2 : RowAt S2 r c n p := hr.fr f2 id id id
  refine ⟨h2.F.1, c_learn (pl := Sum.inr d) h2 hT (by omega) hn hsm (show d < 8 by omega) kn2 (va_up_self _ _ _) (fun S3 w3 A3 h3 k3 sm3 hA3 => ?_)⟩
  have hT3 : OkT (t_learn T e (netP p) (srcM p) (Sum.inr d)) N := hT.learn he ⟨hn, hsm, Nat.zero_le _, hdn, hde⟩
  have tl : t_let T p e = (match whr (tK (t_learn T e (netP p) (srcM p) (Sum.inr d)) e) (netP p) (dstM p) with
      | none => (0, t_all (t_learn T e (netP p) (srcM p) (Sum.inr d)) e (netP p) none (p.drop (fst p)))
      | some (Sum.inr _) => (9, t_learn T e (netP p) (srcM p) (Sum.inr d))
      | some (Sum.inl k) => (0, t_one (t_learn T e (netP p) (srcM p) (Sum.inr d)) e k (p.drop (fst p)))) := by
    unfold t_let
    rw [hd, Nat.add_sub_cancel_left]
    rfl
  obtain ⟨n1, n2, -⟩ := t_learn_N T e (netP p) (srcM p) (Sum.inr d)
  generalize t_learn T e (netP p) (srcM p) (Sum.inr d) = T3 at *
  have r3 := k3.2 _ _ _ _ r2
  obtain ⟨b1, b2, b3, -⟩ := h3.E.2 e (by omega)
  have hdb : By (p.drop (fst p)) := hb.drop _
  refine c_mto r3 hb hc ⟨b2, c_where h3 hT3 (by omega) hn hdm (fun k κ x hκ hx kx hw => ⟨som, fun o ho => ?_⟩) (fun hw => ⟨fun _ => ?_, fun o ho => som ho.symm⟩)⟩
  · cases ho
    rw [hw] at tl
    have hm := (hT3.2.2.1 e (by omega)).2.1 κ (List.mem_of_getElem? hκ)
    have hpl := hm.pl hT3.1.2 hT3.2.1.1
    refine ⟨kx.1, ?_⟩
    rw [kx.2.2.2.2.1]
    cases hcase : κ.2.2.1 with
    | inr d' =>
      rw [hcase] at tl
      refine ⟨fun c => absurd rfl c, fun _ => ?_⟩
      rw [tl] at hp
      exact hp S3 w3 A3 h3
    | inl s =>
      rw [hcase] at tl
      have hs32 : s < 32 := by rw [hcase] at hpl; exact hpl
      have hsl : s < (tS T3).length := by have := hm.2.2.2; rw [hcase] at this; exact this
      refine ⟨fun _ => ?_, fun c => absurd c (nI_m1 (by omega))⟩
      refine c_unw r3 hb hc (fun o c' n' S4 ho hc' hoc f4 r4 => ⟨o, rfl, ?_⟩)
      have sm4 : sam S3 w3 (va_up (va_up w3 o 2) c' (o + 1)) := (sam.rf.up (Or.inl ho)).up (Or.inl hc')
      have h4 := h3.frn f4 sm4
      have kx4 : KnAt S4 x κ := kx.fr f4 (fun _ => id)
      obtain ⟨-, b24, b34, -⟩ := h4.E.2 e (by omega)
      refine ⟨b24, kx4.1, h4.F.1, ?_⟩
      rw [b34, kx4.2.2.2.2.1, hcase]
      refine c_one h4 hT3 (by omega) hsl r4 ((va_up_ne _ _ hoc).trans (va_up_self _ _ _)) (va_up_self _ _ _) (fun S5 h5 _ => ?_)
      rw [tl] at hp
      exact hp S5 _ _ h5
  · rw [hw] at tl
    refine c_unw r3 hb hc (fun o c' n' S4 ho hc' hoc f4 r4 => ⟨o, rfl, ?_⟩)
    have sm4 : sam S3 w3 (va_up (va_up w3 o 2) c' (o + 1)) := (sam.rf.up (Or.inl ho)).up (Or.inl hc')
    have h4 := h3.frn f4 sm4
    obtain ⟨-, b24, b34, -⟩ := h4.E.2 e (by omega)
    refine ⟨b24, h4.F.1, ?_⟩
    rw [b34]
    refine c_all (but := none) h4 hT3 (by omega) hn (fun k z => by cases z) r4 ((va_up_ne _ _ hoc).trans (va_up_self _ _ _)) (va_up_self _ _ _) (fun S5 h5 _ => ?_)
    rw [tl] at hp
    exact hp S5 _ _ h5
theorem c_arr {post : Int32 → HS → Prop} {S : HS} {g : Nat} {G w : Nat → Nat} {A : Nat → List Nat} {T : TS} {N e r c n : Nat} {p : List Nat} (h : RepC S g G w A T) (hT : OkT T N) (hr : RowAt S r c n p) (hb : By p) (he : e < tN T) (hp : ∀ S' w' A', RepC S' g G w' A' (t_arr T p e).2 → post (nI (t_arr T p e).1) S') : wp_X6_arrive post S g r (G (10 + e)) := by
  have h8 := hT.1.2
  obtain ⟨b1, b2, b3, -⟩ := h.E.2 e (by omega)
  have hfl := fault_le p e
  have hml := misfit_le T p e
  refine ⟨b2, ?_⟩
  rw [b3]
  refine c_fault hr hb (by omega) ⟨fun c1 => ?_, fun c1 => ⟨h.F.1, ?_⟩⟩
  · have hf : fault p e ≠ 0 := fun q => c1 (by rw [q]; rfl)
    have : t_arr T p e = (fault p e, uC T (fault p e)) := by unfold t_arr; rw [if_pos hf]
    rw [this] at hp
    refine ⟨fun _ => ⟨fun c => absurd c c1, fun _ => ⟨h.F.1, c_tally h (by omega) (fun S' h' _ => hp S' w A h')⟩⟩, fun c => absurd c c1⟩
  · have hf : ¬ fault p e ≠ 0 := fun q => q ((nI_eq (b := 0) (by omega) (by omega)).mp c1)
    have hc : carries p = true := by
      cases hcc : carries p with
      | true => rfl
      | false =>
        exfalso
        refine hf ?_
        unfold fault
        split
        · decide
        · split
          · decide
          · split
            · decide
            · split
              · decide
              · rw [hcc]; decide
    rw [b3]
    refine c_mis h hT hr hb hc he ?_
    refine ⟨fun c2 => ?_, fun c2 => ⟨h.F.1, ?_⟩⟩
    · have hm : misfit T p e ≠ 0 := fun q => c2 (by rw [q]; rfl)
      have : t_arr T p e = (misfit T p e, uC T (misfit T p e)) := by unfold t_arr; rw [if_neg hf, if_pos hm]
      rw [this] at hp
      exact ⟨fun c => absurd c c2, fun _ => ⟨h.F.1, c_tally h (by omega) (fun S' h' _ => hp S' w A h')⟩⟩
    · have hm : misfit T p e = 0 := (nI_eq (b := 0) (by omega) (by omega)).mp c2
      have ht : t_arr T p e = if (t_let T p e).1 ≠ 0 then ((t_let T p e).1, uC (t_let T p e).2 (t_let T p e).1) else t_let T p e := by
        unfold t_arr; rw [if_neg hf, if_neg (by omega)]
      rw [ht] at hp
      refine c_let h hT hr hb hc he hm (fun S1 w1 A1 h1 => ?_)
      rcases t_let_le T p e with q | q
      · rw [if_neg (by omega)] at hp
        refine ⟨fun _ => hp S1 w1 A1 h1, fun c => absurd ?_ c⟩
        rw [q]; rfl
      · rw [if_pos (by omega)] at hp
        refine ⟨fun c => absurd c ?_, fun _ => c_tally h1 (by omega) (fun S' h' _ => hp S' w1 A1 h')⟩
        rw [q]; decide
theorem c_deliver {post : Int32 → HS → Prop} {S : HS} {g : Nat} {G : Nat → Nat} {T : TS} {N : Nat} (h : RC S g G T) (hT : OkT T N) {x : Int32} (hp : ∀ S', RC S' g G (s_deliver T x).2 → post (s_deliver T x).1 S') : wp_X6_deliver post S g x := by
  obtain ⟨w, A, h⟩ := h
  refine ⟨h.F.1, c_pack h hT (fun i f a hi hf ha hx hwa q => ⟨som, fun o ho => ?_⟩) (fun hi => ⟨fun _ => ?_, fun o ho => som ho.symm⟩)⟩
  · cases ho
    obtain ⟨-, d, hL, -⟩ := h.L (i := 9) (by omega)
    obtain ⟨m1, m2, m3⟩ := hT.2.2.2.2.2.2 f (List.mem_of_getElem? hf)
    refine ⟨G 29, h.F.2.2.2.1, hL.1, ?_⟩
    rw [hx]
    simp only [s_deliver, hi, hf] at hp
    refine c_rem9 h ha (fun S1 h1 k1 pk1 => ⟨a, rfl, ?_⟩)
    obtain ⟨k4, q2, r, c, n, q3, q4, q5, q6⟩ := pk1 a f q
    have hT1 := hT.er i
    refine ⟨k4, r, q3, ?_⟩
    rw [q2]
    refine c_endp h1 hT1 (fun j hj hl hx2 => ⟨som, fun o ho => ?_⟩) (fun hj => ?_)
    · cases ho
      have : j = f.2 := by
        have m3' : f.2 < tN (uF T ((tF T).eraseIdx i)) := m3
        rw [rg_n m3' (by have := hT1.1.2; omega)] at hj
        exact (Option.some.inj hj).symm
      subst this
      exact c_arr h1 hT1 q6 m1 m3 (fun S' w' A' h' => hp S' ⟨w', A', h'⟩)
    · have m3' : f.2 < tN (uF T ((tF T).eraseIdx i)) := m3
      rw [rg_n m3' (by have := hT1.1.2; omega)] at hj; cases hj
  · simp only [s_deliver, hi] at hp
    exact hp S ⟨w, A, h⟩
theorem c_twice {post : Int32 → HS → Prop} {S : HS} {g : Nat} {G : Nat → Nat} {T : TS} {N : Nat} (h : RC S g G T) (hT : OkT T N) {x : Int32} (hp : ∀ S', RC S' g G (s_twice T x).2 → post (s_twice T x).1 S') : wp_X6_twice post S g x := by
  obtain ⟨w, A, h⟩ := h
  refine ⟨h.F.1, c_pack h hT (fun i f a hi hf ha hx hwa q => ⟨som, fun o ho => ?_⟩) (fun hi => ⟨fun _ => ?_, fun o ho => som ho.symm⟩)⟩
  · cases ho
    obtain ⟨m1, m2, m3⟩ := hT.2.2.2.2.2.2 f (List.mem_of_getElem? hf)
    simp only [s_twice, hi, hf] at hp
    obtain ⟨k4, q2, r, c, n, q3, q4, q5, q6⟩ := q
    refine ⟨k4, r, q3, ?_⟩
    rw [q2]
    refine c_endp h hT (fun j hj hl hx2 => ⟨som, fun o ho => ?_⟩) (fun hj => ?_)
    · cases ho
      have : j = f.2 := by
        rw [rg_n m3 (by have := hT.1.2; omega)] at hj
        exact (Option.some.inj hj).symm
      subst this
      exact c_arr h hT q6 m1 m3 (fun S' w' A' h' => hp S' ⟨w', A', h'⟩)
    · rw [rg_n m3 (by have := hT.1.2; omega)] at hj; cases hj
  · simp only [s_twice, hi] at hp
    exact hp S ⟨w, A, h⟩
theorem t_learn_uT (T : TS) (t : List Nat) (e net mac : Nat) (pl : Nat ⊕ Nat) : t_learn (uT T t) e net mac pl = uT (t_learn T e net mac pl) t := by
  unfold t_learn
  have e1 : tK (uT T t) e = tK T e := rfl
  rw [e1]
  split
  · split <;> rfl
  · split <;> rfl
theorem t_one_uT (T : TS) (t : List Nat) (e k : Nat) (b : List Nat) : t_one (uT T t) e k b = uT (t_one T e k b) t := by
  unfold t_one
  have e1 : tS (uT T t) = tS T := rfl
  rw [e1]
  split
  · split <;> rfl
  · rfl
theorem t_let_uT (T : TS) (t p : List Nat) (e : Nat) : t_let (uT T t) p e = ((t_let T p e).1, uT (t_let T p e).2 t) := by
  unfold t_let
  dsimp only
  rw [t_learn_uT]
  generalize t_learn T e (netP p) (srcM p) (Sum.inr (srcP p - 167772161)) = T1
  have e1 : tK (uT T1 t) e = tK T1 e := rfl
  rw [e1]
  split
  · rfl
  · rfl
  · rw [t_one_uT]
theorem t_arr_uT (T : TS) (t p : List Nat) (e : Nat) : t_arr (uT T t) p e = ((t_arr T p e).1, uT (t_arr T p e).2 t) := by
  unfold t_arr
  rw [t_let_uT]
  have e1 : misfit (uT T t) p e = misfit T p e := rfl
  rw [e1]
  split
  · rfl
  · split
    · rfl
    · dsimp only
      split <;> rfl
theorem c_inject {post : Int32 → HS → Prop} {S : HS} {g : Nat} {G : Nat → Nat} {T : TS} {N : Nat} (h : RC S g G T) (hT : OkT T N) {x : Int32} (hp : ∀ S', RC S' g G (s_inject T x).2 → post (s_inject T x).1 S') : wp_X6_inject post S g x := by
  obtain ⟨w, A, h⟩ := h
  obtain ⟨t1, t2⟩ := hT.2.2.2.2.1
  refine ⟨h.F.1, c_endp h hT (fun e he hl hx => ⟨som, fun o ho => ?_⟩) (fun he => ⟨fun _ => ?_, fun o ho => som ho.symm⟩)⟩
  · cases ho
    simp only [s_inject, he, t_arr_uT] at hp
    refine ⟨G 1, h.F.2.2.2.2.1, c_arr h hT h.T.2.2 t1 hl (fun S1 w1 A1 h1 => ?_)⟩
    exact ⟨G 1, h1.F.2.2.2.2.1, h1.T.2.2.1.1, sp_clear h1.T.2.2 (fun S2 ro r2 => hp S2 ⟨w1, A1, h1.tape ro r2⟩)⟩
  · simp only [s_inject, he] at hp
    exact hp S ⟨w, A, h⟩
