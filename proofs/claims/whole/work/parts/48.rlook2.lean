/-! ===== what comes is let in, in the reference ===== -/
def t_in (T : TS) (e net d : Nat) (b : List Nat) : Nat × TS :=
  let T1 := t_learn T e net (nb b 6 6) (Sum.inr d)
  match whr (tK T1 e) net (nb b 0 6) with
  | none => (0, t_all T1 e net none b)
  | some (Sum.inr _) => (9, T1)
  | some (Sum.inl k) => (0, t_one T1 e k b)
theorem t_let_in (T : TS) (p : List Nat) (e : Nat) : t_let T p e = t_in T e (netP p) (srcP p - 167772161) (p.drop (fst p)) := by
  unfold t_let t_in
  rw [nb_drop, nb_drop]
  rfl
theorem q_tail {post : Int32 → HS → Prop} {S : HS} {o : Nat} {R : Nat → Nat} {T : TS} {N : Nat} (h : RV S o R T) (hT : OkT T N) {e net d : Nat} {b : List Nat} {x2 : Int32} (hb : By b) (hl : 14 ≤ b.length) (h120 : b.length ≤ 120) (hf : fi S 52 o = nI b.length) (hB : RvB S (R 19) 0 b) (he : e < tN T) (hnet : net < 16777216) (hd : d < tN T) (hde : d ≠ e) (hp8 : isGrp (nb b 6 6) = true → post 8 S) (hp : isGrp (nb b 6 6) = false → ∀ S', RV S' o R (t_in T e net d b).2 → post (nI (t_in T e net d b).1) S') : wq_X7_look_177 1 post R S o (nI e) x2 (nI net) (nI d) (nI b.length) := by
  have h8 := hT.1.2
  have c6 : (6 : Int32).toNatClampNeg = 6 := by decide
  have c0 : (0 : Int32).toNatClampNeg = 0 := by decide
  have b6 : ai S (R 19) 6 &&& 255 = nI (gb b 6) := by have := hB 6 (by omega); rw [Nat.zero_add] at this; exact this
  have b0 : ai S (R 19) 0 &&& 255 = nI (gb b 0) := by have := hB 0 (by omega); exact this
  have hk : kd S (R 19) / 32 = 2 := h.1.t 19 (by decide)
  have hln : ln S (R 19) = 120 := (h.1.2 19 (by decide)).2.2
  refine ⟨fun _ => ⟨vp_in_nI (n := 6) (by omega) (by decide), ?_⟩, fun c => absurd (by rw [hf]; exact (nI_leI (by omega) (by omega)).mpr (Nat.le_refl _)) c⟩
  rw [c6]
  refine ⟨fun c => ?_, fun c => hp8 ?_⟩
  · have ng : isGrp (nb b 6 6) = false := by
      rw [grp_top hb]
      have : ¬ gb b 6 % 2 = 1 := fun q => c ((and1 (hb 6) b6).mpr q)
      simp [this]
    refine q_mac hk hln hB hb h120 (f := 6) (by omega) ⟨h.1, ?_⟩
    have hm6 := nb_lt hb 6 6
    have hm0 := nb_lt hb 0 6
    have hq := hp ng
    refine q_learn h hT (e := e) (net := net) (mac := nb b 6 6) (pl := Sum.inr d) (by omega) hnet (by omega) (show d < 8 by omega) (fun S1 h1 g1 => ?_)
    have hT1 : OkT (t_learn T e net (nb b 6 6) (Sum.inr d)) N := hT.learn he ⟨hnet, (by show nb b 6 6 < 281474976710656; omega), Nat.zero_le _, hd, hde⟩
    have n1 := (t_learn_N T e net (nb b 6 6) (Sum.inr d)).1
    have s1 := (t_learn_N T e net (nb b 6 6) (Sum.inr d)).2.1
    generalize hTT : t_learn T e net (nb b 6 6) (Sum.inr d) = T1 at *
    have a19 : ai S1 (R 19) = ai S (R 19) := (g1.2 19 (by decide) rfl).1
    have hB1 : RvB S1 (R 19) 0 b := fun j hj => by rw [a19]; exact hB j hj
    have hf1 : fi S1 52 o = nI b.length := (g1.1 52 rfl).trans hf
    have hk1 : kd S1 (R 19) / 32 = 2 := h1.1.t 19 (by decide)
    have hln1 : ln S1 (R 19) = 120 := (h1.1.2 19 (by decide)).2.2
    refine q_mac hk1 hln1 hB1 hb h120 (f := 0) (by omega) ⟨h1.1, ?_⟩
    rw [c0]
    rw [← a19] at b0
    have hin0 : vp_in (0 : Int32) 120 := vp_in_nI (n := 0) (by omega) (by decide)
    have hall : whr (tK T1 e) net (nb b 0 6) = none → wq_X7_comesToAll (fun _ S52 => post (0 : Int32) S52) R S1 o (nI e) (nI net) (-1 : Int32) := fun q => by
      refine q_all (but := none) h1 hT1 (by omega) hnet (fun k z => by cases z) hb h120 hf1 hB1 (fun S2 h2 _ => ?_)
      have : t_in T e net d b = (0, t_all T1 e net none b) := by unfold t_in; rw [hTT]; show (match whr (tK T1 e) net (nb b 0 6) with | none => _ | some (Sum.inr _) => _ | some (Sum.inl k) => _) = _; rw [q]
      rw [this] at hq
      exact hq S2 h2
    have hg0 : (ai S1 (R 19) 0 &&& 1 = 1) → isGrp (nb b 0 6) = true := fun c => by
      rw [grp_top hb]; simp [(and1 (hb 0) b0).mp c]
    have hg1 : ¬ (ai S1 (R 19) 0 &&& 1 = 1) → isGrp (nb b 0 6) = false := fun c => by
      rw [grp_top hb]
      have : ¬ gb b 0 % 2 = 1 := fun q => c ((and1 (hb 0) b0).mpr q)
      simp [this]
    refine q_find h1 hT1 (by omega) hnet (by omega) (fun k hk1 hk2 => ⟨hin0, fun c2 => hall ?_, fun c2 => ⟨fun _ => ?_, fun c => absurd c ?_⟩⟩) (fun hk0 => ⟨hin0, fun c2 => hall ?_, fun c2 => ⟨fun c => absurd rfl c, fun _ => hall ?_⟩⟩)
    · unfold whr; rw [hg0 c2]; rfl
    · obtain ⟨κ, hκ⟩ := get_lt hk2
      have h24 := (hT1.2.2.1 e (by omega)).1
      have hin : vp_in (nI (24 * e + k)) 192 := vp_in_nI (by omega) (by decide)
      have hm := (hT1.2.2.1 e (by omega)).2.1 κ (List.mem_of_getElem? hκ)
      have hpl := hm.pl hT1.1.2 hT1.2.1.1
      have gpl := ((h1.2.2.2.2.2.1 e (by omega)).2 k κ hκ).2.2.1
      have hw : whr (tK T1 e) net (nb b 0 6) = some κ.2.2.1 := by
        unfold whr; rw [hg1 c2, hk1]
        show some (kPl (tK T1 e) k) = _
        rw [kPl_at hκ]
      rw [nI_clamp (n := 24 * e + k) (by omega), gpl]
      refine ⟨hin, ?_⟩
      have hti : t_in T e net d b = (match some κ.2.2.1 with | none => (0, t_all T1 e net none b) | some (Sum.inr _) => (9, T1) | some (Sum.inl k) => (0, t_one T1 e k b)) := by
        unfold t_in; rw [hTT]; show (match whr (tK T1 e) net (nb b 0 6) with | none => _ | some (Sum.inr _) => _ | some (Sum.inl k) => _) = _; rw [hw]
      rcases plc_neg hpl with ⟨d', q1, q2, q3, q4⟩ | ⟨s, q1, q2, q3, q4⟩
      · refine ⟨fun c => absurd c q3, fun _ => ?_⟩
        rw [q1] at hti
        rw [hti] at hq
        exact hq S1 h1
      · refine ⟨fun _ => ⟨hin, ?_, ?_⟩, fun c => absurd q3 c⟩
        · rw [q4]; exact vp_in_nI (by omega) (by decide)
        · rw [q4, nI_clamp (n := s) (by omega)]
          rw [q1] at hti
          rw [hti] at hq
          have hsl : s < (tS T1).length := by have := hm.2.2.2; rw [q1] at this; exact this
          obtain ⟨sv, hs⟩ := get_lt hsl
          have hm1 := hT1.2.1.2 sv (List.mem_of_getElem? hs)
          have hsv := hm1.1
          have h18 := hT1.1.2
          rw [((h1.2.2.1).2 s sv hs).1]
          refine ⟨fun c => ?_, fun c => ⟨hin, ?_⟩⟩
          · have ne : ¬ sv.1 = e := fun q => c (by rw [q])
            have : t_one T1 e s b = T1 := by simp only [t_one, hs, ne, if_false]
            have hq' : ∀ S', RV S' o R (t_one T1 e s b) → post 0 S' := hq
            rw [this] at hq'
            exact hq' S1 h1
          · have eq : sv.1 = e := (nI_eq (by omega) (by omega)).mp c
            have : t_one T1 e s b = uS T1 ((tS T1).set s (come b sv)) := by simp only [t_one, hs, eq, if_true]
            have hq' : ∀ S', RV S' o R (t_one T1 e s b) → post 0 S' := hq
            rw [this] at hq'
            exact q_come h1 hT1.2.1 hs h120 hf1 hB1 (fun S2 h2 _ => hq' S2 h2)
    · have h24 := (hT1.2.2.1 e (by omega)).1
      intro q
      have := nI_pos (n := 24 * e + k) (by omega)
      rw [q] at this
      exact this (by decide)
    · unfold whr; rw [hg0 c2]; rfl
    · unfold whr; rw [hg1 c2, hk0]; rfl
  · rw [grp_top hb]
    simp [(and1 (hb 6) b6).mp c]
theorem q_177 {post : Int32 → HS → Prop} {S0 : HS} {o : Nat} {R : Nat → Nat} {p : List Nat} {e net d at4 : Nat} {x2 : Int32} (hx2 : x2 + 4 = nI at4) (hat : at4 ≤ p.length) (h120 : p.length ≤ 120) (hB0 : RvB S0 (R 18) 0 p) (hf0 : fi S0 52 o = nI (p.length - at4)) (hp : ∀ S, RM S o R → rfm S0 S o R scr scj → fi S 52 o = nI (p.length - at4) → RvB S (R 19) 0 (p.drop at4) → wq_X7_look_177 1 post R S o (nI e) x2 (nI net) (nI d) (nI (p.length - at4))) : ∀ (n k : Nat) (S : HS), k + n = p.length - at4 → RM S o R → rfm S0 S o R (fun _ => false) (fun j => j == 19) → (∀ j, j < k → ai S (R 19) j &&& 255 = nI (gb p (at4 + j))) → wq_X7_look_177 (n + 1) post R S o (nI e) x2 (nI net) (nI d) (nI k) := by
  intro n
  induction n with
  | zero =>
    intro k S hk hM g q
    have : k = p.length - at4 := by omega
    subst this
    refine hp S hM (g.mono (fun f z => rfl) (fun j z => (Bool.or_eq_false_iff.mp z).2)) ((g.1 52 rfl).trans hf0) (fun j hj => ?_)
    rw [List.length_drop] at hj
    rw [Nat.zero_add, q j hj, gb_drop]
  | succ n ih =>
    intro k S hk hM g q
    have hR := hM.inj
    have f52 : fi S 52 o = nI (p.length - at4) := (g.1 52 rfl).trans hf0
    refine ⟨fun c => ?_, fun _ => ?_⟩
    · rw [f52] at c
      exact absurd ((nI_leI (by omega) (by omega)).mp c) (by omega)
    · rw [hx2, nI_add]
      refine ⟨vp_in_nI (by omega) (by decide), vp_in_nI (by omega) (by decide), ?_⟩
      rw [nI_clamp (by omega), nI_clamp (by omega), nI_1]
      refine ih (k + 1) _ (by omega) hM.wai (g.tr (rfm.wai hM (by decide) rfl)) (fun j hj => ?_)
      rw [ai_r hR _ (by decide) (by decide)]
      by_cases z : j = k
      · rw [if_pos ⟨rfl, z⟩, bp, z, (g.2 18 (by decide) rfl).1]
        have := hB0 (at4 + k) (by omega)
        rw [Nat.zero_add] at this
        exact this
      · rw [if_neg (by omega)]
        exact q j (by omega)
def t_look (T : TS) (p : List Nat) (e : Nat) : Nat × TS := if fault p e ≠ 0 then (fault p e, T) else if misfit T p e ≠ 0 then (misfit T p e, T) else t_let T p e
theorem fst_le {p : List Nat} (h : carries p = true) : fst p + 14 ≤ p.length := by
  unfold carries at h
  have := (Bool.and_eq_true_iff.mp h).1
  simpa using this
theorem fst_ge (p : List Nat) : 28 ≤ fst p := by
  unfold fst
  split
  · omega
  · split <;> omega
theorem q_91 {post : Int32 → HS → Prop} {S : HS} {o : Nat} {R : Nat → Nat} {T : TS} {N : Nat} {p : List Nat} {e : Nat} (h : RV S o R T) (hT : OkT T N) (hP : Pb S o R p) (hf : Pf S R p) (hb : By p) (h20 : 20 ≤ p.length) (he : e < tN T) (hp5 : carries p = false → post 5 S) (hp : carries p = true → ∀ S', RV S' o R (if misfit T p e ≠ 0 then (misfit T p e, T) else t_let T p e).2 → post (nI (if misfit T p e ≠ 0 then (misfit T p e, T) else t_let T p e).1) S') : wq_X7_look_91a post R S o (nI e) := by
  have h8 := hT.1.2
  obtain ⟨f50, hB, h120⟩ := hP
  refine q_np h.1 ⟨f50, hB, h120⟩ hf hb h20 ?_
  cases hc : carries p with
  | false => exact ⟨fun c => absurd rfl c, fun _ => hp5 hc⟩
  | true =>
    have hq := hp hc
    have l14 := fst_le hc
    have g28 := fst_ge p
    refine ⟨fun _ => ?_, fun c => absurd c (by
      intro q
      have := nI_pos (n := fst p - 4) (by omega)
      have q' : nI (fst p - 4) = -1 := q
      rw [q'] at this
      exact this (by decide))⟩
    show wq_X7_numberAt _ R S o (nI (fst p - 4)) 3
    refine q_num hB hb h120 (f := fst p - 4) (t := 3) (by omega) (by omega) ?_
    have hnet : nb p (fst p - 4) 3 < 16777216 := by have := nb_lt hb (fst p - 4) 3; omega
    have enet : netP p = nb p (fst p - 4) 3 := rfl
    refine q_has h hT (by omega) hnet ?_
    cases h6 : t_has T e (nb p (fst p - 4) 3) with
    | false =>
      refine ⟨fun c => absurd rfl c, fun _ => ?_⟩
      have : misfit T p e = 6 := by unfold misfit; rw [enet, h6]; rfl
      rw [this] at hq
      exact hq S h
    | true =>
      refine ⟨fun _ => ?_, fun c => absurd c n01⟩
      refine q_num hB hb h120 (f := 12) (t := 4) (by omega) (by omega) ?_
      have hsrc : nb p 12 4 < 2 ^ 32 := by have := nb_lt hb 12 4; omega
      have esrc : srcP p = nb p 12 4 := rfl
      have m7 : (¬ (167772161 ≤ srcP p ∧ srcP p < 167772161 + tN T) ∨ srcP p = 167772161 + e ∨ t_has T (srcP p - 167772161) (netP p) = false) → post 7 S := fun q => by
        have : misfit T p e = 7 := by
          unfold misfit
          rw [enet, h6, if_neg (by decide), ← enet, if_pos q]
        rw [this] at hq
        exact hq S h
      refine q_isE h hT (fun j hj hjn => ⟨fun c => absurd c n01, fun _ => ?_⟩) (fun hj => ⟨fun _ => m7 (Or.inl ?_), fun c => absurd rfl c⟩)
      · have ej : srcP p = 167772161 + j := by
          have e1 : nI (nb p 12 4) = nI (167772161 + j) := by
            rw [← nI_add, Int32.add_comm, ← hj]
            exact (Int32.sub_add_cancel _ _).symm
          exact (nI_inj hsrc (by omega)).mp e1
        rw [hj]
        refine ⟨fun c => m7 (Or.inr (Or.inl ?_)), fun c => ?_⟩
        · have : j = e := (nI_eq (by omega) (by omega)).mp c
          rw [ej, this]
        · have hje : j ≠ e := fun q => c (by rw [q])
          refine q_has h hT (by omega) hnet ?_
          cases h7 : t_has T j (nb p (fst p - 4) 3) with
          | false =>
            refine ⟨fun c => absurd rfl c, fun _ => m7 (Or.inr (Or.inr ?_))⟩
            rw [ej, enet, Nat.add_sub_cancel_left]; exact h7
          | true =>
            refine ⟨fun _ => ⟨p.length - fst p + 1, ?_⟩, fun c => absurd c n01⟩
            have e4 : (nI (fst p - 4) : Int32) + 4 = nI (fst p) := by
              have : (nI (fst p - 4) : Int32) + nI 4 = nI (fst p - 4 + 4) := nI_add _ _
              rw [Nat.sub_add_cancel (by omega)] at this
              exact this
            have e52 : fi S 50 o - nI (fst p - 4) - 4 = nI (p.length - fst p) := by
              rw [f50, nI_sub (by omega)]
              have : nI (p.length - (fst p - 4)) - nI 4 = nI (p.length - (fst p - 4) - 4) := nI_sub (by omega)
              rw [show p.length - (fst p - 4) - 4 = p.length - fst p from by omega] at this
              exact this
            show wq_X7_look_177 _ post R (sfi S 52 o (fi S 50 o - nI (fst p - 4) - 4)) o (nI e) (nI (fst p - 4)) _ (nI j) 0
            rw [e52]
            have g0 : rfm S (sfi S 52 o (nI (p.length - fst p))) o R scr scj := rfm.wfi rfl
            refine q_177 (S0 := sfi S 52 o (nI (p.length - fst p))) (p := p) (at4 := fst p) e4 (by omega) h120 hB (fi_self _ _ _ _) (fun S1 M1 g1 f52 hB1 => ?_) (p.length - fst p) 0 _ (by omega) h.1.wfi rfm.rf (fun j hj => absurd hj (by omega))
            have h1 : RV S1 o R T := h.scr M1 (g0.tr g1)
            have hdl : (p.drop (fst p)).length = p.length - fst p := List.length_drop
            rw [← hdl]
            have nm : ¬ (¬ (167772161 ≤ srcP p ∧ srcP p < 167772161 + tN T) ∨ srcP p = 167772161 + e ∨ t_has T (srcP p - 167772161) (netP p) = false) := by
              rintro (q | q | q)
              · exact q ⟨by omega, by omega⟩
              · omega
              · rw [ej, enet, Nat.add_sub_cancel_left, h7] at q; cases q
            have hmf : misfit T p e = if isGrp (srcM p) then 8 else 0 := by
              unfold misfit
              rw [enet, h6, if_neg (by decide), ← enet, if_neg nm]
            have hsm : nb (p.drop (fst p)) 6 6 = srcM p := nb_drop p (fst p) 6 6
            refine q_tail h1 hT (hb.drop _) (by omega) (by omega) (by rw [hdl]; exact f52) hB1 he hnet hjn hje (fun q => ?_) (fun q S' h' => ?_)
            · rw [hsm] at q
              rw [hmf, q] at hq
              exact hq S1 h1
            · rw [hsm] at q
              rw [hmf, q] at hq
              have hq' : ∀ S', RV S' o R (t_let T p e).2 → post (nI (t_let T p e).1) S' := hq
              rw [t_let_in, ej, Nat.add_sub_cancel_left] at hq'
              exact hq' S' h'
      · intro q
        refine hj (srcP p - 167772161) (by omega) ?_
        show nI (srcP p) - nI 167772161 = _
        rw [nI_sub q.1]
