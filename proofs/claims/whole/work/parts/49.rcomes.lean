/-! ===== look, comes, take, deliver, twice, inject ===== -/
theorem q_look {post : Int32 → HS → Prop} {S : HS} {o : Nat} {R : Nat → Nat} {T : TS} {N : Nat} {p : List Nat} {e : Nat} (h : RV S o R T) (hT : OkT T N) (hP : Pb S o R p) (hf : Pf S R p) (hb : By p) (he : e < tN T) (hp : ∀ S', RV S' o R (t_look T p e).2 → post (nI (t_look T p e).1) S') : wq_X7_look post R S o (nI e) := by
  have h8 := hT.1.2
  obtain ⟨f50, hB, h120⟩ := hP
  have c0 : (0 : Int32).toNatClampNeg = 0 := by decide
  have hk : kd S (R 18) / 32 = 2 := h.1.t 18 (by decide)
  have hl : ln S (R 18) = 120 := (h.1.2 18 (by decide)).2.2
  have no : ∀ k, 0 < k → fault p e = k → post (nI k) S := fun k hk q => by
    have : t_look T p e = (k, T) := by unfold t_look; rw [if_pos (by omega), q]
    rw [this] at hp
    exact hp S h
  have L := pr2_lt hb
  have n4 : ∀ f, nb p f 4 < 2 ^ 32 := fun f => by have := nb_lt hb f 4; omega
  unfold wq_X7_look
  rw [f50, c0]
  refine ⟨fun c => no 1 (by omega) ?_, fun c => ⟨vp_in_nI (n := 0) (by omega) (by decide), fun c2 => no 1 (by omega) ?_, fun c2 => ?_⟩⟩
  · have := (nI_ltI (a := p.length) (b := 20) (by omega) (by omega)).mp c
    unfold fault; rw [if_pos (Or.inl this)]
  · have h20 : ¬ p.length < 20 := fun q => c ((nI_ltI (a := p.length) (b := 20) (by omega) (by omega)).mpr q)
    have : gb p 0 ≠ 69 := fun q => c2 ((hf 0 69 (by omega) (by omega)).mpr q)
    unfold fault; rw [if_pos (Or.inr (Or.inl this))]
  · have h20 : ¬ p.length < 20 := fun q => c ((nI_ltI (a := p.length) (b := 20) (by omega) (by omega)).mpr q)
    have e0 : gb p 0 = 69 := (hf 0 69 (by omega) (by omega)).mp c2
    refine q_num hB hb h120 (f := 2) (t := 2) (by omega) (by omega) ?_
    rw [nb2, f50]
    refine ⟨fun c3 => ?_, fun c3 => no 1 (by omega) ?_⟩
    · have e2 : pr2 p 2 = p.length := (nI_eq (by have := L 2; omega) (by omega)).mp c3
      have f1 : ¬ (p.length < 20 ∨ gb p 0 ≠ 69 ∨ pr2 p 2 ≠ p.length) := by
        rintro (q | q | q)
        · exact h20 q
        · exact q e0
        · exact q e2
      refine q_sum hk hl hB hb h120 (f := 0) (t := 20) (by omega) (by omega) ⟨h.1, ?_⟩
      rw [List.drop_zero]
      have hs16 : csum (sl (p.take 20)) < 65536 := csum_by (hb.take 20) (by rw [List.length_take]; omega)
      refine ⟨fun c4 => ?_, fun c4 => no 2 (by omega) ?_⟩
      · have e4 : csum (sl (p.take 20)) = 0 := (nI_eq (b := 0) (by omega) (by omega)).mp c4
        have f2 : ¬ csum (sl (p.take 20)) ≠ 0 := fun q => q e4
        refine q_num hB hb h120 (f := 16) (t := 4) (by omega) (by omega) ?_
        have eae : (167772161 : Int32) + nI e = nI (167772161 + e) := nI_add 167772161 e
        rw [eae]
        refine ⟨fun c5 => ?_, fun c5 => no 3 (by omega) ?_⟩
        · have e5 : nb p 16 4 = 167772161 + e := (nI_inj (n4 16) (by omega)).mp c5
          have f3 : ¬ nb p 16 4 ≠ 167772161 + e := fun q => q e5
          have go : (pr2 p 6 = 16384 ∨ pr2 p 6 = 0) → wq_X7_look_91a post R S o (nI e) := fun q6 => by
            have f4 : ¬ (pr2 p 6 ≠ 16384 ∧ pr2 p 6 ≠ 0) := by omega
            have hfa : fault p e = if carries p then 0 else 5 := by unfold fault; rw [if_neg f1, if_neg f2, if_neg f3, if_neg f4]
            refine q_91 h hT ⟨f50, hB, h120⟩ hf hb (by omega) he (fun q => no 5 (by omega) ?_) (fun q => ?_)
            · rw [hfa, q]; rfl
            · have hz : fault p e = 0 := by rw [hfa, q]; rfl
              have : t_look T p e = if misfit T p e ≠ 0 then (misfit T p e, T) else t_let T p e := by unfold t_look; rw [if_neg (by omega)]
              rw [this] at hp
              exact hp
          refine q_num hB hb h120 (f := 6) (t := 2) (by omega) (by omega) ?_
          rw [nb2]
          refine ⟨fun c6 => go (Or.inr ?_), fun c6 => ?_⟩
          · exact (nI_eq (b := 0) (by have := L 6; omega) (by omega)).mp c6
          · have n6 : ¬ pr2 p 6 = 0 := fun q => c6 (by rw [q]; rfl)
            refine q_num hB hb h120 (f := 6) (t := 2) (by omega) (by omega) ?_
            rw [nb2]
            refine ⟨fun c7 => go (Or.inl ?_), fun c7 => no 4 (by omega) ?_⟩
            · exact (nI_eq (b := 16384) (by have := L 6; omega) (by omega)).mp c7
            · have n7 : ¬ pr2 p 6 = 16384 := fun q => c7 (by rw [q]; rfl)
              unfold fault; rw [if_neg f1, if_neg f2, if_neg f3, if_pos ⟨n7, n6⟩]
        · have : nb p 16 4 ≠ 167772161 + e := fun q => c5 (by rw [q])
          unfold fault; rw [if_neg f1, if_neg f2, if_pos this]
      · have : csum (sl (p.take 20)) ≠ 0 := fun q => c4 (by rw [q]; rfl)
        unfold fault; rw [if_neg f1, if_pos this]
    · have : pr2 p 2 ≠ p.length := fun q => c3 (by rw [q])
      unfold fault; rw [if_pos (Or.inr (Or.inr this))]
theorem fault_le (p : List Nat) (e : Nat) : fault p e ≤ 5 := by
  unfold fault
  split
  · omega
  · split
    · omega
    · split
      · omega
      · split
        · omega
        · split <;> omega
theorem misfit_le (T : TS) (p : List Nat) (e : Nat) : misfit T p e ≤ 8 := by
  unfold misfit
  split
  · omega
  · split
    · omega
    · split <;> omega
theorem t_let_le (T : TS) (p : List Nat) (e : Nat) : (t_let T p e).1 = 0 ∨ (t_let T p e).1 = 9 := by
  unfold t_let
  dsimp only
  split
  · exact Or.inl rfl
  · exact Or.inr rfl
  · exact Or.inl rfl
theorem t_look_le (T : TS) (p : List Nat) (e : Nat) : (t_look T p e).1 ≤ 9 := by
  unfold t_look
  split
  · have := fault_le p e; show fault p e ≤ 9; omega
  · split
    · have := misfit_le T p e; show misfit T p e ≤ 9; omega
    · rcases t_let_le T p e with q | q <;> omega
theorem t_arr_look (T : TS) (p : List Nat) (e : Nat) : t_arr T p e = if (t_look T p e).1 ≠ 0 then ((t_look T p e).1, uC (t_look T p e).2 (t_look T p e).1) else t_look T p e := by
  unfold t_arr t_look
  by_cases h1 : fault p e ≠ 0
  · simp only [if_pos h1]
  · simp only [if_neg h1]
    by_cases h2 : misfit T p e ≠ 0
    · simp only [if_pos h2]
    · simp only [if_neg h2]
theorem q_comes {post : Int32 → HS → Prop} {S : HS} {o : Nat} {R : Nat → Nat} {T : TS} {N : Nat} {p : List Nat} {e : Nat} (h : RV S o R T) (hT : OkT T N) (hP : Pb S o R p) (hf : Pf S R p) (hb : By p) (he : e < tN T) (hp : ∀ S', RV S' o R (t_arr T p e).2 → post (nI (t_arr T p e).1) S') : wq_X7_comes post R S o (nI e) := by
  refine q_look h hT hP hf hb he (fun S1 h1 => ?_)
  have hle := t_look_le T p e
  rw [t_arr_look] at hp
  generalize t_look T p e = L at *
  refine ⟨fun c => ?_, fun c => ?_⟩
  · have : L.1 = 0 := by
      have := (nI_leI (a := L.1) (b := 0) (by omega) (by omega)).mp c
      omega
    rw [if_neg (by omega)] at hp
    exact hp S1 h1
  · have hne : L.1 ≠ 0 := fun q => c (by rw [q]; decide)
    rw [if_pos hne] at hp
    have hin : vp_in (nI L.1) 13 := vp_in_nI (by omega) (by decide)
    refine ⟨hin, hin, ?_⟩
    rw [nI_clamp (by omega), h1.2.2.2.2.2.2.2.2 L.1 (by omega), nI_1]
    refine hp _ ?_
    have hM := h1.1
    have g : rfm S1 (sai S1 (R 17) L.1 (nI (tC L.2 L.1 + 1))) o R (fun _ => false) wjC := rfm.wai hM (by decide) rfl
    exact h1.kc hM.wai g (h1.2.2.2.2.2.1.fr (rfm.wai (wf := fun _ => false) (wj := fun j => j == 17) hM (by decide) rfl) rfl ⟨rfl, rfl, rfl, rfl, rfl⟩) (h1.2.2.2.2.2.2.2.2.inc hM L.1) rfl rfl rfl rfl rfl rfl
/-- bytes that were copied -/
def Cp (S : HS) (R : Nat → Nat) (p : List Nat) (k : Nat) : Prop := ∀ j, j < k → (∃ x : Int32, ai S (R 18) j = x.toInt8.toInt32) ∧ ai S (R 18) j &&& 255 = nI (gb p j)
theorem Cp.pf {S : HS} {R : Nat → Nat} {p : List Nat} (h : Cp S R p p.length) (hb : By p) : Pf S R p := fun j m hj hm => by
  obtain ⟨⟨x, hx⟩, h2⟩ := h j hj
  rw [hx] at h2 ⊢
  exact bfit (hb j) hm h2
theorem Cp.rb {S : HS} {R : Nat → Nat} {p : List Nat} (h : Cp S R p p.length) : RvB S (R 18) 0 p := fun j hj => by
  rw [Nat.zero_add]; exact (h j hj).2
theorem Cp.up {S : HS} {R : Nat → Nat} {p : List Nat} {k : Nat} {y : Int32} (hR : RI R) (h : Cp S R p k) (hy : y &&& 255 = nI (gb p k)) : Cp (sai S (R 18) k y.toInt8.toInt32) R p (k + 1) := fun j hj => by
  rw [ai_r hR _ (by decide) (by decide)]
  by_cases z : j = k
  · rw [if_pos ⟨rfl, z⟩, bp, z]
    exact ⟨⟨y, rfl⟩, hy⟩
  · rw [if_neg (by omega)]
    exact h j (by omega)
theorem q_take_loop {post : Int32 → HS → Prop} {S0 : HS} {o : Nat} {R : Nat → Nat} {p : List Nat} {i : Nat} {x2 : Int32} (hi : i < 50) (h120 : p.length ≤ 120) (hf0 : fi S0 50 o = nI p.length) (hB0 : RvB S0 (R 14) (120 * i) p) (hp : ∀ S, RM S o R → rfm S0 S o R (fun _ => false) wj18 → Cp S R p p.length → wq_X7_take_12 1 post R S o (nI i) x2 (nI p.length)) : ∀ (n k : Nat) (S : HS), k + n = p.length → RM S o R → rfm S0 S o R (fun _ => false) wj18 → Cp S R p k → wq_X7_take_12 (n + 1) post R S o (nI i) x2 (nI k) := by
  intro n
  induction n with
  | zero =>
    intro k S hk hM g q
    have : k = p.length := by omega
    subst this
    exact hp S hM g q
  | succ n ih =>
    intro k S hk hM g q
    have hR := hM.inj
    refine ⟨fun c => ?_, fun _ => ?_⟩
    · rw [g.1 50 rfl, hf0] at c
      exact absurd ((nI_leI (by omega) (by omega)).mp c) (by omega)
    · rw [nI_120, nI_add]
      refine ⟨vp_in_nI (by omega) (by decide), vp_in_nI (by omega) (by decide), ?_⟩
      rw [nI_clamp (by omega), nI_clamp (by omega), nI_1]
      refine ih (k + 1) _ (by omega) hM.wai (g.tr (rfm.wai hM (by decide) rfl)) (q.up hR ?_)
      rw [(g.2 14 (by decide) rfl).1]
      exact hB0 k (by omega)
theorem RV.dr {S S' : HS} {o : Nat} {R : Nat → Nat} {T T' : TS} (h : RV S o R T) (hM : RM S' o R) (g : rfm S S' o R wf47a wjF) (hF : RvF S' o R T') (e1 : tN T' = tN T) (e2 : tS T' = tS T) (e3 : tW T' = tW T) (e4 : tQ T' = tQ T) (e5 : tT T' = tT T) (e6 : tK T' = tK T) (e7 : tC T' = tC T) : RV S' o R T' := by
  obtain ⟨-, h1, h2, h3, h4, h5, h6, h7, h8'⟩ := h
  exact ⟨hM, by rw [e1]; exact (g.1 27 rfl).trans h1, h2.fr g e2 rfl ⟨rfl, rfl, rfl, rfl, rfl, rfl⟩, h3.fr g e3 rfl, h4.fr g e4 rfl, h5.fr g e6 ⟨rfl, rfl, rfl, rfl, rfl⟩, h6.fr g e5 rfl rfl, hF, h8'.fr g e7 rfl⟩
theorem q_take {post : Int32 → HS → Prop} {S : HS} {o : Nat} {R : Nat → Nat} {T : TS} {N : Nat} {i : Nat} {f : List Nat × Nat} (h : RV S o R T) (hT : OkT T N) (hf : (tF T)[i]? = some f) (b : Bool) (hp : ∀ S', RV S' o R (t_arr (if b then T else uF T ((tF T).eraseIdx i)) f.1 f.2).2 → post (nI (t_arr (if b then T else uF T ((tF T).eraseIdx i)) f.1 f.2).1) S') : wq_X7_take post R S o (nI i) (if b then 1 else 0) := by
  have h50 := hT.2.2.2.2.2.1
  have hl := (List.getElem?_eq_some_iff.mp hf).1
  obtain ⟨f1, f2, f3⟩ := h.2.2.2.2.2.2.2.1.2 i f hf
  obtain ⟨m1, m2, m3⟩ := hT.2.2.2.2.2.2 f (List.mem_of_getElem? hf)
  refine ⟨vp_in_nI (by omega) (by decide), f.1.length + 1, ?_⟩
  rw [nI_clamp (by omega), f1]
  refine q_take_loop (S0 := sfi S 50 o (nI f.1.length)) (by omega) m2 (fi_self _ _ _ _) f3 (fun S1 M1 g1 q => ?_) f.1.length 0 _ (by omega) h.1.wfi rfm.rf (fun j hj => absurd hj (by omega))
  have g0 : rfm S S1 o R scr scj := (rfm.wfi rfl).tr (g1.mono (fun _ _ => rfl) (fun j z => (Bool.or_eq_false_iff.mp z).1))
  have h1 : RV S1 o R T := h.scr M1 g0
  have f50 : fi S1 50 o = nI f.1.length := (g1.1 50 rfl).trans (fi_self _ _ _ _)
  have a16 : ai S1 (R 16) i = nI f.2 := by rw [(g0.2 16 (by decide) rfl).1]; exact f2
  refine ⟨fun _ => ⟨vp_in_nI (by omega) (by decide), ?_⟩, fun c => absurd (by rw [f50]; exact (nI_leI (by omega) (by omega)).mpr (Nat.le_refl _)) c⟩
  rw [nI_clamp (by omega), a16]
  cases b with
  | true =>
    refine ⟨fun _ => ?_, fun c => absurd c n01⟩
    exact q_comes h1 hT ⟨f50, q.rb, m2⟩ (q.pf m1) m1 m3 hp
  | false =>
    refine ⟨fun c => absurd rfl c, fun _ => ?_⟩
    refine q_drop M1 h1.2.2.2.2.2.2.2.1 ⟨hT.2.2.2.2.2.1, fun f hf => (hT.2.2.2.2.2.2 f hf).2.1⟩ hl (fun S2 M2 g2 hF => ?_)
    have h2 : RV S2 o R (uF T ((tF T).eraseIdx i)) := h1.dr M2 g2 hF rfl rfl rfl rfl rfl rfl rfl
    have hT2 : OkT (uF T ((tF T).eraseIdx i)) N := hT.f (Nat.le_trans (List.length_eraseIdx_le _ _) h50) (fun x hx => hT.2.2.2.2.2.2 x (List.mem_of_mem_eraseIdx hx))
    have a18 : ai S2 (R 18) = ai S1 (R 18) := (g2.2 18 (by decide) rfl).1
    have q2 : Cp S2 R f.1 f.1.length := fun j hj => by rw [a18]; exact q j hj
    exact q_comes h2 hT2 ⟨(g2.1 50 rfl).trans f50, q2.rb, m2⟩ (q2.pf m1) m1 m3 hp
theorem v_deliver {post : Int32 → HS → Prop} {S : HS} {o : Nat} {R : Nat → Nat} {T : TS} {N : Nat} (h : RV S o R T) (hT : OkT T N) {x : Int32} (hp : ∀ S', RV S' o R (s_deliver T x).2 → post (s_deliver T x).1 S') : wq_X7_deliver post R S o x := by
  refine q_isP' h hT (fun i hi hl hx => ⟨fun c => absurd c n01, fun _ => ?_⟩) (fun hi => ⟨fun _ => ?_, fun c => absurd rfl c⟩)
  · obtain ⟨f, hf⟩ := get_lt hl
    subst hx
    simp only [s_deliver, hi, hf] at hp
    exact q_take h hT hf false hp
  · simp only [s_deliver, hi] at hp
    exact hp S h
theorem v_twice {post : Int32 → HS → Prop} {S : HS} {o : Nat} {R : Nat → Nat} {T : TS} {N : Nat} (h : RV S o R T) (hT : OkT T N) {x : Int32} (hp : ∀ S', RV S' o R (s_twice T x).2 → post (s_twice T x).1 S') : wq_X7_twice post R S o x := by
  refine q_isP' h hT (fun i hi hl hx => ⟨fun c => absurd c n01, fun _ => ?_⟩) (fun hi => ⟨fun _ => ?_, fun c => absurd rfl c⟩)
  · obtain ⟨f, hf⟩ := get_lt hl
    subst hx
    simp only [s_twice, hi, hf] at hp
    exact q_take h hT hf true hp
  · simp only [s_twice, hi] at hp
    exact hp S h
theorem q_inj_loop {post : Int32 → HS → Prop} {S0 : HS} {o : Nat} {R : Nat → Nat} {p : List Nat} {e : Nat} (h120 : p.length ≤ 120) (hf0 : fi S0 43 o = nI p.length) (hB0 : RvB S0 (R 13) 0 p) (hp : ∀ S, RM S o R → rfm S0 S o R (fun _ => false) wj18 → Cp S R p p.length → wq_X7_inject_20 1 post R S o (nI e) (nI p.length)) : ∀ (n k : Nat) (S : HS), k + n = p.length → RM S o R → rfm S0 S o R (fun _ => false) wj18 → Cp S R p k → wq_X7_inject_20 (n + 1) post R S o (nI e) (nI k) := by
  intro n
  induction n with
  | zero =>
    intro k S hk hM g q
    have : k = p.length := by omega
    subst this
    exact hp S hM g q
  | succ n ih =>
    intro k S hk hM g q
    have hR := hM.inj
    refine ⟨fun c => ?_, fun _ => ?_⟩
    · rw [g.1 43 rfl, hf0] at c
      exact absurd ((nI_leI (by omega) (by omega)).mp c) (by omega)
    · refine ⟨vp_in_nI (by omega) (by decide), vp_in_nI (by omega) (by decide), ?_⟩
      rw [nI_clamp (by omega), nI_1]
      refine ih (k + 1) _ (by omega) hM.wai (g.tr (rfm.wai hM (by decide) rfl)) (q.up hR ?_)
      rw [(g.2 13 (by decide) rfl).1]
      have := hB0 k (by omega)
      rw [Nat.zero_add] at this
      exact this
theorem v_inject {post : Int32 → HS → Prop} {S : HS} {o : Nat} {R : Nat → Nat} {T : TS} {N : Nat} (h : RV S o R T) (hT : OkT T N) {x : Int32} (hp : ∀ S', RV S' o R (s_inject T x).2 → post (s_inject T x).1 S') : wq_X7_inject post R S o x := by
  obtain ⟨f43, fB⟩ := h.2.2.2.2.2.2.1
  obtain ⟨t1, t2⟩ := hT.2.2.2.2.1
  refine q_isE' h hT (fun e he hl hx => ⟨fun _ => ?_, fun c => absurd c n01⟩) (fun he => ⟨fun c => absurd rfl c, fun _ => ?_⟩)
  · subst hx
    simp only [s_inject, he] at hp
    refine ⟨(tT T).length + 1, ?_⟩
    rw [f43]
    refine q_inj_loop (S0 := sfi S 50 o (nI (tT T).length)) t2 ((fi_ne _ _ _ _ (Or.inl (by decide))).trans f43) fB (fun S1 M1 g1 q => ?_) (tT T).length 0 _ (by omega) h.1.wfi rfm.rf (fun j hj => absurd hj (by omega))
    have g0 : rfm S S1 o R scr scj := (rfm.wfi rfl).tr (g1.mono (fun _ _ => rfl) (fun j z => (Bool.or_eq_false_iff.mp z).1))
    have h1 : RV S1 o R T := h.scr M1 g0
    have f50 : fi S1 50 o = nI (tT T).length := (g1.1 50 rfl).trans (fi_self _ _ _ _)
    refine ⟨fun _ => ?_, fun c => absurd (by rw [h1.2.2.2.2.2.2.1.1]; exact (nI_leI (by omega) (by omega)).mpr (Nat.le_refl _)) c⟩
    have h2 : RV (sfi S1 43 o 0) o R (uT T []) := by
      have g : rfm S1 (sfi S1 43 o 0) o R (fun f => f == 43) (fun _ => false) := rfm.wfi rfl
      obtain ⟨-, k1, k2, k3, k4, k5, k6, k7, k8⟩ := h1
      exact ⟨M1.wfi, (g.1 27 rfl).trans k1, k2.fr g rfl rfl ⟨rfl, rfl, rfl, rfl, rfl, rfl⟩, k3.fr g rfl rfl, k4.fr g rfl rfl, k5.fr g rfl ⟨rfl, rfl, rfl, rfl, rfl⟩, ⟨fi_self _ _ _ _, fun j hj => absurd hj (Nat.not_lt_zero j)⟩, k7.fr g rfl rfl ⟨rfl, rfl, rfl⟩, k8.fr g rfl rfl⟩
    exact q_comes h2 (hT.t By.nil (Nat.zero_le _)) ⟨(fi_ne _ _ _ _ (Or.inl (by decide))).trans f50, q.rb, t2⟩ (q.pf t1) t1 hl hp
  · simp only [s_inject, he] at hp
    exact hp S h
/-! what holds of every state: arrivals -/
theorem OkT.let {T : TS} {N e : Nat} {p : List Nat} (h : OkT T N) (hb : By p) (h120 : p.length ≤ 120) (he : e < tN T) (hm : misfit T p e = 0) : OkT (t_let T p e).2 (N + 1) := by
  have hs6 := nb_lt hb (fst p + 6) 6
  have hn3 := nb_lt hb (fst p - 4) 3
  have hq : ¬ (¬ (167772161 ≤ srcP p ∧ srcP p < 167772161 + tN T) ∨ srcP p = 167772161 + e ∨ t_has T (srcP p - 167772161) (netP p) = false) := fun q => by
    unfold misfit at hm
    split at hm
    · cases hm
    · first | cases hm | (rw [if_pos q] at hm; cases hm)
  have q1 : 167772161 ≤ srcP p ∧ srcP p < 167772161 + tN T := Classical.byContradiction (fun z => hq (Or.inl z))
  have q2 : ¬ srcP p = 167772161 + e := fun z => hq (Or.inr (Or.inl z))
  have h1 : OkT (t_learn T e (netP p) (srcM p) (Sum.inr (srcP p - 167772161))) N := h.learn he ⟨(by show netP p < 16777216; unfold netP; omega), (by show srcM p < 281474976710656; unfold srcM; omega), Nat.zero_le _, (by show srcP p - 167772161 < tN T; omega), (by show srcP p - 167772161 ≠ e; omega)⟩
  have hd : By (p.drop (fst p)) := hb.drop _
  have hl : (p.drop (fst p)).length ≤ 120 := by rw [List.length_drop]; omega
  unfold t_let
  show OkT (match whr _ _ _ with | none => _ | some (Sum.inr _) => _ | some (Sum.inl k) => _ : Nat × TS).2 _
  split
  · exact h1.all hd hl
  · exact h1.up (Nat.le_succ _)
  · exact h1.one hd hl
theorem OkT.arr {T : TS} {N e : Nat} {p : List Nat} (h : OkT T N) (hb : By p) (h120 : p.length ≤ 120) (he : e < tN T) : OkT (t_arr T p e).2 (N + 1) := by
  unfold t_arr
  split
  · exact (h.up (Nat.le_succ _)).c
  · split
    · exact (h.up (Nat.le_succ _)).c
    · rename_i q
      have := OkT.let h hb h120 he (by omega)
      split
      · exact this.c
      · exact this
