/-! ===== the packet is put in flight ===== -/
theorem q_cpy_loop {post : Unit → HS → Prop} {o : Nat} {R : Nat → Nat} {c m : Nat} (hc : c ≤ 49) (hm : m ≤ 120) : ∀ (n i : Nat) (S : HS), i + n = m → RM S o R → fi S 50 o = nI m → fi S 47 o = nI c → (∀ S', RM S' o R → rfm S S' o R (fun _ => false) (fun j => j == 14) → (∀ x, ai S' (R 14) x &&& 255 = (if 120 * c + i ≤ x ∧ x < 120 * c + m then ai S (R 18) (x - 120 * c) else ai S (R 14) x) &&& 255) → post () (sfi S' 47 o (nI (c + 1)))) → wq_X7_goes_423 (n + 1) post R S o (nI i) := by
  intro n
  induction n with
  | zero =>
    intro i S hi hM h5 h4 hp
    refine ⟨fun _ => ?_, fun q => absurd ?_ q⟩
    · rw [h4, nI_1]
      exact hp S hM rfm.rf (fun x => by rw [if_neg (by omega)])
    · rw [h5]; exact (nI_leI (by omega) (by omega)).mpr (by omega)
  | succ n ih =>
    intro i S hi hM h5 h4 hp
    have hR := hM.inj
    have e1 : (120 : Int32) * fi S 47 o + nI i = nI (120 * c + i) := by rw [h4, nI_120, nI_add]
    refine ⟨fun q => ?_, fun _ => ⟨vp_in_nI (by omega) (by decide), by rw [e1]; exact vp_in_nI (by omega) (by decide), ?_⟩⟩
    · rw [h5] at q
      exact absurd ((nI_leI (by omega) (by omega)).mp q) (by omega)
    · rw [e1, nI_1, nI_clamp (by omega), nI_clamp (by omega)]
      refine ih (i + 1) _ (by omega) hM.wai h5 h4 (fun S' M' g fx => hp S' M' ((rfm.wai hM (by decide) rfl).tr g) (fun x => ?_))
      rw [fx x, ai_r hR S (by decide) (by decide), ai_r hR S (by decide) (by decide), if_neg (show ¬ (18 = 14 ∧ _) by omega)]
      by_cases z2 : x = 120 * c + i
      · rw [if_neg (show ¬ (120 * c + (i + 1) ≤ x ∧ x < 120 * c + m) by omega), if_pos ⟨rfl, z2⟩, if_pos (by omega), bp]
        congr 2
        omega
      · by_cases z : 120 * c + (i + 1) ≤ x ∧ x < 120 * c + m
        · rw [if_pos z, if_pos (by omega)]
        · rw [if_neg z, if_neg (by omega), if_neg (by omega)]
theorem q_397 {post : Unit → HS → Prop} {S : HS} {o : Nat} {R : Nat → Nat} {T : TS} {p : List Nat} {d : Nat} (hM : RM S o R) (hF : RvF S o R T) (hP : Pb S o R p) (h49 : (tF T).length ≤ 49 ∧ ∀ f ∈ tF T, f.1.length ≤ 120) (hp : ∀ S', RM S' o R → rfm S S' o R wf47 wjF → RvF S' o R (uF T (tF T ++ [(p, d)])) → post () S') : wq_X7_goes_397a post R S o (nI d) := by
  obtain ⟨p1, p2, p3⟩ := hP
  have hR := hM.inj
  have h4 := hF.1
  have hl := h49.1
  unfold wq_X7_goes_397a
  rw [show fi (sai S (R 15) (fi S 47 o).toNatClampNeg (fi S 50 o)) 47 o = fi S 47 o from rfl, h4, p1]
  refine ⟨vp_in_nI (by omega) (by decide), vp_in_nI (by omega) (by decide), p.length + 1, ?_⟩
  rw [nI_clamp (by omega)]
  generalize hS1 : sai S (R 15) (tF T).length (nI p.length) = S1
  generalize hS2 : sai S1 (R 16) (tF T).length (nI d) = S2
  have M1 : RM S1 o R := by rw [← hS1]; exact hM.wai
  have M2 : RM S2 o R := by rw [← hS2]; exact M1.wai
  have g2 : rfm S S2 o R wf47 wjF := by
    rw [← hS2]; refine rfm.tr ?_ (rfm.wai M1 (by decide) rfl)
    rw [← hS1]; exact rfm.wai hM (by decide) rfl
  have e15 : ∀ x, ai S2 (R 15) x = if x = (tF T).length then nI p.length else ai S (R 15) x := fun x => by
    rw [← hS2, ai_r hR S1 (by decide) (by decide), if_neg (by omega), ← hS1, ai_r hR S (by decide) (by decide)]; simp
  have e16 : ∀ x, ai S2 (R 16) x = if x = (tF T).length then nI d else ai S (R 16) x := fun x => by
    rw [← hS2, ai_r hR S1 (by decide) (by decide), ← hS1, ai_r hR S (by decide) (by decide)]; simp
  have e14 : ai S2 (R 14) = ai S (R 14) := by
    funext x
    rw [← hS2, ai_r hR S1 (by decide) (by decide), if_neg (by omega), ← hS1, ai_r hR S (by decide) (by decide), if_neg (by omega)]
  have e18 : ai S2 (R 18) = ai S (R 18) := by
    funext x
    rw [← hS2, ai_r hR S1 (by decide) (by decide), if_neg (by omega), ← hS1, ai_r hR S (by decide) (by decide), if_neg (by omega)]
  have f50 : fi S2 50 o = nI p.length := by rw [← hS2, ← hS1]; exact p1
  have f47 : fi S2 47 o = nI (tF T).length := by rw [← hS2, ← hS1]; exact h4
  refine q_cpy_loop (c := (tF T).length) (m := p.length) hl p3 p.length 0 S2 (by omega) M2 f50 f47 (fun S3 M3 g3 fx => ?_)
  have wF : ∀ j, wjF j = false → (j == 14) = false := fun j q => (Bool.or_eq_false_iff.mp (Bool.or_eq_false_iff.mp q).1).1
  refine hp _ M3.wfi ((g2.tr (g3.mono (fun f _ => rfl) wF)).tr (rfm.wfi rfl)) ⟨?_, fun k f hk => ?_⟩
  · show fi (sfi S3 47 o (nI ((tF T).length + 1))) 47 o = nI (tF T ++ [(p, d)]).length
    rw [fi_self]; simp
  · have hk' : (tF T ++ [(p, d)])[k]? = some f := hk
    rw [ai_f, (g3.2 15 (by decide) rfl).1, (g3.2 16 (by decide) rfl).1, e15, e16]
    rw [e14, e18] at fx
    by_cases z : k = (tF T).length
    · subst z
      rw [List.getElem?_append_right (Nat.le_refl _), Nat.sub_self] at hk'
      cases hk'
      rw [if_pos rfl, if_pos rfl]
      refine ⟨rfl, rfl, fun j hj => ?_⟩
      have hj : j < p.length := hj
      rw [ai_f, fx, if_pos (by omega), show 120 * (tF T).length + j - 120 * (tF T).length = 0 + j by omega]
      exact p2 j hj
    · have hkl := (List.getElem?_eq_some_iff.mp hk').1
      simp at hkl
      rw [List.getElem?_append_left (by omega)] at hk'
      rw [if_neg z, if_neg z]
      obtain ⟨b1, b2, b3⟩ := hF.2 k f hk'
      have hf := h49.2 f (List.mem_of_getElem? hk')
      refine ⟨b1, b2, fun j hj => ?_⟩
      rw [ai_f, fx, if_neg (by omega)]
      exact b3 j hj
theorem RV.go {S S' : HS} {o : Nat} {R : Nat → Nat} {T T' : TS} (h : RV S o R T) (hM : RM S' o R) (g : rfm S S' o R wfG wjG) (hQ : RvQ S' R T') (hF : RvF S' o R T') (hC : RvC S' R T') (e1 : tN T' = tN T) (e2 : tS T' = tS T) (e3 : tW T' = tW T) (e5 : tT T' = tT T) (e7 : tK T' = tK T) : RV S' o R T' := by
  obtain ⟨-, h1, h2, h3, h4, h5, h6, h7, h8⟩ := h
  exact ⟨hM, by rw [e1]; exact (g.1 27 rfl).trans h1, h2.fr g e2 rfl ⟨rfl, rfl, rfl, rfl, rfl, rfl⟩, h3.fr g e3 rfl, hQ, h5.fr g e7 ⟨rfl, rfl, rfl, rfl, rfl⟩, h6.fr g e5 rfl rfl, hF, hC⟩
theorem uC_at (T : TS) (k j : Nat) : tC (uC T k) j = if j = k then tC T k + 1 else tC T j := rfl
theorem RvC.inc {S : HS} {o : Nat} {R : Nat → Nat} {T : TS} (hM : RM S o R) (hC : RvC S R T) (k : Nat) : RvC (sai S (R 17) k (nI (tC T k + 1))) R (uC T k) := fun j hj => by
  rw [ai_r hM.inj S (by decide) (by decide), uC_at]
  by_cases z : j = k
  · rw [if_pos ⟨rfl, z⟩, if_pos z]
  · rw [if_neg (fun q => z q.2), if_neg z]; exact hC j hj
theorem q_352 {post : Unit → HS → Prop} {S0 S : HS} {o : Nat} {R : Nat → Nat} {T : TS} {p : List Nat} {e d net : Nat} {b : List Nat} (h : RV S0 o R T) (h50 : (tF T).length ≤ 50 ∧ ∀ f ∈ tF T, f.1.length ≤ 120) (he : e < 8) (hM : RM S o R) (g : rfm S0 S o R wf50 wj18) (hP : Pb S o R p) (hpk : p = pkt (tW T e d) (tQ T e) e d net b) (hp : ∀ S', RV S' o R (t_go T e d net b) → rfm S0 S' o R wfG wjG → post () S') : wq_X7_goes_352a post R S o (nI e) (nI d) := by
  have hR := hM.inj
  obtain ⟨-, -, -, -, hQ, -, -, hF, hC⟩ := id h
  have hf47 : fi S 47 o = fi S0 47 o := g.1 47 rfl
  have g' : rfm S0 S o R wfG wjG := g.mono wfG50 wjG18
  have a7 : ai S (R 7) = ai S0 (R 7) := (g.2 7 (by decide) rfl).1
  have a17 : ai S (R 17) = ai S0 (R 17) := (g.2 17 (by decide) rfl).1
  have i8 : vp_in (nI e) 8 := vp_in_nI he (by decide)
  unfold wq_X7_goes_352a
  rw [nI_clamp (by omega), show (0 : Int32).toNatClampNeg = 0 from by decide, a7, hQ e he, nI_1]
  have b17 : ai (sai S (R 7) e (nI (tQ T e + 1))) (R 17) 0 = nI (tC T 0) := by
    rw [ai_r hR S (by decide) (by decide), if_neg (by omega), a17]; exact hC 0 (by decide)
  rw [b17, nI_1]
  generalize hS2 : sai (sai S (R 7) e (nI (tQ T e + 1))) (R 17) 0 (nI (tC T 0 + 1)) = S2
  have M2 : RM S2 o R := by rw [← hS2]; exact hM.wai.wai
  have g2 : rfm S S2 o R (fun _ => false) (fun j => j == 7 || j == 17) := by
    rw [← hS2]; exact (rfm.wai hM (by decide) rfl).tr (rfm.wai hM.wai (by decide) rfl)
  have w2 : ∀ j, wjG j = false → (j == 7 || j == 17) = false := fun j q => by
    unfold wjG at q
    simp only [Bool.or_eq_false_iff] at q
    simp [q]
  have G2 : rfm S0 S2 o R wfG wjG := g'.tr (g2.mono (fun _ _ => rfl) w2)
  have Q2 : RvQ S2 R (uC (uQ T e) 0) := fun x hx => by
    rw [← hS2, ai_r hR _ (by decide) (by decide), if_neg (by omega), ai_r hR S (by decide) (by decide), a7]
    show _ = nI (if x = e then tQ T e + 1 else tQ T x)
    by_cases z : x = e
    · rw [if_pos ⟨rfl, z⟩, if_pos z]
    · rw [if_neg (fun q => z q.2), if_neg z]; exact hQ x hx
  have C2 : RvC S2 R (uC (uQ T e) 0) := fun x hx => by
    rw [← hS2, ai_r hR _ (by decide) (by decide), ai_r hR S (by decide) (by decide), if_neg (show ¬ (17 = 7 ∧ _) by omega), a17]
    show _ = nI (if x = 0 then tC T 0 + 1 else tC T x)
    by_cases z : x = 0
    · rw [if_pos ⟨rfl, z⟩, if_pos z]
    · rw [if_neg (fun q => z q.2), if_neg z]; exact hC x hx
  have f47 : fi S2 47 o = nI (tF T).length := ((g2.1 47 rfl).trans hf47).trans hF.1
  have F2 : RvF S2 o R (uC (uQ T e) 0) := by
    refine ⟨f47, fun k f hk => ?_⟩
    obtain ⟨b1, b2, b3⟩ := hF.2 k f hk
    have c14 : ai S2 (R 14) = ai S0 (R 14) := (g2.2 14 (by decide) rfl).1.trans (g.2 14 (by decide) rfl).1
    have c15 : ai S2 (R 15) = ai S0 (R 15) := (g2.2 15 (by decide) rfl).1.trans (g.2 15 (by decide) rfl).1
    have c16 : ai S2 (R 16) = ai S0 (R 16) := (g2.2 16 (by decide) rfl).1.trans (g.2 16 (by decide) rfl).1
    refine ⟨by rw [c15]; exact b1, by rw [c16]; exact b2, fun j hj => ?_⟩
    rw [c14]; exact b3 j hj
  have P2 : Pb S2 o R p := ⟨(g2.1 50 rfl).trans hP.1, fun j hj => by rw [(g2.2 18 (by decide) rfl).1]; exact hP.2.1 j hj, hP.2.2⟩
  have i13 : vp_in (0 : Int32) 13 := by unfold vp_in; decide
  have wF1 : ∀ f, wfG f = false → wf47 f = false := fun f q => (Bool.or_eq_false_iff.mp q).1
  have wF2 : ∀ j, wjG j = false → wjF j = false := fun j q => by
    unfold wjG at q
    simp only [Bool.or_eq_false_iff] at q
    simp [wjF, q]
  refine ⟨i8, i8, i13, i13, fun c => ?_, fun c => ?_⟩
  · have hne : ¬ (tF T).length = 50 := fun q => c (by rw [f47, q]; rfl)
    refine q_397 M2 F2 P2 ⟨show (tF T).length ≤ 49 by have := h50.1; omega, h50.2⟩ (fun S3 M3 g3 F3 => ?_)
    have hTe : t_go T e d net b = uF (uC (uQ T e) 0) (tF T ++ [(p, d)]) := by
      unfold t_go
      show (if (tF T).length = 50 then _ else _) = _
      rw [if_neg hne, hpk]
    have G3 : rfm S0 S3 o R wfG wjG := G2.tr (g3.mono wF1 wF2)
    exact hp S3 (h.go M3 G3 (by rw [hTe]; exact Q2.fr g3 rfl rfl) (by rw [hTe]; exact F3) (by rw [hTe]; exact C2.fr g3 rfl rfl) (by rw [hTe]; rfl) (by rw [hTe]; rfl) (by rw [hTe]; rfl) (by rw [hTe]; rfl) (by rw [hTe]; rfl)) G3
  · have h5 : (tF T).length = 50 := (nI_eq (b := 50) (by have := h50.1; omega) (by decide)).mp (by rw [← f47]; exact c)
    refine q_drop (i := 0) M2 F2 h50 (show 0 < (tF T).length by omega) (fun S3 M3 g3 F3 => ⟨by unfold vp_in; decide, by unfold vp_in; decide, ?_⟩)
    rw [show (10 : Int32).toNatClampNeg = 10 from by decide]
    have C3 : RvC S3 R (uC (uQ T e) 0) := C2.fr g3 rfl rfl
    have Q3 : RvQ S3 R (uC (uQ T e) 0) := Q2.fr g3 rfl rfl
    have t10 : tC (uC (uQ T e) 0) 10 = tC T 10 := rfl
    rw [C3 10 (by decide), nI_1]
    have C4 := RvC.inc M3 C3 10
    have g4 : rfm S3 (sai S3 (R 17) 10 (nI (tC (uC (uQ T e) 0) 10 + 1))) o R (fun _ => false) (fun j => j == 17) := rfm.wai M3 (by decide) rfl
    have F4 : RvF (sai S3 (R 17) 10 (nI (tC (uC (uQ T e) 0) 10 + 1))) o R (uF (uC (uQ T e) 0) ((tF T).eraseIdx 0)) := F3.fr g4 rfl rfl ⟨rfl, rfl, rfl⟩
    have P3 : Pb S3 o R p := ⟨(g3.1 50 rfl).trans P2.1, fun j hj => by rw [(g3.2 18 (by decide) rfl).1]; exact P2.2.1 j hj, P2.2.2⟩
    have P4 : Pb (sai S3 (R 17) 10 (nI (tC (uC (uQ T e) 0) 10 + 1))) o R p := ⟨P3.1, fun j hj => by rw [(g4.2 18 (by decide) rfl).1]; exact P3.2.1 j hj, P3.2.2⟩
    have hel : ((tF T).eraseIdx 0).length = 49 := by rw [List.length_eraseIdx, if_pos (by omega)]; omega
    refine q_397 (T := uF (uC (uQ T e) 0) ((tF T).eraseIdx 0)) M3.wai F4 P4 ⟨by show ((tF T).eraseIdx 0).length ≤ 49; rw [hel]; exact Nat.le_refl _, fun f hf => h50.2 f (List.mem_of_mem_eraseIdx hf)⟩ (fun S5 M5 g5 F5 => ?_)
    have hTe : t_go T e d net b = uC (uF (uC (uQ T e) 0) ((tF T).eraseIdx 0 ++ [(p, d)])) 10 := by
      unfold t_go
      show (if (tF T).length = 50 then _ else _) = _
      rw [if_pos h5, hpk]
    have w17 : ∀ j, wjG j = false → (j == 17) = false := fun j q => (Bool.or_eq_false_iff.mp (Bool.or_eq_false_iff.mp q).1).2
    have G5 : rfm S0 S5 o R wfG wjG := ((G2.tr (g3.mono wF1 wF2)).tr (g4.mono (fun _ _ => rfl) w17)).tr (g5.mono wF1 wF2)
    have Q5 : RvQ S5 R (t_go T e d net b) := by rw [hTe]; exact (Q3.fr (T' := uC (uQ T e) 0) g4 rfl rfl).fr g5 rfl rfl
    have C5 : RvC S5 R (t_go T e d net b) := by rw [hTe]; exact C4.fr g5 rfl rfl
    exact hp S5 (h.go M5 G5 Q5 (by rw [hTe]; exact F5) C5 (by rw [hTe]; rfl) (by rw [hTe]; rfl) (by rw [hTe]; rfl) (by rw [hTe]; rfl) (by rw [hTe]; rfl)) G5
