/-! ===== remove and learn: what is known ===== -/
theorem uK_at (T : TS) (e : Nat) (l : List Kn) (d : Nat) : tK (uK T e l) d = if d = e then l else tK T d := rfl
theorem q_remove {post : Unit → HS → Prop} {S : HS} {o : Nat} {R : Nat → Nat} {T : TS} (hM : RM S o R) (hK : RvK S R T) (h24 : ∀ e, e < 8 → (tK T e).length ≤ 24) {e k : Nat} (he : e < 8) (hk : k < (tK T e).length) (hp : ∀ S', RM S' o R → rfm S S' o R (fun _ => false) wjK → RvK S' R (uK T e ((tK T e).eraseIdx k)) → post () S') : wq_X7_remove post R S o (nI e) (nI (24 * e + k)) := by
  have hR := hM.inj
  have hl := h24 e he
  obtain ⟨g1, g2⟩ := hK e he
  refine ⟨vp_in_nI he (by decide), vp_in_nI he (by decide), (tK T e).length - 1 - k + 1, ?_⟩
  rw [nI_clamp (by omega), g1]
  have e1 : nI (tK T e).length - 1 = nI ((tK T e).length - 1) := pk_sub (a := (tK T e).length) (b := 1) (by omega)
  rw [e1]
  refine q_rem_loop (c := (tK T e).length - 1) he (by omega) _ k _ (by omega) hM.wai (by rw [ai_r hR S (by decide) (by decide)]; simp) (fun S' M' g f8 fx => hp S' M' ((rfm.wai hM (by decide) rfl).tr g) ?_)
  have a9 : ∀ v, ai (sai S (R 8) e v) (R 9) = ai S (R 9) := fun v => ai_ne S (R 8) e v (hM.ne (by decide) (by decide) (by decide))
  have a11 : ∀ v, ai (sai S (R 8) e v) (R 11) = ai S (R 11) := fun v => ai_ne S (R 8) e v (hM.ne (by decide) (by decide) (by decide))
  intro d hd
  rw [uK_at, f8, ai_r hR S (by decide) (by decide)]
  by_cases z : d = e
  · subst z
    rw [if_pos rfl]
    refine ⟨?_, fun j κ hj => ?_⟩
    · simp [List.length_eraseIdx, hk]
    · obtain ⟨q9, q10, q11, q12⟩ := fx (24 * d + j)
      have hjl := (List.getElem?_eq_some_iff.mp hj).1
      rw [List.length_eraseIdx, if_pos hk] at hjl
      rw [List.getElem?_eraseIdx] at hj
      rw [a9] at q9
      rw [al_i] at q10 q12
      rw [a11] at q11
      by_cases c : j < k
      · rw [if_pos c] at hj
        rw [if_neg (by omega)] at q9 q10 q11 q12
        obtain ⟨b1, b2, b3, b4⟩ := g2 j κ hj
        exact ⟨by rw [q9]; exact b1, by rw [q10]; exact b2, by rw [q11]; exact b3, by rw [q12]; exact b4⟩
      · rw [if_neg c] at hj
        rw [if_pos (by omega)] at q9 q10 q11 q12
        obtain ⟨b1, b2, b3, b4⟩ := g2 (j + 1) κ hj
        exact ⟨by rw [q9]; exact b1, by rw [q10]; exact b2, by rw [q11]; exact b3, by rw [q12]; exact b4⟩
  · rw [if_neg z, if_neg (by omega)]
    obtain ⟨m1, m2⟩ := hK d hd
    refine ⟨m1, fun j κ hj => ?_⟩
    have hjl := (List.getElem?_eq_some_iff.mp hj).1
    have hl2 := h24 d hd
    obtain ⟨q9, q10, q11, q12⟩ := fx (24 * d + j)
    rw [a9] at q9
    rw [al_i] at q10 q12
    rw [a11] at q11
    rw [if_neg (by omega)] at q9 q10 q11 q12
    obtain ⟨b1, b2, b3, b4⟩ := m2 j κ hj
    exact ⟨by rw [q9]; exact b1, by rw [q10]; exact b2, by rw [q11]; exact b3, by rw [q12]; exact b4⟩
def wjC : Nat → Bool := fun j => wjK j || j == 17
theorem rfm.mono {S S' : HS} {o : Nat} {R : Nat → Nat} {wf wj wf' wj' : Nat → Bool} (h : rfm S S' o R wf wj) (h1 : ∀ f, wf' f = false → wf f = false) (h2 : ∀ j, wj' j = false → wj j = false) : rfm S S' o R wf' wj' := ⟨fun f q => h.1 f (h1 f q), fun j hj q => h.2 j hj (h2 j q)⟩
/-- the end of learn: the new one comes behind -/
theorem q_lend {post : Unit → HS → Prop} {S : HS} {o : Nat} {R : Nat → Nat} {T : TS} (hM : RM S o R) (hK : RvK S R T) (hC : RvC S R T) (h24 : ∀ e, e < 8 → (tK T e).length ≤ 24) {e net mac : Nat} {pl : Nat ⊕ Nat} (he : e < 8) (hk : (tK T e).length < 24) (hp : ∀ S', RM S' o R → rfm S S' o R (fun _ => false) wjC → RvK S' R (uK T e (tK T e ++ [(net, mac, pl, 0)])) → RvC S' R (uC T 11) → post () S') : wq_X7_learn_133a post R S o (nI e) (nI net) (lN mac) (plc pl) := by
  have hR := hM.inj
  obtain ⟨g1, g2⟩ := hK e he
  have ine : vp_in (nI e) 8 := vp_in_nI he (by decide)
  have ix : (24 : Int32) * nI e + ai S (R 8) (nI e).toNatClampNeg = nI (24 * e + (tK T e).length) := by rw [nI_clamp (by omega), g1, nI_24, nI_add]
  have inx : vp_in (nI (24 * e + (tK T e).length)) 192 := vp_in_nI (by omega) (by decide)
  unfold wq_X7_learn_133a
  rw [ix]
  refine ⟨ine, inx, inx, inx, inx, ine, ine, by unfold vp_in; decide, by unfold vp_in; decide, ?_⟩
  rw [nI_clamp (n := e) (by omega), nI_clamp (n := 24 * e + (tK T e).length) (by omega), show (11 : Int32).toNatClampNeg = 11 from by decide]
  generalize hx : 24 * e + (tK T e).length = x
  generalize hS1 : sai S (R 9) x (nI net) = S1
  generalize hS2 : sal S1 (R 10) x (lN mac) = S2
  generalize hS3 : sai S2 (R 11) x (plc pl) = S3
  generalize hS4 : sal S3 (R 12) x 0 = S4
  have M1 : RM S1 o R := by rw [← hS1]; exact hM.wai
  have M2 : RM S2 o R := by rw [← hS2]; exact M1.wal
  have M3 : RM S3 o R := by rw [← hS3]; exact M2.wai
  have M4 : RM S4 o R := by rw [← hS4]; exact M3.wal
  have a8 : ai S4 (R 8) e = nI (tK T e).length := by
    rw [← hS4, ai_l, ← hS3, ai_r hR S2 (by decide) (by decide), if_neg (by omega), ← hS2, ai_l, ← hS1, ai_r hR S (by decide) (by decide), if_neg (by omega), g1]
  rw [a8, nI_1]
  generalize hS5 : sai S4 (R 8) e (nI ((tK T e).length + 1)) = S5
  have M5 : RM S5 o R := by rw [← hS5]; exact M4.wai
  have a17 : ai S5 (R 17) 11 = nI (tC T 11) := by
    rw [← hS5, ai_r hR S4 (by decide) (by decide), if_neg (by omega), ← hS4, ai_l, ← hS3, ai_r hR S2 (by decide) (by decide), if_neg (by omega), ← hS2, ai_l, ← hS1, ai_r hR S (by decide) (by decide), if_neg (by omega)]
    exact hC 11 (by decide)
  rw [a17, nI_1]
  have g : rfm S (sai S5 (R 17) 11 (nI (tC T 11 + 1))) o R (fun _ => false) wjC := by
    refine rfm.tr ?_ (rfm.wai M5 (by decide) rfl)
    rw [← hS5]; refine rfm.tr ?_ (rfm.wai M4 (by decide) rfl)
    rw [← hS4]; refine rfm.tr ?_ (rfm.wal M3 (by decide) rfl)
    rw [← hS3]; refine rfm.tr ?_ (rfm.wai M2 (by decide) rfl)
    rw [← hS2]; refine rfm.tr ?_ (rfm.wal M1 (by decide) rfl)
    rw [← hS1]; exact rfm.wai hM (by decide) rfl
  have e8 : ∀ y, ai (sai S5 (R 17) 11 (nI (tC T 11 + 1))) (R 8) y = if y = e then nI ((tK T e).length + 1) else ai S (R 8) y := fun y => by
    rw [ai_r hR S5 (by decide) (by decide), if_neg (by omega), ← hS5, ai_r hR S4 (by decide) (by decide), ← hS4, ai_l, ← hS3, ai_r hR S2 (by decide) (by decide), ← hS2, ai_l, ← hS1, ai_r hR S (by decide) (by decide)]
    simp
  have e9 : ∀ y, ai (sai S5 (R 17) 11 (nI (tC T 11 + 1))) (R 9) y = if y = x then nI net else ai S (R 9) y := fun y => by
    rw [ai_r hR S5 (by decide) (by decide), if_neg (by omega), ← hS5, ai_r hR S4 (by decide) (by decide), ← hS4, ai_l, ← hS3, ai_r hR S2 (by decide) (by decide), ← hS2, ai_l, ← hS1, ai_r hR S (by decide) (by decide)]
    simp
  have e10 : ∀ y, al (sai S5 (R 17) 11 (nI (tC T 11 + 1))) (R 10) y = if y = x then lN mac else al S (R 10) y := fun y => by
    rw [al_i, ← hS5, al_i, ← hS4, al_r hR S3 (by decide) (by decide), ← hS3, al_i, ← hS2, al_r hR S1 (by decide) (by decide), ← hS1, al_i]
    simp
  have e11 : ∀ y, ai (sai S5 (R 17) 11 (nI (tC T 11 + 1))) (R 11) y = if y = x then plc pl else ai S (R 11) y := fun y => by
    rw [ai_r hR S5 (by decide) (by decide), if_neg (by omega), ← hS5, ai_r hR S4 (by decide) (by decide), ← hS4, ai_l, ← hS3, ai_r hR S2 (by decide) (by decide), ← hS2, ai_l, ← hS1, ai_r hR S (by decide) (by decide)]
    simp
  have e12 : ∀ y, al (sai S5 (R 17) 11 (nI (tC T 11 + 1))) (R 12) y = if y = x then 0 else al S (R 12) y := fun y => by
    rw [al_i, ← hS5, al_i, ← hS4, al_r hR S3 (by decide) (by decide), ← hS3, al_i, ← hS2, al_r hR S1 (by decide) (by decide), ← hS1, al_i]
    simp
  have e17 : ∀ y, ai (sai S5 (R 17) 11 (nI (tC T 11 + 1))) (R 17) y = if y = 11 then nI (tC T 11 + 1) else ai S (R 17) y := fun y => by
    rw [ai_r hR S5 (by decide) (by decide), ← hS5, ai_r hR S4 (by decide) (by decide), ← hS4, ai_l, ← hS3, ai_r hR S2 (by decide) (by decide), ← hS2, ai_l, ← hS1, ai_r hR S (by decide) (by decide)]
    simp
  refine hp _ M5.wai g (fun d hd => ?_) (fun k hk => ?_)
  · rw [uK_at, e8]
    obtain ⟨m1, m2⟩ := hK d hd
    have hl2 := h24 d hd
    by_cases z : d = e
    · subst z
      rw [if_pos rfl, if_pos rfl]
      refine ⟨by simp, fun j κ hj => ?_⟩
      rw [e9, e10, e11, e12]
      by_cases c : j = (tK T d).length
      · subst c
        rw [List.getElem?_append_right (Nat.le_refl _), Nat.sub_self] at hj
        cases hj
        rw [if_pos hx, if_pos hx, if_pos hx, if_pos hx]
        exact ⟨rfl, rfl, rfl, rfl⟩
      · have hjl := (List.getElem?_eq_some_iff.mp hj).1
        simp at hjl
        rw [List.getElem?_append_left (by omega)] at hj
        rw [if_neg (by omega), if_neg (by omega), if_neg (by omega), if_neg (by omega)]
        exact m2 j κ hj
    · rw [if_neg z, if_neg z]
      refine ⟨m1, fun j κ hj => ?_⟩
      have hjl := (List.getElem?_eq_some_iff.mp hj).1
      rw [e9, e10, e11, e12, if_neg (by omega), if_neg (by omega), if_neg (by omega), if_neg (by omega)]
      exact m2 j κ hj
  · rw [e17]
    show _ = nI (if k = 11 then tC T 11 + 1 else tC T k)
    by_cases z : k = 11
    · rw [if_pos z, if_pos z]
    · rw [if_neg z, if_neg z]; exact hC k hk
