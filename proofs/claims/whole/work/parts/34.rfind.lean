/-! ===== find, remove ===== -/
theorem fnd_some {l : List Kn} {net mac k : Nat} {κ : Kn} (hk : l[k]? = some κ) (h1 : isK net mac κ = true) (h2 : ∀ j x, j < k → l[j]? = some x → isK net mac x = false) : fnd l net mac = some k := by
  unfold fnd
  obtain ⟨hl, he⟩ := List.getElem?_eq_some_iff.mp hk
  rw [List.findIdx?_eq_some_iff_getElem]
  refine ⟨hl, by rw [he]; exact h1, fun j hj => ?_⟩
  have := h2 j l[j] hj (List.getElem?_eq_getElem (by omega))
  simp [this]
theorem fnd_none {l : List Kn} {net mac : Nat} (h : ∀ (j : Nat) (x : Kn), l[j]? = some x → isK net mac x = false) : fnd l net mac = none := by
  unfold fnd
  rw [List.findIdx?_eq_none_iff]
  intro x hx
  obtain ⟨j, hj⟩ := List.getElem?_of_mem hx
  exact h j x hj
theorem fnd_spec {l : List Kn} {net mac k : Nat} (h : fnd l net mac = some k) : ∃ κ, l[k]? = some κ ∧ κ.1 = net ∧ κ.2.1 = mac := by
  unfold fnd at h
  rw [List.findIdx?_eq_some_iff_getElem] at h
  obtain ⟨hl, h1, -⟩ := h
  refine ⟨l[k], List.getElem?_eq_getElem hl, ?_⟩
  simpa [isK] using h1
theorem nI_24 (k : Nat) : (24 : Int32) * nI k = nI (24 * k) := pk_mul 24 k
theorem q_find_loop {post : Int32 → HS → Prop} {S : HS} {o : Nat} {R : Nat → Nat} {T : TS} {N : Nat} (h : RV S o R T) (hT : OkT T N) {e net mac : Nat} (he : e < 8) (hnet : net < 16777216) (hmac : mac < 281474976710656) (h1 : ∀ k, fnd (tK T e) net mac = some k → k < (tK T e).length → post (nI (24 * e + k)) S) (h0 : fnd (tK T e) net mac = none → post (-1) S) : ∀ (n k : Nat), k + n = (tK T e).length → (∀ j x, j < k → (tK T e)[j]? = some x → isK net mac x = false) → wq_X7_find_6 (n + 1) post R S o (nI e) (nI net) (lN mac) (nI (24 * e + k)) := by
  have hl := (hT.2.2.1 e he).1
  obtain ⟨g1, g2⟩ := h.2.2.2.2.2.1 e he
  intro n
  induction n with
  | zero =>
    intro k hk hb
    refine ⟨vp_in_nI he (by decide), ?_⟩
    rw [nI_clamp (by omega), g1, nI_24, nI_add]
    refine ⟨fun _ => h0 (fnd_none (fun j x hj => hb j x ?_ hj)), fun c => absurd ((nI_leI (by omega) (by omega)).mpr (by omega)) c⟩
    have := (List.getElem?_eq_some_iff.mp hj).1
    omega
  | succ n ih =>
    intro k hk hb
    obtain ⟨κ, hκ⟩ := get_lt (l := tK T e) (i := k) (by omega)
    obtain ⟨f1, f2, -⟩ := g2 k κ hκ
    have hm := (hT.2.2.1 e he).2.1 κ (List.mem_of_getElem? hκ)
    have hin : vp_in (nI (24 * e + k)) 192 := vp_in_nI (by omega) (by decide)
    have go : isK net mac κ = false → wq_X7_find_6 (n + 1) post R S o (nI e) (nI net) (lN mac) (nI (24 * e + k) + 1) := fun q => by
      rw [nI_1]
      refine ih (k + 1) (by omega) (fun j x hj hx => ?_)
      by_cases e1 : j = k
      · subst e1; rw [hκ] at hx; cases hx; exact q
      · exact hb j x (by omega) hx
    refine ⟨vp_in_nI he (by decide), ?_⟩
    rw [nI_clamp (by omega), g1, nI_24, nI_add]
    refine ⟨fun c => absurd ((nI_leI (by omega) (by omega)).mp c) (by omega), fun _ => ⟨hin, ?_⟩⟩
    rw [nI_clamp (by omega), f1]
    refine ⟨fun c => go ?_, fun c => ⟨hin, ?_⟩⟩
    · have : ¬ κ.1 = net := fun q => c (by rw [q])
      simp [isK, this]
    · have e1 : κ.1 = net := (nI_eq (by have := hm.1; omega) (by omega)).mp c
      rw [f2, lg_cmp_eq]
      refine ⟨fun c2 => go ?_, fun c2 => ?_⟩
      · have : ¬ κ.2.1 = mac := fun q => c2 (by rw [q])
        simp [isK, this]
      · have e2 : κ.2.1 = mac := (pk_lEQ (by have := hm.2.1; omega) (by omega)).mp c2
        exact h1 k (fnd_some hκ (by simp [isK, e1, e2]) hb) (by omega)
theorem q_find {post : Int32 → HS → Prop} {S : HS} {o : Nat} {R : Nat → Nat} {T : TS} {N : Nat} (h : RV S o R T) (hT : OkT T N) {e net mac : Nat} (he : e < 8) (hnet : net < 16777216) (hmac : mac < 281474976710656) (h1 : ∀ k, fnd (tK T e) net mac = some k → k < (tK T e).length → post (nI (24 * e + k)) S) (h0 : fnd (tK T e) net mac = none → post (-1) S) : wq_X7_find post R S o (nI e) (nI net) (lN mac) := by
  refine ⟨(tK T e).length + 1, ?_⟩
  rw [nI_24]
  exact q_find_loop h hT he hnet hmac h1 h0 (tK T e).length 0 (by omega) (fun j x hj => absurd hj (Nat.not_lt_zero j))
/-! reading behind writes -/
def RI (R : Nat → Nat) : Prop := ∀ i j, i < 20 → j < 20 → R i = R j → i = j
theorem RM.inj {S : HS} {o : Nat} {R : Nat → Nat} (h : RM S o R) : RI R := fun i j hi hj e => tk_inj i hi j hj (by rw [← (h.2 i hi).2.1, ← (h.2 j hj).2.1, e])
theorem ai_r {R : Nat → Nat} (hR : RI R) (S : HS) {j k : Nat} (hj : j < 20) (hk : k < 20) (i : Nat) (v : Int32) (x : Nat) : ai (sai S (R j) i v) (R k) x = if k = j ∧ x = i then v else ai S (R k) x := by
  by_cases e : k = j
  · subst e
    rw [ai_self]
    simp
  · rw [ai_ne S (R j) i v (fun q => e (hR k j hk hj q))]
    simp [e]
theorem al_r {R : Nat → Nat} (hR : RI R) (S : HS) {j k : Nat} (hj : j < 20) (hk : k < 20) (i : Nat) (v : Int64) (x : Nat) : al (sal S (R j) i v) (R k) x = if k = j ∧ x = i then v else al S (R k) x := by
  by_cases e : k = j
  · subst e
    rw [al_self]
    simp
  · rw [al_ne S (R j) i v (fun q => e (hR k j hk hj q))]
    simp [e]
theorem ai_l (S : HS) (a i : Nat) (v : Int64) : ai (sal S a i v) = ai S := rfl
theorem al_i (S : HS) (a i : Nat) (v : Int32) : al (sai S a i v) = al S := rfl
theorem fi_i (S : HS) (a i : Nat) (v : Int32) : fi (sai S a i v) = fi S := rfl
theorem fi_l (S : HS) (a i : Nat) (v : Int64) : fi (sal S a i v) = fi S := rfl
theorem ai_f (S : HS) (f a : Nat) (v : Int32) : ai (sfi S f a v) = ai S := rfl
theorem al_f (S : HS) (f a : Nat) (v : Int32) : al (sfi S f a v) = al S := rfl
/-- the known of an endpoint, one row further down, from k on -/
def wjK : Nat → Bool := fun j => j == 8 || j == 9 || j == 10 || j == 11 || j == 12
def shft (f g : Nat → Int32) (b k : Nat) : Prop := ∀ x, g x = if x = b + k then f (x + 1) else f x
theorem q_rem_loop {post : Unit → HS → Prop} {o : Nat} {R : Nat → Nat} {e c : Nat} (he : e < 8) (hc : c ≤ 23) : ∀ (n k : Nat) (S : HS), k + n = c → RM S o R → ai S (R 8) e = nI c → (∀ S', RM S' o R → rfm S S' o R (fun _ => false) wjK → ai S' (R 8) = ai S (R 8) → (∀ x, ai S' (R 9) x = ai S (R 9) (if 24 * e + k ≤ x ∧ x < 24 * e + c then x + 1 else x) ∧ al S' (R 10) x = al S (R 10) (if 24 * e + k ≤ x ∧ x < 24 * e + c then x + 1 else x) ∧ ai S' (R 11) x = ai S (R 11) (if 24 * e + k ≤ x ∧ x < 24 * e + c then x + 1 else x) ∧ al S' (R 12) x = al S (R 12) (if 24 * e + k ≤ x ∧ x < 24 * e + c then x + 1 else x)) → post () S') → wq_X7_remove_12 (n + 1) post R S o (nI e) (nI (24 * e + k)) := by
  intro n
  induction n with
  | zero =>
    intro k S hk hM h8 hp
    refine ⟨vp_in_nI he (by decide), ?_⟩
    rw [nI_clamp (by omega), h8, nI_24, nI_add]
    refine ⟨fun _ => hp S hM rfm.rf rfl (fun x => ?_), fun c2 => absurd ((nI_leI (by omega) (by omega)).mpr (by omega)) c2⟩
    rw [if_neg (by omega)]
    exact ⟨rfl, rfl, rfl, rfl⟩
  | succ n ih =>
    intro k S hk hM h8 hp
    have hR := hM.inj
    have hin : vp_in (nI (24 * e + k)) 192 := vp_in_nI (by omega) (by decide)
    have hin1 : vp_in (nI (24 * e + k) + 1) 192 := by rw [nI_1]; exact vp_in_nI (by omega) (by decide)
    refine ⟨vp_in_nI he (by decide), ?_⟩
    rw [nI_clamp (n := e) (by omega), h8, nI_24, nI_add]
    refine ⟨fun c2 => absurd ((nI_leI (by omega) (by omega)).mp c2) (by omega), fun _ => ⟨hin1, hin, hin1, hin, hin1, hin, hin1, hin, ?_⟩⟩
    rw [nI_1, nI_clamp (n := 24 * e + k) (by omega), nI_clamp (n := 24 * e + k + 1) (by omega)]
    generalize hS1 : sai S (R 9) (24 * e + k) (ai S (R 9) (24 * e + k + 1)) = S1
    generalize hS2 : sal S1 (R 10) (24 * e + k) (al S1 (R 10) (24 * e + k + 1)) = S2
    generalize hS3 : sai S2 (R 11) (24 * e + k) (ai S2 (R 11) (24 * e + k + 1)) = S3
    generalize hS4 : sal S3 (R 12) (24 * e + k) (al S3 (R 12) (24 * e + k + 1)) = S4
    have M1 : RM S1 o R := by rw [← hS1]; exact hM.wai
    have M2 : RM S2 o R := by rw [← hS2]; exact M1.wal
    have M3 : RM S3 o R := by rw [← hS3]; exact M2.wai
    have M4 : RM S4 o R := by rw [← hS4]; exact M3.wal
    have g : rfm S S4 o R (fun _ => false) wjK := by
      rw [← hS4]
      refine rfm.tr ?_ (rfm.wal M3 (by decide) rfl)
      rw [← hS3]
      refine rfm.tr ?_ (rfm.wai M2 (by decide) rfl)
      rw [← hS2]
      refine rfm.tr ?_ (rfm.wal M1 (by decide) rfl)
      rw [← hS1]
      exact rfm.wai hM (by decide) rfl
    have e8 : ai S4 (R 8) = ai S (R 8) := by
      funext x
      rw [← hS4, ai_l, ← hS3, ai_r hR S2 (by decide) (by decide), if_neg (by omega), ← hS2, ai_l, ← hS1, ai_r hR S (by decide) (by decide), if_neg (by omega)]
    have e9 : ∀ x, ai S4 (R 9) x = if x = 24 * e + k then ai S (R 9) (24 * e + k + 1) else ai S (R 9) x := fun x => by
      rw [← hS4, ai_l, ← hS3, ai_r hR S2 (by decide) (by decide), if_neg (by omega), ← hS2, ai_l, ← hS1, ai_r hR S (by decide) (by decide)]
      simp
    have e10 : ∀ x, al S4 (R 10) x = if x = 24 * e + k then al S (R 10) (24 * e + k + 1) else al S (R 10) x := fun x => by
      rw [← hS4, al_r hR S3 (by decide) (by decide), if_neg (by omega), ← hS3, al_i, ← hS2, al_r hR S1 (by decide) (by decide), ← hS1, al_i]
      simp
    have e11 : ∀ x, ai S4 (R 11) x = if x = 24 * e + k then ai S (R 11) (24 * e + k + 1) else ai S (R 11) x := fun x => by
      rw [← hS4, ai_l, ← hS3, ai_r hR S2 (by decide) (by decide), ← hS2, ai_l, ← hS1, ai_r hR S (by decide) (by decide), ai_r hR S (by decide) (by decide)]
      simp
    have e12 : ∀ x, al S4 (R 12) x = if x = 24 * e + k then al S (R 12) (24 * e + k + 1) else al S (R 12) x := fun x => by
      rw [← hS4, al_r hR S3 (by decide) (by decide), ← hS3, al_i, ← hS2, al_r hR S1 (by decide) (by decide), al_r hR S1 (by decide) (by decide), ← hS1, al_i]
      simp
    refine ih (k + 1) S4 (by omega) M4 (by rw [e8]; exact h8) (fun S' M' g' f8 fx => hp S' M' (g.tr g') (f8.trans e8) (fun x => ?_))
    obtain ⟨q9, q10, q11, q12⟩ := fx x
    by_cases z : 24 * e + k ≤ x ∧ x < 24 * e + c
    · rw [if_pos z]
      by_cases z2 : x = 24 * e + k
      · have hy : (if 24 * e + (k + 1) ≤ x ∧ x < 24 * e + c then x + 1 else x) = x := if_neg (by omega)
        rw [hy] at q9 q10 q11 q12
        rw [q9, q10, q11, q12, e9, e10, e11, e12, if_pos z2, if_pos z2, if_pos z2, if_pos z2, z2]
        exact ⟨rfl, rfl, rfl, rfl⟩
      · have hy : (if 24 * e + (k + 1) ≤ x ∧ x < 24 * e + c then x + 1 else x) = x + 1 := if_pos (by omega)
        rw [hy] at q9 q10 q11 q12
        rw [q9, q10, q11, q12, e9, e10, e11, e12, if_neg (by omega), if_neg (by omega), if_neg (by omega), if_neg (by omega)]
        exact ⟨rfl, rfl, rfl, rfl⟩
    · have hy : (if 24 * e + (k + 1) ≤ x ∧ x < 24 * e + c then x + 1 else x) = x := if_neg (by omega)
      rw [hy] at q9 q10 q11 q12
      rw [if_neg z, q9, q10, q11, q12, e9, e10, e11, e12, if_neg (by omega), if_neg (by omega), if_neg (by omega), if_neg (by omega)]
      exact ⟨rfl, rfl, rfl, rfl⟩
