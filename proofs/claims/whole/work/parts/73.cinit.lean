/-! ===== a new object of the class ===== -/
theorem kd_fi (S : HS) (f a : Nat) (v : Int32) : kd (sfi S f a v) = kd S := id rfl
theorem kd_fr (S : HS) (f a : Nat) (v : Option Nat) : kd (sfr S f a v) = kd S := id rfl
theorem kd_ar (S : HS) (a i : Nat) (v : Option Nat) : kd (sar S a i v) = kd S := id rfl
theorem kd_nw (S : HS) (a k n b : Nat) : kd (snw S a k n) b = if b = a then k else kd S b := id rfl
theorem ln_fi (S : HS) (f a : Nat) (v : Int32) : ln (sfi S f a v) = ln S := id rfl
theorem ln_fr (S : HS) (f a : Nat) (v : Option Nat) : ln (sfr S f a v) = ln S := id rfl
theorem ln_ar (S : HS) (a i : Nat) (v : Option Nat) : ln (sar S a i v) = ln S := id rfl
theorem ln_nw (S : HS) (a k n b : Nat) : ln (snw S a k n) b = if b = a then n else ln S b := id rfl
theorem fi_fr (S : HS) (f a : Nat) (v : Option Nat) : fi (sfr S f a v) = fi S := id rfl
theorem fi_ar (S : HS) (a i : Nat) (v : Option Nat) : fi (sar S a i v) = fi S := id rfl
theorem fi_nw (S : HS) (a k n f b : Nat) : fi (snw S a k n) f b = if b = a then 0 else fi S f b := id rfl
theorem fi_fi (S : HS) (f a : Nat) (v : Int32) (h b : Nat) : fi (sfi S f a v) h b = if h = f ∧ b = a then v else fi S h b := by
  by_cases q : h = f ∧ b = a
  · rw [if_pos q, q.1, q.2, fi_self]
  · rw [if_neg q, fi_ne]
    by_cases z : h = f
    · exact Or.inr (fun u => q ⟨z, u⟩)
    · exact Or.inl z
theorem fr_fi (S : HS) (f a : Nat) (v : Int32) : fr (sfi S f a v) = fr S := id rfl
theorem fr_ar (S : HS) (a i : Nat) (v : Option Nat) : fr (sar S a i v) = fr S := id rfl
theorem fr_nw (S : HS) (a k n f b : Nat) : fr (snw S a k n) f b = if b = a then none else fr S f b := id rfl
theorem fr_fr (S : HS) (f a : Nat) (v : Option Nat) (h b : Nat) : fr (sfr S f a v) h b = if h = f ∧ b = a then v else fr S h b := by
  by_cases q : h = f ∧ b = a
  · rw [if_pos q, q.1, q.2, fr_self]
  · rw [if_neg q, fr_ne]
    by_cases z : h = f
    · exact Or.inr (fun u => q ⟨z, u⟩)
    · exact Or.inl z
theorem ai_fi (S : HS) (f a : Nat) (v : Int32) : ai (sfi S f a v) = ai S := id rfl
theorem ai_fr (S : HS) (f a : Nat) (v : Option Nat) : ai (sfr S f a v) = ai S := id rfl
theorem ai_ar (S : HS) (a i : Nat) (v : Option Nat) : ai (sar S a i v) = ai S := id rfl
theorem ai_nw (S : HS) (a k n b : Nat) : ai (snw S a k n) b = if b = a then (fun _ => 0) else ai S b := id rfl
theorem es_fi (S : HS) (f a : Nat) (v : Int32) : es (sfi S f a v) = es S := id rfl
theorem es_fr (S : HS) (f a : Nat) (v : Option Nat) : es (sfr S f a v) = es S := id rfl
theorem es_ar (S : HS) (a i : Nat) (v : Option Nat) : es (sar S a i v) = es S := id rfl
theorem es_nw (S : HS) (a k n : Nat) : es (snw S a k n) = es S := id rfl
def iL (j i : Nat) : Prop := i < j ∨ i = 8 ∨ i = 9
def RepP (S : HS) (g : Nat) (G : Nat → Nat) (j : Nat) : Prop := (kd S (es S) = 224 ∧ ln S (es S) = 0) ∧ CF S g G 4 ∧ (kd S (G 0) = 128 ∧ ln S (G 0) = 8) ∧ (∀ e, e < j → ar S (G 0) e = some (G (10 + e)) ∧ kd S (G (10 + e)) = 2 ∧ fi S 3 (G (10 + e)) = nI e ∧ fr S 4 (G (10 + e)) = some (G (20 + e)) ∧ fr S 5 (G (10 + e)) = some (G (30 + e)) ∧ kd S (G (30 + e)) = 35 ∧ ln S (G (30 + e)) = 8 ∧ fi S 6 (G (10 + e)) = 0 ∧ ∀ d, ai S (G (30 + e)) d = 0) ∧ (kd S (G 3) = 34 ∧ ln S (G 3) = 13 ∧ ∀ k, ai S (G 3) k = 0) ∧ RowAt S (G 1) (G 2) 120 [] ∧ (∀ i, iL j i → Lst S (G (20 + i)) (es S) []) ∧ (∀ i i', iL j i → iL j i' → G (20 + i) = G (20 + i') → i = i') ∧ (∀ i i', i < j → i' < j → G (30 + i) = G (30 + i') → i = i')
theorem RepP.end {S : HS} {g : Nat} {G : Nat → Nat} (h : RepP S g G 8) : RC S g G T0 := by
  obtain ⟨h0, h1, h2, h3, h4, h5, h6, h7, h8⟩ := h
  have ne12 : G 1 ≠ G 2 := h5.ne
  have il : ∀ i, i < 10 → iL 8 i := fun i hi => by unfold iL; omega
  refine ⟨fun x => if x = G 1 then 1 else if x = G 2 then G 1 + 1 else 0, fun _ => [], h1, ⟨h2, fun e he => ?_⟩, fun e d he hd => ⟨(h3 e he).2.2.2.2.2.1, (h3 e he).2.2.2.2.2.2.2.2 d⟩, fun e he => ⟨(h3 e he).2.1, (h3 e he).2.2.2.2.2.2.2.1⟩, ⟨h4.1, h4.2.1, fun k _ => h4.2.2 k⟩, ⟨if_pos rfl, ?_, h5⟩, fun i hi => ⟨List.nodup_nil, es S, h6 i (il i hi), fun q => ?_⟩, fun e he => Al.nil, Al.nil, Al.nil, fun i j hi hj e => h7 i j (il i hi) (il j hj) e, h8⟩
  · obtain ⟨a1, a2, a3, a4, a5, a6, a7, -⟩ := h3 e he
    exact ⟨a1, a2, a3, a4, a5, a6, a7⟩
  · dsimp only
    rw [if_neg (fun q => ne12 q.symm), if_pos rfl]
  · rw [h0.1] at q; cases q
theorem c_x0 {post : Unit → HS → Prop} {S : HS} {o : Nat} {x : Int32} (ho : kd S o = 0) (hp : ∀ o1 o8 S', kd S o1 = 0 → kd S o8 = 0 → frn S S' → kd S' o = 2 → fi S' 3 o = x → fi S' 6 o = 0 → fr S' 4 o = some o1 → fr S' 5 o = some o8 → kd S' o8 = 35 → ln S' o8 = 8 → (∀ d, ai S' o8 d = 0) → kd S' o1 = 1 → fr S' 1 o1 = some (es S) → fi S' 2 o1 = 0 → post () S') : wp_X0_init post (snw S o 2 0) o x := by
  intro o1 ho1
  have n1 : o1 ≠ o := fun q => by rw [q, kd_nw, if_pos rfl] at ho1; cases ho1
  have ho1' : kd S o1 = 0 := by rw [kd_nw, if_neg n1] at ho1; exact ho1
  have n1' : o ≠ o1 := fun q => n1 q.symm
  refine sp_linit (by rw [kd_nw, if_pos rfl]) ⟨by simp [kd_fr, kd_fi, kd_nw, n1'], fun o8 ho8 => ?_⟩
  have ho8c := ho8
  simp only [kd_fr, kd_fi, kd_nw] at ho8
  have n81 : o8 ≠ o1 := fun q => by rw [if_pos q] at ho8; cases ho8
  rw [if_neg n81] at ho8
  have n8 : o8 ≠ o := fun q => by rw [if_pos q] at ho8; cases ho8
  rw [if_neg n8] at ho8
  have n81' : o1 ≠ o8 := fun q => n81 q.symm
  have n8' : o ≠ o8 := fun q => n8 q.symm
  have a1 : frn S (snw (snw S o 2 0) o1 1 0) := (frm.wnw ho).tsnw ho1
  have a2 : frn S (sfr (sfr (sfi (snw (snw S o 2 0) o1 1 0) 0 o1 0) 1 o1 (some (es (snw (snw S o 2 0) o1 1 0)))) 4 o (some o1)) := ((a1.tsfi (Or.inl ho1')).tsfr (Or.inl ho1')).tsfr (Or.inl ho)
  have a3 : frn S (snw (sfr (sfr (sfi (snw (snw S o 2 0) o1 1 0) 0 o1 0) 1 o1 (some (es (snw (snw S o 2 0) o1 1 0)))) 4 o (some o1)) o8 35 8) := a2.tsnw ho8c
  refine hp o1 o8 _ ho1' ho8 ((a3.tsfr (Or.inl ho)).tsfi (Or.inl ho)) ?_ ?_ ?_ ?_ ?_ ?_ ?_ (fun d => ?_) ?_ ?_ ?_
  · simp [kd_fr, kd_fi, kd_nw, n1', n8']
  · simp [fi_fi]
  · simp [fi_fi, fi_fr, fi_nw, n1', n8']
  · simp [fr_fi, fr_fr, fr_nw, n8']
  · simp [fr_fi, fr_fr]
  · simp [kd_fr, kd_fi, kd_nw]
  · simp [ln_fr, ln_fi, ln_nw]
  · simp [ai_fi, ai_fr, ai_nw]
  · simp [kd_fr, kd_fi, kd_nw, n81']
  · simp [fr_fi, fr_fr, fr_nw, n81', n1, es_nw]
  · simp [fi_fi, fi_fr, fi_nw, n81', n1]
theorem c_i63s {S S1 S' : HS} {g j o o1 o8 : Nat} {G G' : Nat → Nat} (hj : j < 8) (h : RepP S g G j) (ho : kd S o = 0) (ho1' : kd S o1 = 0) (ho8 : kd S o8 = 0) (f1 : frn S S1) (z_kdo : kd S1 o = 2) (z_3 : fi S1 3 o = nI j) (z_6 : fi S1 6 o = 0) (z_4 : fr S1 4 o = some o1) (z_5 : fr S1 5 o = some o8) (z_k8 : kd S1 o8 = 35) (z_l8 : ln S1 o8 = 8) (z_a8 : ∀ d, ai S1 o8 d = 0) (z_k1 : kd S1 o1 = 1) (z_r1 : fr S1 1 o1 = some (es S)) (z_i1 : fi S1 2 o1 = 0) (hS' : S' = sar S1 (G 0) j (some o)) (gO : ∀ x, x ≠ 10 + j → x ≠ 20 + j → x ≠ 30 + j → G' x = G x) (gE : G' (10 + j) = o) (gL : G' (20 + j) = o1) (gW : G' (30 + j) = o8) : RepP S' g G' (j + 1) := by
  obtain ⟨⟨h0, h0'⟩, h1, ⟨h2, h2'⟩, h3, h4, h5, h6, h7, h8⟩ := h
  have f : frm S S' no2 no2 no1 (fun x => x = G 0) := by
    rw [hS']
    exact (f1.mono (fun _ _ z => z) (fun _ _ z => z) (fun _ z => z) (fun _ z => z.elim)).tr (frm.war (Or.inr rfl))
  have g0 := gO 0 (by omega) (by omega) (by omega)
  have g1 := gO 1 (by omega) (by omega) (by omega)
  have g2 := gO 2 (by omega) (by omega) (by omega)
  have g3 := gO 3 (by omega) (by omega) (by omega)
  have g28 := gO 28 (by omega) (by omega) (by omega)
  have g29 := gO 29 (by omega) (by omega) (by omega)
  have x_es : es S' = es S := f.1
  have x_e := f.2 (es S) (by rw [h0]; decide)
  have x_0 := f.2 (G 0) (by rw [h2]; decide)
  have x_3 := f.2 (G 3) (by rw [h4.1]; decide)
  have y_ar : ∀ e, ar S' (G 0) e = if e = j then some o else ar S (G 0) e := fun e => by
    rw [hS', ar_self, (f1.2 (G 0) (by rw [h2]; decide)).2.2.2.2.2.2.2 id]
  have y_kdo : kd S' o = 2 := by rw [hS']; exact z_kdo
  have y_3 : fi S' 3 o = nI j := by rw [hS']; exact z_3
  have y_6 : fi S' 6 o = 0 := by rw [hS']; exact z_6
  have y_4 : fr S' 4 o = some o1 := by rw [hS']; exact z_4
  have y_5 : fr S' 5 o = some o8 := by rw [hS']; exact z_5
  have y_k8 : kd S' o8 = 35 := by rw [hS']; exact z_k8
  have y_l8 : ln S' o8 = 8 := by rw [hS']; exact z_l8
  have y_a8 : ∀ d, ai S' o8 d = 0 := fun d => by rw [hS']; exact z_a8 d
  have y_k1 : kd S' o1 = 1 := by rw [hS']; exact z_k1
  have y_r1 : fr S' 1 o1 = some (es S) := by rw [hS']; exact z_r1
  have y_i1 : fi S' 2 o1 = 0 := by rw [hS']; exact z_i1
  clear hS' z_kdo z_3 z_6 z_4 z_5 z_k8 z_l8 z_a8 z_k1 z_r1 z_i1 f1
  have eL : ∀ i, iL j i → G' (20 + i) = G (20 + i) := fun i hi => by
    unfold iL at hi
    exact gO (20 + i) (by omega) (by omega) (by omega)
  have eI : ∀ i, iL (j + 1) i → ¬ i = j → iL j i := fun i hi z => by unfold iL at hi ⊢; omega
  have kL : ∀ i, iL j i → kd S (G (20 + i)) = 1 := fun i hi => (h6 i hi).1
  refine ⟨⟨by rw [x_es, x_e.1]; exact h0, by rw [x_es, x_e.2.1]; exact h0'⟩, ?_, ⟨by rw [g0, x_0.1]; exact h2, by rw [g0, x_0.2.1]; exact h2'⟩, fun e he => ?_, ⟨by rw [g3, x_3.1]; exact h4.1, by rw [g3, x_3.2.1]; exact h4.2.1, fun k => by rw [g3, x_3.2.2.2.2.2.1 id]; exact h4.2.2 k⟩, ?_, fun i hi => ?_, fun i i' hi hi' e => ?_, fun i i' hi hi' e => ?_⟩
  · have := h1.fr f (fun _ => id) (fun _ _ => id)
    obtain ⟨c1, c2, c3, c4, c5, c6, c7⟩ := this
    exact ⟨c1, by rw [g0]; exact c2, by rw [g28]; exact c3, by rw [g29]; exact c4, by rw [g1]; exact c5, by rw [g3]; exact c6, c7⟩
  · rw [g0, y_ar]
    by_cases z : e = j
    · subst z
      rw [gE, gL, gW, if_pos rfl]
      exact ⟨rfl, y_kdo, y_3, y_4, y_5, y_k8, y_l8, y_6, y_a8⟩
    · obtain ⟨a1, a2, a3, a4, a5, a6, a7, a8, a9⟩ := h3 e (by omega)
      have u1 := gO (10 + e) (by omega) (by omega) (by omega)
      have u2 := gO (20 + e) (by omega) (by omega) (by omega)
      have u3 := gO (30 + e) (by omega) (by omega) (by omega)
      have v1 := f.2 (G (10 + e)) (by rw [a2]; decide)
      have v3 := f.2 (G (30 + e)) (by rw [a6]; decide)
      rw [u1, u2, u3, if_neg z]
      exact ⟨a1, v1.1.trans a2, (v1.2.2.1 3 id).trans a3, (v1.2.2.2.2.1 4 id).trans a4, (v1.2.2.2.2.1 5 id).trans a5, v3.1.trans a6, v3.2.1.trans a7, (v1.2.2.1 6 id).trans a8, fun d => by rw [v3.2.2.2.2.2.1 id]; exact a9 d⟩
  · rw [g1, g2]; exact h5.fr f id id id
  · rw [x_es]
    by_cases z : i = j
    · subst z
      rw [gL]
      exact ⟨y_k1, y_r1, y_i1, Nat.zero_le _, fun a ha => (List.not_mem_nil ha).elim, Or.inr ⟨x_e.1.trans h0, x_es.symm, x_e.2.1.trans h0', rfl⟩⟩
    · have hi' := eI i hi z
      rw [eL i hi']
      exact (h6 i hi').fr' f id id (fun q => by rw [h0] at q; cases q)
  · by_cases z : i = j
    · by_cases z' : i' = j
      · rw [z, z']
      · exfalso
        have u := kL i' (eI i' hi' z')
        rw [z, gL, eL i' (eI i' hi' z')] at e
        rw [← e, ho1'] at u; cases u
    · by_cases z' : i' = j
      · exfalso
        have u := kL i (eI i hi z)
        rw [z', gL, eL i (eI i hi z)] at e
        rw [e, ho1'] at u; cases u
      · rw [eL i (eI i hi z), eL i' (eI i' hi' z')] at e
        exact h7 i i' (eI i hi z) (eI i' hi' z') e
  · have kW : ∀ i, i < j → kd S (G (30 + i)) = 35 := fun i hi => (h3 i hi).2.2.2.2.2.1
    have eW : ∀ i, i < j → G' (30 + i) = G (30 + i) := fun i hi => gO (30 + i) (by omega) (by omega) (by omega)
    by_cases z : i = j
    · by_cases z' : i' = j
      · rw [z, z']
      · exfalso
        have u := kW i' (by omega)
        rw [z, gW, eW i' (by omega)] at e
        rw [← e, ho8] at u; cases u
    · by_cases z' : i' = j
      · exfalso
        have u := kW i (by omega)
        rw [z', gW, eW i (by omega)] at e
        rw [e, ho8] at u; cases u
      · rw [eW i (by omega), eW i' (by omega)] at e
        exact h8 i i' (by omega) (by omega) e
theorem c_i63 {post : Unit → HS → Prop} {g : Nat} (hp : ∀ S G, RC S g G T0 → post () S) : ∀ (n j : Nat) (S : HS) (G : Nat → Nat), j + n = 8 → RepP S g G j → wp_X6_init_63 (n + 1) post S g (nI j) := by
  intro n
  induction n with
  | zero =>
    intro j S G hj h
    have : j = 8 := by omega
    subst this
    exact ⟨fun _ => hp S G h.end, fun c => absurd (by decide) c⟩
  | succ n ih =>
    intro j S G hj h
    have h1 := h.2.1
    obtain ⟨h2, h2'⟩ := h.2.2.1
    refine ⟨fun c => absurd ((nI_leI (a := 8) (by omega) (by omega)).mp c) (by omega), fun _ => ⟨h1.1, G 0, h1.2.1, fun o ho => ?_⟩⟩
    refine c_x0 ho (fun o1 o8 S1 ho1 ho8 f1 q1 q2 q3 q4 q5 q6 q7 q8 q9 q10 q11 => ?_)
    obtain ⟨k1, k2, -⟩ := f1.2 (G 0) (by rw [h2]; decide)
    refine ⟨by rw [k1, h2], by rw [k2, h2']; exact vp_in_nI (by omega) (by decide), ?_⟩
    rw [nI_clamp (by omega), nI_1]
    refine ih (j + 1) _ (va_up (va_up (va_up G (10 + j) o) (20 + j) o1) (30 + j) o8) (by omega) (c_i63s (by omega) h ho ho1 ho8 f1 q1 q2 q3 q4 q5 q6 q7 q8 q9 q10 q11 rfl (fun x z1 z2 z3 => ?_) ?_ ?_ ?_)
    · rw [va_up_ne _ _ z3, va_up_ne _ _ z2, va_up_ne _ _ z1]
    · rw [va_up_ne _ _ (by omega), va_up_ne _ _ (by omega), va_up_self]
    · rw [va_up_ne _ _ (by omega), va_up_self]
    · rw [va_up_self]
