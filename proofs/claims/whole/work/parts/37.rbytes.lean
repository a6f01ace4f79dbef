/-! ===== the reference reads bytes ===== -/
theorem or8g {a x : Nat} (ha : a < 2 ^ 24) (hx : x < 256) : (nI a <<< ((8 : Int32) &&& 31)) ||| nI x = nI (a * 256 + x) := by
  rw [pk_shlN (n := a) ((8 : Int32) &&& 31) 8 (by decide) (by omega), nI_or]
  congr 1
  have h2 := Nat.two_pow_add_eq_or_of_lt (i := 8) (b := x) (by omega) a
  rw [Nat.mul_comm] at h2
  omega
theorem fold_s {t : Nat} (h : t < 2 ^ 31) : (nI t &&& 65535) + (nI t >>> ((16 : Int32) &&& 31)) = nI (fold1 t) := by
  rw [nx_mod, pk_shrN h ((16 : Int32) &&& 31) 16 (by decide), nI_add]
  rfl
theorem fold1_id {t : Nat} (h : t ≤ 65535) : fold1 t = t := by unfold fold1; omega
theorem q_sum54 {post : Int32 → HS → Prop} {S : HS} {t : Nat} (ht : t < 2 ^ 22) (hp : post (nI (csum t)) S) : ∃ n9, wp_X7_sum_54 n9 post S (nI t) := by
  have e5 : (65535 : Int32) = nI 65535 := by decide
  have fin : ∀ u, u ≤ 65535 → u = fold1 (fold1 t) → post (nI u ^^^ 65535) S := fun u _ e => by rw [e5, nx_xor, e]; exact hp
  have h1 : fold1 t ≤ 65535 + 63 := by unfold fold1; omega
  have h2 := fold_lt ht
  have le : ∀ u : Nat, u < 2 ^ 31 → (nI u ≤ 65535 ↔ u ≤ 65535) := fun u hu => by rw [e5]; exact nI_leI hu (by decide)
  refine ⟨3, fun c => ?_, fun c => ⟨fun c2 => ?_, fun c2 => ⟨fun c3 => ?_, fun c3 => ?_⟩⟩⟩
  · have := (le t (by omega)).mp c
    exact fin t this (by rw [fold1_id this, fold1_id this])
  · rw [fold_s (by omega)] at c2 ⊢
    have := (le _ (by omega)).mp c2
    exact fin _ this (by rw [fold1_id this])
  · rw [fold_s (by omega), fold_s (by omega)]
    exact fin _ (by omega) rfl
  · rw [fold_s (by omega), fold_s (by omega)] at c3
    exact absurd ((le _ (by omega)).mpr (by omega)) c3
theorem q_sum_loop {post : Int32 → HS → Prop} {S : HS} {a : Nat} {b : List Nat} (hk : kd S a / 32 = 2) (hl : ln S a = 120) (hB : RvB S a 0 b) (hb : By b) (h120 : b.length ≤ 120) {t tot : Nat} (ht : t ≤ b.length) (htot : tot < 2 ^ 22) (hp : post (nI (csum tot)) S) : ∀ (k i acc : Nat), i ≤ t + 1 → t - i ≤ 2 * k → acc + sl ((b.take t).drop i) = tot → wp_X7_sum_5 (k + 1) post S a (nI t) (nI acc) (nI i) := by
  have htk : (b.take t).length = t := by simp; omega
  have rd : ∀ j, j < b.length → ai S a j &&& 255 = nI (gb b j) := fun j hj => by have := hB j hj; rwa [Nat.zero_add] at this
  intro k
  induction k with
  | zero =>
    intro i acc hi hk he
    refine ⟨fun _ => ?_, fun c => absurd ((nI_leI (by omega) (by omega)).mpr (by omega)) c⟩
    rw [List.drop_eq_nil_of_le (by omega)] at he
    simp only [sl, Nat.add_zero] at he
    subst he
    exact q_sum54 htot hp
  | succ k ih =>
    intro i acc hi hk2 he
    refine ⟨fun c => ?_, fun c => ?_⟩
    · have : t ≤ i := (nI_leI (by omega) (by omega)).mp c
      rw [List.drop_eq_nil_of_le (by omega)] at he
      simp only [sl, Nat.add_zero] at he
      subst he
      exact q_sum54 htot hp
    · have hit : i < t := Nat.not_le.mp fun q => c ((nI_leI (by omega) (by omega)).mpr q)
      have e2 : nI i + 2 = nI (i + 2) := nI_add i 2
      refine ⟨hk, by rw [hl]; exact vp_in_nI (by omega) (by decide), fun c2 => ?_, fun c2 => ?_⟩
      · rw [nI_1] at c2
        have h1 : t ≤ i + 1 := (nI_leI (by omega) (by omega)).mp c2
        have e0 : (0 : Int32) = nI 0 := rfl
        rw [nI_clamp (by omega), rd i (by omega), e0, or8i (by have := hb i; omega) (by decide), nI_add, e2]
        refine ih (i + 2) _ (by omega) (by omega) ?_
        rw [drop_c (by omega), gb_take hit, List.drop_eq_nil_of_le (by omega)] at he
        rw [List.drop_eq_nil_of_le (by omega)]
        rw [show sl [gb b i] = gb b i * 256 from rfl] at he
        rw [show sl [] = 0 from rfl, Nat.add_zero, Nat.add_zero]
        exact he
      · rw [nI_1] at c2
        have h1 : i + 1 < t := Nat.not_le.mp fun q => c2 ((nI_leI (by omega) (by omega)).mpr q)
        rw [nI_1]
        refine ⟨by rw [hl]; exact vp_in_nI (by omega) (by decide), ?_⟩
        rw [nI_clamp (by omega), nI_clamp (by omega), rd i (by omega), rd (i + 1) (by omega), or8i (by have := hb i; omega) (hb _), nI_add, e2]
        refine ih (i + 2) _ (by omega) (by omega) ?_
        rw [drop_c (by omega), drop_c (i := i + 1) (by omega), gb_take hit, gb_take h1] at he
        rw [show ∀ (x y : Nat) (l : List Nat), sl (x :: y :: l) = x * 256 + y + sl l from fun _ _ _ => rfl, show i + 1 + 1 = i + 2 from rfl] at he
        omega
theorem q_sum {post : Int32 → HS → Prop} {S : HS} {a : Nat} {b : List Nat} (hk : kd S a / 32 = 2) (hl : ln S a = 120) (hB : RvB S a 0 b) (hb : By b) (h120 : b.length ≤ 120) {f t : Nat} (hf : f ≤ t) (ht : t ≤ b.length) (hp : post (nI (csum (sl ((b.take t).drop f)))) S) : wp_X7_sum post S a (nI f) (nI t) := by
  have h1 : sl ((b.take t).drop f) ≤ 65535 * ((((b.take t).drop f).length + 1) / 2) := sl_le _ (fun x hx => hb.mem (List.mem_of_mem_take (List.mem_of_mem_drop hx)))
  have h2 : ((b.take t).drop f).length ≤ 120 := by simp; omega
  exact ⟨t + 1, q_sum_loop hk hl hB hb h120 ht (by omega) hp t f 0 (by omega) (by omega) (by omega)⟩
theorem q_mac_loop {post : Int64 → HS → Prop} {S : HS} {a : Nat} {b : List Nat} (hk : kd S a / 32 = 2) (hl : ln S a = 120) (hB : RvB S a 0 b) (hb : By b) (h120 : b.length ≤ 120) {f : Nat} (hf : f + 6 ≤ b.length) (hp : post (lN (nb b f 6)) S) : ∀ (k j : Nat), j + k = 6 → wp_X7_macAt_5 (k + 1) post S a (nI f) (lN (nb b f j)) (nI (f + j)) := by
  have e6 : nI f + 6 = nI (f + 6) := nI_add f 6
  intro k
  induction k with
  | zero =>
    intro j hj
    have : j = 6 := by omega
    subst this
    refine ⟨fun _ => hp, fun c => absurd ?_ c⟩
    rw [e6]; exact (nI_leI (by omega) (by omega)).mpr (Nat.le_refl _)
  | succ k ih =>
    intro j hj
    refine ⟨fun c => ?_, fun _ => ⟨hk, by rw [hl]; exact vp_in_nI (by omega) (by decide), ?_⟩⟩
    · rw [e6] at c
      exact absurd ((nI_leI (by omega) (by omega)).mp c) (by omega)
    · have rd := hB (f + j) (by omega)
      rw [Nat.zero_add] at rd
      have hlt := nb_lt hb f j
      have h6 : 256 ^ j ≤ 256 ^ 5 := Nat.pow_le_pow_right (by decide) (by omega)
      rw [nI_clamp (by omega), rd, nI_1, or8 (by omega) (hb _)]
      exact ih (j + 1) (by omega)
theorem q_mac {post : Int64 → HS → Prop} {S : HS} {o a : Nat} {b : List Nat} (hk : kd S a / 32 = 2) (hl : ln S a = 120) (hB : RvB S a 0 b) (hb : By b) (h120 : b.length ≤ 120) {f : Nat} (hf : f + 6 ≤ b.length) (hp : post (lN (nb b f 6)) S) : wp_X7_macAt post S o a (nI f) :=
  ⟨7, q_mac_loop hk hl hB hb h120 hf hp 6 0 (by omega)⟩
theorem q_num_loop {post : Int32 → HS → Prop} {S : HS} {o : Nat} {R : Nat → Nat} {b : List Nat} (hB : RvB S (R 18) 0 b) (hb : By b) (h120 : b.length ≤ 120) {f t : Nat} (hf : f + t ≤ b.length) (ht : t ≤ 4) (hp : post (nI (nb b f t)) S) : ∀ (k j : Nat), j + k = t → wq_X7_numberAt_5 (k + 1) post R S o (nI f) (nI t) (nI (nb b f j)) (nI (f + j)) := by
  intro k
  induction k with
  | zero =>
    intro j hj
    have : j = t := by omega
    subst this
    refine ⟨fun _ => hp, fun c => absurd ?_ c⟩
    rw [nI_add]; exact (nI_leI (by omega) (by omega)).mpr (Nat.le_refl _)
  | succ k ih =>
    intro j hj
    refine ⟨fun c => ?_, fun _ => ⟨vp_in_nI (by omega) (by decide), ?_⟩⟩
    · rw [nI_add] at c
      exact absurd ((nI_leI (by omega) (by omega)).mp c) (by omega)
    · have rd := hB (f + j) (by omega)
      rw [Nat.zero_add] at rd
      have hlt := nb_lt hb f j
      have h6 : 256 ^ j ≤ 256 ^ 3 := Nat.pow_le_pow_right (by decide) (by omega)
      rw [nI_clamp (by omega), rd, nI_1, or8g (by omega) (hb _)]
      exact ih (j + 1) (by omega)
theorem q_num {post : Int32 → HS → Prop} {S : HS} {o : Nat} {R : Nat → Nat} {b : List Nat} (hB : RvB S (R 18) 0 b) (hb : By b) (h120 : b.length ≤ 120) {f t : Nat} (hf : f + t ≤ b.length) (ht : t ≤ 4) (hp : post (nI (nb b f t)) S) : wq_X7_numberAt post R S o (nI f) (nI t) :=
  ⟨t + 1, q_num_loop hB hb h120 hf ht hp t 0 (by omega)⟩
theorem nb2 (b : List Nat) (j : Nat) : nb b j 2 = pr2 b j := by simp [nb, pr2]
