/-! ===== a frame comes to a station, in the reference ===== -/
theorem bp (x : Int32) : x.toInt8.toInt32 &&& 255 = x &&& 255 := bp_b x
theorem nI_120 (k : Nat) : (120 : Int32) * nI k = nI (120 * k) := pk_mul 120 k
theorem nI_6 (k : Nat) : (6 : Int32) * nI k = nI (6 * k) := pk_mul 6 k
theorem nI_720 (k : Nat) : (720 : Int32) * nI k = nI (720 * k) := pk_mul 720 k
def wj45 : Nat → Bool := fun j => j == 4 || j == 5
/-- one block of 120 bytes goes one block on -/
theorem q_blk {post : Unit → HS → Prop} {K : HS → Nat → Int32 → Int32 → Prop} {o : Nat} {R : Nat → Nat} {s k : Nat} {x2 : Int32} (hs : s < 32) (hk1 : 1 ≤ k) (hk5 : k ≤ 5) : ∀ (n i : Nat) (S : HS), i + n = 120 → RM S o R → (∀ S', RM S' o R → rfm S S' o R (fun _ => false) (fun j => j == 4) → (∀ x, ai S' (R 4) x &&& 255 = ai S (R 4) (if 120 * (6 * s + k) + i ≤ x ∧ x < 120 * (6 * s + k) + 120 then x - 120 else x) &&& 255) → K S' o (nI s) (x2 + (-1))) → wq_X7_comesTo_40 (n + 1) post R K S o (nI s) x2 (nI (6 * s + k)) (nI i) := by
  have e1 : nI (6 * s + k) - 1 = nI (6 * s + k - 1) := pk_sub (a := 6 * s + k) (b := 1) (by omega)
  have e0 : (120 : Int32) = nI 120 := rfl
  intro n
  induction n with
  | zero =>
    intro i S hi hM hp
    refine ⟨fun _ => hp S hM rfm.rf (fun x => by rw [if_neg (by omega)]), fun c => absurd ?_ c⟩
    rw [e0]; exact (nI_leI (by decide) (by omega)).mpr (by omega)
  | succ n ih =>
    intro i S hi hM hp
    have hR := hM.inj
    unfold wq_X7_comesTo_40
    rw [e1, nI_120, nI_120, nI_add, nI_add, nI_1]
    refine ⟨fun c => ?_, fun _ => ⟨vp_in_nI (by omega) (by decide), vp_in_nI (by omega) (by decide), ?_⟩⟩
    · rw [e0] at c
      exact absurd ((nI_leI (by decide) (by omega)).mp c) (by omega)
    · rw [nI_clamp (by omega), nI_clamp (by omega)]
      refine ih (i + 1) _ (by omega) hM.wai (fun S' M' g fx => hp S' M' ((rfm.wai hM (by decide) rfl).tr g) (fun x => ?_))
      rw [fx x, ai_r hR S (by decide) (by decide)]
      by_cases z : 120 * (6 * s + k) + i ≤ x ∧ x < 120 * (6 * s + k) + 120
      · rw [if_pos z]
        by_cases z2 : x = 120 * (6 * s + k) + i
        · rw [if_neg (show ¬ (120 * (6 * s + k) + (i + 1) ≤ x ∧ x < 120 * (6 * s + k) + 120) by omega), if_pos ⟨rfl, z2⟩, bp]
          congr 2
          omega
        · rw [if_pos (show 120 * (6 * s + k) + (i + 1) ≤ x ∧ x < 120 * (6 * s + k) + 120 by omega), if_neg (by omega)]
      · rw [if_neg z, if_neg (show ¬ (120 * (6 * s + k) + (i + 1) ≤ x ∧ x < 120 * (6 * s + k) + 120) by omega), if_neg (by omega)]
/-- the new frame's bytes -/
theorem q_put120 {post : Unit → HS → Prop} {o : Nat} {R : Nat → Nat} {s m : Nat} (hs : s < 32) (hm : m ≤ 120) : ∀ (n i : Nat) (S : HS), i + n = m → RM S o R → fi S 52 o = nI m → (∀ S', RM S' o R → rfm S S' o R (fun _ => false) (fun j => j == 4) → (∀ x, ai S' (R 4) x &&& 255 = (if 720 * s + i ≤ x ∧ x < 720 * s + m then ai S (R 19) (x - 720 * s) else ai S (R 4) x) &&& 255) → post () S') → wq_X7_comesTo_100 (n + 1) post R S o (nI s) (nI i) := by
  intro n
  induction n with
  | zero =>
    intro i S hi hM hf hp
    refine ⟨fun _ => hp S hM rfm.rf (fun x => by rw [if_neg (by omega)]), fun c => absurd ?_ c⟩
    rw [hf]; exact (nI_leI (by omega) (by omega)).mpr (by omega)
  | succ n ih =>
    intro i S hi hM hf hp
    have hR := hM.inj
    refine ⟨fun c => ?_, fun _ => ⟨vp_in_nI (by omega) (by decide), by rw [nI_720, nI_add]; exact vp_in_nI (by omega) (by decide), ?_⟩⟩
    · rw [hf] at c
      exact absurd ((nI_leI (by omega) (by omega)).mp c) (by omega)
    · rw [nI_720, nI_add, nI_1, nI_clamp (by omega), nI_clamp (by omega)]
      refine ih (i + 1) _ (by omega) hM.wai hf (fun S' M' g fx => hp S' M' ((rfm.wai hM (by decide) rfl).tr g) (fun x => ?_))
      rw [fx x, ai_r hR S (by decide) (by decide), ai_r hR S (by decide) (by decide), if_neg (show ¬ (19 = 4 ∧ _) by omega)]
      by_cases z2 : x = 720 * s + i
      · rw [if_neg (show ¬ (720 * s + (i + 1) ≤ x ∧ x < 720 * s + m) by omega), if_pos ⟨rfl, z2⟩, if_pos (by omega), bp]
        congr 2
        omega
      · by_cases z : 720 * s + (i + 1) ≤ x ∧ x < 720 * s + m
        · rw [if_pos z, if_pos (by omega)]
        · rw [if_neg z, if_neg (by omega), if_neg (by omega)]
theorem q_come_loop {post : Unit → HS → Prop} {o : Nat} {R : Nat → Nat} {s m : Nat} (hs : s < 32) (hm : m ≤ 120) : ∀ (k : Nat) (S : HS), k ≤ 5 → RM S o R → fi S 52 o = nI m → (∀ S', RM S' o R → rfm S S' o R (fun _ => false) wj45 → (∀ x, ai S' (R 5) x = if x = 6 * s then nI m else ai S (R 5) (if 6 * s + 1 ≤ x ∧ x < 6 * s + k + 1 then x - 1 else x)) → (∀ x, ai S' (R 4) x &&& 255 = (if 720 * s ≤ x ∧ x < 720 * s + m then ai S (R 19) (x - 720 * s) else ai S (R 4) (if 720 * s + 120 ≤ x ∧ x < 720 * s + 120 * (k + 1) then x - 120 else x)) &&& 255) → post () S') → wq_X7_comesTo_12 (k + 1) post R S o (nI s) (nI k) := by
  have w4 : ∀ j, wj45 j = false → (j == 4) = false := fun j q => (Bool.or_eq_false_iff.mp q).1
  intro k
  induction k with
  | zero =>
    intro S hk hM hf hp
    have hR := hM.inj
    refine ⟨fun _ => ⟨by rw [nI_6]; exact vp_in_nI (by omega) (by decide), m + 1, ?_⟩, fun c => absurd (by decide) c⟩
    rw [nI_6, nI_clamp (by omega), hf]
    refine q_put120 hs hm m 0 _ (by omega) hM.wai hf (fun S' M' g fx => hp S' M' ((rfm.wai hM (by decide) rfl).tr (g.mono (fun _ q => q) w4)) (fun x => ?_) (fun x => ?_))
    · rw [(g.2 5 (by decide) rfl).1, ai_r hR S (by decide) (by decide)]
      by_cases z : x = 6 * s
      · rw [if_pos ⟨rfl, z⟩, if_pos z]
      · rw [if_neg (fun q => z q.2), if_neg z, if_neg (by omega)]
    · rw [fx x, ai_r hR S (by decide) (by decide), ai_r hR S (by decide) (by decide), if_neg (show ¬ (19 = 5 ∧ _) by omega), if_neg (show ¬ (4 = 5 ∧ _) by omega)]
      rw [if_neg (show ¬ (720 * s + 120 ≤ x ∧ x < 720 * s + 120 * (0 + 1)) by omega)]
      rfl
  | succ k ih =>
    intro S hk hM hf hp
    have hR := hM.inj
    have e1 : nI (6 * s + (k + 1)) - 1 = nI (6 * s + k) := pk_sub (a := 6 * s + (k + 1)) (b := 1) (by omega)
    refine ⟨fun c => absurd c (nI_nle (by omega) (by omega)), fun _ => ?_⟩
    rw [nI_6, nI_add, e1]
    refine ⟨vp_in_nI (by omega) (by decide), vp_in_nI (by omega) (by decide), 121, ?_⟩
    rw [nI_clamp (by omega), nI_clamp (by omega)]
    refine q_blk (x2 := nI (k + 1)) hs (by omega) hk 120 0 _ (by omega) hM.wai (fun S1 M1 g1 f4 => ?_)
    rw [pk_m1]
    have f52 : fi S1 52 o = nI m := (g1.1 52 rfl).trans hf
    refine ih S1 (by omega) M1 f52 (fun S' M' g f5' f4' => hp S' M' (((rfm.wai hM (by decide) rfl).tr (g1.mono (fun _ q => q) w4)).tr g) (fun x => ?_) (fun x => ?_))
    · rw [f5' x, (g1.2 5 (by decide) rfl).1]
      by_cases z : x = 6 * s
      · rw [if_pos z, if_pos z]
      · rw [if_neg z, if_neg z, ai_r hR S (by decide) (by decide)]
        by_cases z2 : x = 6 * s + (k + 1)
        · rw [if_neg (show ¬ (6 * s + 1 ≤ x ∧ x < 6 * s + k + 1) by omega), if_pos ⟨rfl, z2⟩, if_pos (by omega)]
          congr 1
          omega
        · by_cases z3 : 6 * s + 1 ≤ x ∧ x < 6 * s + k + 1
          · rw [if_pos z3, if_neg (by omega), if_pos (by omega)]
          · rw [if_neg z3, if_neg (by omega), if_neg (by omega)]
    · rw [f4' x]
      have h19 : ai S1 (R 19) = ai S (R 19) := by
        rw [(g1.2 19 (by decide) rfl).1]; exact ai_ne S (R 5) _ _ (hM.ne (by decide) (by decide) (by decide))
      have h4 : ∀ y, ai S1 (R 4) y &&& 255 = ai S (R 4) (if 120 * (6 * s + (k + 1)) + 0 ≤ y ∧ y < 120 * (6 * s + (k + 1)) + 120 then y - 120 else y) &&& 255 := fun y => by
        rw [f4 y, ai_ne S (R 5) _ _ (hM.ne (by decide) (by decide) (by decide))]
      by_cases z : 720 * s ≤ x ∧ x < 720 * s + m
      · rw [if_pos z, if_pos z, h19]
      · rw [if_neg z, if_neg z, h4]
        congr 2
        by_cases z2 : 720 * s + 120 ≤ x ∧ x < 720 * s + 120 * (k + 1)
        · rw [if_pos z2, if_neg (by omega), if_pos (by omega)]
        · rw [if_neg z2]
          by_cases z3 : 120 * (6 * s + (k + 1)) + 0 ≤ x ∧ x < 120 * (6 * s + (k + 1)) + 120
          · rw [if_pos z3, if_pos (by omega)]
          · rw [if_neg z3, if_neg (by omega)]
