/-! ===== the reference writes a packet's bytes ===== -/
theorem bt_nI (m i : Nat) : bt (nI m) i = (decide (i < 32) && m.testBit i) := by
  show (BitVec.ofNat 32 m).getLsbD i = _
  rw [BitVec.getLsbD_ofNat]
theorem sh255 (w : Nat) {s : Nat} (hs : s ≤ 24) : (nI w >>> (nI s &&& 31)) &&& 255 = nI (w / 2 ^ s % 256) := by
  refine b_ext (fun i hi => ?_)
  rw [b_and, b_255, b_sshr s (by omega) _ hi, bt_nI, bt_nI, bt_nI]
  have e : (w / 2 ^ s % 256).testBit i = (decide (i < 8) && w.testBit (s + i)) := by
    rw [show (256 : Nat) = 2 ^ 8 from rfl, Nat.testBit_mod_two_pow, Nat.testBit_div_two_pow, Nat.add_comm s i]
  rw [e]
  by_cases h8 : i < 8
  · rw [if_pos (by omega)]
    simp [h8, hi, show s + i < 32 by omega]
  · simp [h8]
def Pb (S : HS) (o : Nat) (R : Nat → Nat) (p : List Nat) : Prop := fi S 50 o = nI p.length ∧ RvB S (R 18) 0 p ∧ p.length ≤ 120
def wf50 : Nat → Bool := fun f => f == 50
def wj18 : Nat → Bool := fun j => j == 18
theorem q_put_loop {post : Unit → HS → Prop} {o : Nat} {R : Nat → Nat} {w : Nat} : ∀ (k : Nat) (S : HS) (p : List Nat), k ≤ 4 → RM S o R → Pb S o R p → p.length + k ≤ 120 → (∀ S', RM S' o R → rfm S S' o R wf50 wj18 → Pb S' o R (p ++ be w k) → post () S') → wq_X7_put_7 (k + 1) post R S o (nI w) ((8 : Int32) * (nI k - 1)) := by
  intro k
  induction k with
  | zero =>
    intro S p _ hM hP _ hp
    exact ⟨fun _ => hp S hM rfm.rf (by simpa [be] using hP), fun c => absurd (by decide) c⟩
  | succ k ih =>
    intro S p hk hM hP hl hp
    have hR := hM.inj
    have e0 : (8 : Int32) * (nI (k + 1) - 1) = nI (8 * k) := by rw [nI_pred]; exact nI_8 k
    rw [e0]
    obtain ⟨p1, p2, p3⟩ := hP
    have e8 : nI (8 * k) + (-8) = (8 : Int32) * (nI k - 1) := by
      rcases (show k = 0 ∨ k = 1 ∨ k = 2 ∨ k = 3 by omega) with rfl | rfl | rfl | rfl <;> decide
    unfold wq_X7_put_7
    rw [p1, e8]
    refine ⟨fun c => absurd c (nI_pos (by omega)), fun _ => ⟨vp_in_nI (by omega) (by decide), ?_⟩⟩
    rw [nI_clamp (by omega), show fi (sai S (R 18) p.length (((nI w >>> (nI (8 * k) &&& 31)).toInt8.toInt32).toInt8.toInt32)) 50 o = nI p.length from p1, nI_1]
    refine ih _ (p ++ [w / 256 ^ k % 256]) (by omega) hM.wai.wfi ⟨?_, ?_, ?_⟩ (by simp; omega) (fun S' M' g h' => hp S' M' (((rfm.wai hM (by decide) rfl).tr (rfm.wfi rfl)).tr g) ?_)
    · rw [fi_self]; simp
    · intro j hj
      rw [Nat.zero_add, ai_f, ai_r hR S (by decide) (by decide)]
      by_cases z : j = p.length
      · subst z
        rw [if_pos ⟨rfl, rfl⟩, bp, bp, sh255 w (by omega), gb_at, show (2 : Nat) ^ (8 * k) = 256 ^ k by rw [Nat.pow_mul]]
      · rw [if_neg (fun q => z q.2), gb_lt _ _ (by simp at hj; omega)]
        have := p2 j (by simp at hj; omega)
        rwa [Nat.zero_add] at this
    · simp; omega
    · simpa [be, List.append_assoc] using h'
theorem q_put {post : Unit → HS → Prop} {S : HS} {o : Nat} {R : Nat → Nat} {w k : Nat} {p : List Nat} (hM : RM S o R) (hP : Pb S o R p) (hk : k ≤ 4) (hl : p.length + k ≤ 120) (hp : ∀ S', RM S' o R → rfm S S' o R wf50 wj18 → Pb S' o R (p ++ be w k) → post () S') : wq_X7_put post R S o (nI w) (nI k) := ⟨k + 1, q_put_loop k S p hk hM hP hl hp⟩
theorem set2_len (p : List Nat) (j v : Nat) : (set2 p j v).length = p.length := by simp [set2]
theorem gb_set2 {p : List Nat} {j v i : Nat} (h : j + 1 < p.length) : gb (set2 p j v) i = if i = j + 1 then v % 256 else if i = j then v / 256 else gb p i := by
  unfold set2
  rw [gb_set (by rw [List.length_set]; exact h), gb_set (by omega)]
theorem q_set {post : Unit → HS → Prop} {S : HS} {o : Nat} {R : Nat → Nat} {j v : Nat} {p : List Nat} (hM : RM S o R) (hP : Pb S o R p) (hj : j + 1 < p.length) (hv : v < 65536) (hp : ∀ S', RM S' o R → rfm S S' o R wf50 wj18 → Pb S' o R (set2 p j v) → post () S') : wq_X7_set post R S o (nI j) (nI v) := by
  obtain ⟨p1, p2, p3⟩ := hP
  have hR := hM.inj
  refine ⟨vp_in_nI (by omega) (by decide), by rw [nI_1]; exact vp_in_nI (by omega) (by decide), ?_⟩
  rw [nI_1, nI_clamp (by omega), nI_clamp (by omega)]
  refine hp _ hM.wai.wai ((rfm.wai hM (by decide) rfl).tr (rfm.wai hM.wai (by decide) rfl)) ⟨?_, fun i hi => ?_, by rw [set2_len]; exact p3⟩
  · rw [set2_len]; exact p1
  · rw [set2_len] at hi
    rw [Nat.zero_add, ai_r hR _ (by decide) (by decide), ai_r hR _ (by decide) (by decide), gb_set2 hj]
    by_cases z : i = j + 1
    · rw [if_pos ⟨rfl, z⟩, if_pos z, bp, bp, nI_255]
    · rw [if_neg (fun q => z q.2), if_neg z]
      by_cases z2 : i = j
      · rw [if_pos ⟨rfl, z2⟩, if_pos z2, bp, bp]
        have := sh255 v (s := 8) (by decide)
        rw [show (8 : Int32) = nI 8 from rfl, this]
        congr 1
        omega
      · rw [if_neg (fun q => z2 q.2), if_neg z2]
        have := p2 i hi
        rwa [Nat.zero_add] at this
/-! a packet is lost -/
def wf47 : Nat → Bool := fun f => f == 47
def wjF : Nat → Bool := fun j => j == 14 || j == 15 || j == 16
theorem q_dblk {post : Unit → HS → Prop} {K : HS → Nat → Int32 → Prop} {o : Nat} {R : Nat → Nat} {k : Nat} (hk : k < 49) : ∀ (n i : Nat) (S : HS), i + n = 120 → RM S o R → (∀ S', RM S' o R → rfm S S' o R (fun _ => false) (fun j => j == 14) → (∀ x, ai S' (R 14) x &&& 255 = ai S (R 14) (if 120 * k + i ≤ x ∧ x < 120 * k + 120 then x + 120 else x) &&& 255) → K S' o (nI k + 1)) → wq_X7_drop_50 (n + 1) post R K S o (nI k) (nI i) := by
  have e0 : (120 : Int32) = nI 120 := rfl
  intro n
  induction n with
  | zero =>
    intro i S hi hM hp
    refine ⟨fun _ => hp S hM rfm.rf (fun x => by rw [if_neg (by omega)]), fun c => absurd ?_ c⟩
    rw [e0]; exact (nI_leI (by decide) (by omega)).mpr (by omega)
  | succ n ih =>
    intro i S hi hM hp
    have hR := hM.inj
    have e1 : (120 : Int32) * (nI k + 1) + nI i = nI (120 * (k + 1) + i) := by rw [nI_1, nI_120, nI_add]
    have e2 : (120 : Int32) * nI k + nI i = nI (120 * k + i) := by rw [nI_120, nI_add]
    unfold wq_X7_drop_50
    rw [e1, e2]
    refine ⟨fun c => ?_, fun _ => ⟨vp_in_nI (by omega) (by decide), vp_in_nI (by omega) (by decide), ?_⟩⟩
    · rw [e0] at c
      exact absurd ((nI_leI (by decide) (by omega)).mp c) (by omega)
    · rw [nI_clamp (by omega), nI_clamp (by omega), nI_1 i]
      refine ih (i + 1) _ (by omega) hM.wai (fun S' M' g fx => hp S' M' ((rfm.wai hM (by decide) rfl).tr g) (fun x => ?_))
      rw [fx x, ai_r hR S (by decide) (by decide)]
      by_cases z : 120 * k + i ≤ x ∧ x < 120 * k + 120
      · rw [if_pos z]
        by_cases z2 : x = 120 * k + i
        · rw [if_neg (show ¬ (120 * k + (i + 1) ≤ x ∧ x < 120 * k + 120) by omega), if_pos ⟨rfl, z2⟩, bp]
          congr 2
          omega
        · rw [if_pos (show 120 * k + (i + 1) ≤ x ∧ x < 120 * k + 120 by omega), if_neg (by omega)]
      · rw [if_neg z, if_neg (show ¬ (120 * k + (i + 1) ≤ x ∧ x < 120 * k + 120) by omega), if_neg (by omega)]
theorem q_drop_loop {post : Unit → HS → Prop} {o : Nat} {R : Nat → Nat} {c : Nat} (hc : c ≤ 49) : ∀ (n k : Nat) (S : HS), k + n = c → RM S o R → fi S 47 o = nI c → (∀ S', RM S' o R → rfm S S' o R (fun _ => false) wjF → (∀ x, ai S' (R 15) x = ai S (R 15) (if k ≤ x ∧ x < c then x + 1 else x) ∧ ai S' (R 16) x = ai S (R 16) (if k ≤ x ∧ x < c then x + 1 else x)) → (∀ x, ai S' (R 14) x &&& 255 = ai S (R 14) (if 120 * k ≤ x ∧ x < 120 * c then x + 120 else x) &&& 255) → post () S') → wq_X7_drop_12 (n + 1) post R S o (nI k) := by
  have w14 : ∀ j, wjF j = false → (j == 14) = false := fun j q => (Bool.or_eq_false_iff.mp (Bool.or_eq_false_iff.mp q).1).1
  intro n
  induction n with
  | zero =>
    intro k S hk hM hf hp
    refine ⟨fun _ => hp S hM rfm.rf (fun x => by rw [if_neg (by omega)]; exact ⟨rfl, rfl⟩) (fun x => by rw [if_neg (by omega)]), fun q => absurd ?_ q⟩
    rw [hf]; exact (nI_leI (by omega) (by omega)).mpr (by omega)
  | succ n ih =>
    intro k S hk hM hf hp
    have hR := hM.inj
    have i1 : vp_in (nI k + 1) 50 := by rw [nI_1]; exact vp_in_nI (by omega) (by decide)
    have i0 : vp_in (nI k) 50 := vp_in_nI (by omega) (by decide)
    refine ⟨fun q => ?_, fun _ => ⟨i1, i0, i1, i0, 121, ?_⟩⟩
    · rw [hf] at q
      exact absurd ((nI_leI (by omega) (by omega)).mp q) (by omega)
    · rw [nI_1 k, nI_clamp (n := k) (by omega), nI_clamp (n := k + 1) (by omega)]
      generalize hS1 : sai S (R 15) k (ai S (R 15) (k + 1)) = S1
      generalize hS2 : sai S1 (R 16) k (ai S1 (R 16) (k + 1)) = S2
      have M1 : RM S1 o R := by rw [← hS1]; exact hM.wai
      have M2 : RM S2 o R := by rw [← hS2]; exact M1.wai
      have g2 : rfm S S2 o R (fun _ => false) wjF := by
        rw [← hS2]; refine rfm.tr ?_ (rfm.wai M1 (by decide) rfl)
        rw [← hS1]; exact rfm.wai hM (by decide) rfl
      have e15 : ∀ x, ai S2 (R 15) x = if x = k then ai S (R 15) (k + 1) else ai S (R 15) x := fun x => by
        rw [← hS2, ai_r hR S1 (by decide) (by decide), if_neg (by omega), ← hS1, ai_r hR S (by decide) (by decide)]; simp
      have e16 : ∀ x, ai S2 (R 16) x = if x = k then ai S (R 16) (k + 1) else ai S (R 16) x := fun x => by
        rw [← hS2, ai_r hR S1 (by decide) (by decide), ← hS1, ai_r hR S (by decide) (by decide), ai_r hR S (by decide) (by decide)]; simp
      have e14 : ai S2 (R 14) = ai S (R 14) := by
        funext x
        rw [← hS2, ai_r hR S1 (by decide) (by decide), if_neg (by omega), ← hS1, ai_r hR S (by decide) (by decide), if_neg (by omega)]
      have f47 : fi S2 47 o = nI c := (g2.1 47 rfl).trans hf
      refine q_dblk (by omega) 120 0 S2 (by omega) M2 (fun S3 M3 g3 f14 => ?_)
      show wq_X7_drop_12 (n + 1) post R S3 o (nI k + 1)
      rw [nI_1]
      refine ih (k + 1) S3 (by omega) M3 ((g3.1 47 rfl).trans f47) (fun S' M' g q1 q2 => hp S' M' ((g2.tr (g3.mono (fun _ q => q) w14)).tr g) (fun x => ?_) (fun x => ?_))
      · obtain ⟨u1, u2⟩ := q1 x
        rw [u1, u2, (g3.2 15 (by decide) rfl).1, (g3.2 16 (by decide) rfl).1, e15, e16]
        by_cases z : k ≤ x ∧ x < c
        · rw [if_pos z]
          by_cases z2 : x = k
          · have hy : (if k + 1 ≤ x ∧ x < c then x + 1 else x) = x := if_neg (by omega)
            rw [hy, if_pos z2, if_pos z2, z2]; exact ⟨rfl, rfl⟩
          · have hy : (if k + 1 ≤ x ∧ x < c then x + 1 else x) = x + 1 := if_pos (by omega)
            rw [hy, if_neg (by omega), if_neg (by omega)]; exact ⟨rfl, rfl⟩
        · have hy : (if k + 1 ≤ x ∧ x < c then x + 1 else x) = x := if_neg (by omega)
          rw [hy, if_neg z, if_neg (by omega), if_neg (by omega)]; exact ⟨rfl, rfl⟩
      · rw [q2 x, f14, e14]
        congr 2
        by_cases z : 120 * k ≤ x ∧ x < 120 * c
        · rw [if_pos z]
          by_cases z2 : x < 120 * k + 120
          · have hy : (if 120 * (k + 1) ≤ x ∧ x < 120 * c then x + 120 else x) = x := if_neg (by omega)
            rw [hy, if_pos (by omega)]
          · have hy : (if 120 * (k + 1) ≤ x ∧ x < 120 * c then x + 120 else x) = x + 120 := if_pos (by omega)
            rw [hy, if_neg (by omega)]
        · have hy : (if 120 * (k + 1) ≤ x ∧ x < 120 * c then x + 120 else x) = x := if_neg (by omega)
          rw [hy, if_neg z, if_neg (by omega)]
def wf47a : Nat → Bool := fun f => f == 47
theorem q_drop {post : Unit → HS → Prop} {S : HS} {o : Nat} {R : Nat → Nat} {T : TS} (hM : RM S o R) (hF : RvF S o R T) (h50 : (tF T).length ≤ 50 ∧ ∀ f ∈ tF T, f.1.length ≤ 120) {i : Nat} (hi : i < (tF T).length) (hp : ∀ S', RM S' o R → rfm S S' o R wf47a wjF → RvF S' o R (uF T ((tF T).eraseIdx i)) → post () S') : wq_X7_drop post R S o (nI i) := by
  have hR := hM.inj
  have hl := h50.1
  have e1 : nI (tF T).length - 1 = nI ((tF T).length - 1) := pk_sub (a := (tF T).length) (b := 1) (by omega)
  refine ⟨(tF T).length - 1 - i + 1, ?_⟩
  rw [hF.1, e1]
  refine q_drop_loop (c := (tF T).length - 1) (by omega) _ i _ (by omega) hM.wfi (fi_self _ _ _ _) (fun S' M' g q1 q2 => hp S' M' ((rfm.wfi rfl).tr (g.mono (fun f _ => rfl) (fun _ q => q))) ⟨?_, fun k f hk => ?_⟩)
  · show fi S' 47 o = nI ((tF T).eraseIdx i).length
    rw [g.1 47 rfl, fi_self, List.length_eraseIdx, if_pos hi]
  · have hk' : ((tF T).eraseIdx i)[k]? = some f := hk
    have hkl := (List.getElem?_eq_some_iff.mp hk').1
    rw [List.length_eraseIdx, if_pos hi] at hkl
    rw [List.getElem?_eraseIdx] at hk'
    obtain ⟨u1, u2⟩ := q1 k
    rw [ai_f] at u1 u2
    by_cases c : k < i
    · rw [if_pos c] at hk'
      rw [if_neg (by omega)] at u1 u2
      obtain ⟨b1, b2, b3⟩ := hF.2 k f hk'
      have hf := h50.2 f (List.mem_of_getElem? hk')
      refine ⟨u1.trans b1, u2.trans b2, fun j hj => ?_⟩
      rw [q2, if_neg (by omega)]
      exact b3 j hj
    · rw [if_neg c] at hk'
      rw [if_pos (by omega)] at u1 u2
      obtain ⟨b1, b2, b3⟩ := hF.2 (k + 1) f hk'
      have hf := h50.2 f (List.mem_of_getElem? hk')
      refine ⟨u1.trans b1, u2.trans b2, fun j hj => ?_⟩
      rw [q2, if_pos (by omega), show 120 * k + j + 120 = 120 * (k + 1) + j by omega]
      exact b3 j hj
