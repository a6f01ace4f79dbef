/-! ===== the reference's calls that look, or set a cell ===== -/
theorem RV.M {S : HS} {o : Nat} {R : Nat → Nat} {T : TS} (h : RV S o R T) : RM S o R := h.1
theorem q_isE' {post : Int32 → HS → Prop} {S : HS} {o : Nat} {R : Nat → Nat} {T : TS} {N : Nat} (h : RV S o R T) (hT : OkT T N) {x : Int32} (h1 : ∀ j, rg x (tN T) = some j → j < tN T → x = nI j → post 1 S) (h0 : rg x (tN T) = none → post 0 S) : wq_X7_isEndpoint post R S o x :=
  q_isE h hT (fun j e hj => h1 j (by rw [e]; exact rg_n hj (by have := hT.1.2; omega)) hj e) (fun q => h0 (rg_0 q))
theorem q_isS' {post : Int32 → HS → Prop} {S : HS} {o : Nat} {R : Nat → Nat} {T : TS} {N : Nat} (h : RV S o R T) (hT : OkT T N) {x : Int32} (h1 : ∀ j, rg x (tS T).length = some j → j < (tS T).length → x = nI j → post 1 S) (h0 : rg x (tS T).length = none → post 0 S) : wq_X7_isStation post R S o x :=
  q_isS h hT (fun j e hj => h1 j (by rw [e]; exact rg_n hj (by have := hT.2.1.1; omega)) hj e) (fun q => h0 (rg_0 q))
theorem q_isP' {post : Int32 → HS → Prop} {S : HS} {o : Nat} {R : Nat → Nat} {T : TS} {N : Nat} (h : RV S o R T) (hT : OkT T N) {x : Int32} (h1 : ∀ j, rg x (tF T).length = some j → j < (tF T).length → x = nI j → post 1 S) (h0 : rg x (tF T).length = none → post 0 S) : wq_X7_isPacket post R S o x :=
  q_isP h hT (fun j e hj => h1 j (by rw [e]; exact rg_n hj (by have := hT.2.2.2.2.2.1; omega)) hj e) (fun q => h0 (rg_0 q))
theorem n01 : ¬ (1 : Int32) = 0 := by decide
/-! flying, size, packet, known, forget, got, count -/
theorem v_flying {post : Int32 → HS → Prop} {S : HS} {o : Nat} {R : Nat → Nat} {T : TS} (h : RV S o R T) (hp : ∀ S', RV S' o R (s_flying T).2 → post (s_flying T).1 S') : wq_X7_flying post R S o := by
  unfold wq_X7_flying
  rw [h.2.2.2.2.2.2.2.1.1]
  exact hp S h
theorem v_size {post : Int32 → HS → Prop} {S : HS} {o : Nat} {R : Nat → Nat} {T : TS} {N : Nat} (h : RV S o R T) (hT : OkT T N) {x : Int32} (hp : ∀ S', RV S' o R (s_size T x).2 → post (s_size T x).1 S') : wq_X7_size post R S o x := by
  refine q_isP' h hT (fun i hi hl hx => ⟨fun c => absurd c n01, fun _ => ?_⟩) (fun hi => ⟨fun _ => ?_, fun c => absurd rfl c⟩)
  · obtain ⟨f, hf⟩ := get_lt hl
    have h50 := hT.2.2.2.2.2.1
    obtain ⟨f1, -, -⟩ := h.2.2.2.2.2.2.2.1.2 i f hf
    subst hx
    refine ⟨vp_in_nI (by omega) (by decide), ?_⟩
    rw [nI_clamp (by omega), f1]
    simp only [s_size, hi, hf] at hp
    exact hp S h
  · simp only [s_size, hi] at hp
    exact hp S h
theorem v_packet {post : Int32 → HS → Prop} {S : HS} {o : Nat} {R : Nat → Nat} {T : TS} {N : Nat} (h : RV S o R T) (hT : OkT T N) {x y : Int32} (hp : ∀ S', RV S' o R (s_packet T x y).2 → post (s_packet T x y).1 S') : wq_X7_packet post R S o x y := by
  refine q_isP' h hT (fun i hi hl hx => ⟨fun c => absurd c n01, fun _ => ?_⟩) (fun hi => ⟨fun _ => ?_, fun c => absurd rfl c⟩)
  · obtain ⟨f, hf⟩ := get_lt hl
    have h50 := hT.2.2.2.2.2.1
    obtain ⟨f1, -, f3⟩ := h.2.2.2.2.2.2.2.1.2 i f hf
    have hm := (hT.2.2.2.2.2.2 f (List.mem_of_getElem? hf)).2.1
    subst hx
    refine ⟨fun c => ?_, fun c => ⟨vp_in_nI (by omega) (by decide), ?_⟩⟩
    · simp only [s_packet, hi, hf, rg_neg c] at hp
      exact hp S h
    · rw [nI_clamp (by omega), f1]
      have hi2 := nI_tI (j := f.1.length) (by omega)
      refine ⟨fun c2 => ?_, fun c2 => ?_⟩
      · simp only [s_packet, hi, hf, rg_big (Int.le_of_eq hi2.symm) c2] at hp
        exact hp S h
      · obtain ⟨k, k1, k2, rfl⟩ := rg_yes (Int.le_of_eq hi2) c (Int32.not_le.mp c2)
        rw [nI_120, nI_add]
        refine ⟨vp_in_nI (by omega) (by decide), ?_⟩
        rw [nI_clamp (by omega), f3 k k2]
        simp only [s_packet, hi, hf, k1] at hp
        exact hp S h
  · simp only [s_packet, hi] at hp
    exact hp S h
theorem v_known {post : Int32 → HS → Prop} {S : HS} {o : Nat} {R : Nat → Nat} {T : TS} {N : Nat} (h : RV S o R T) (hT : OkT T N) {x : Int32} (hp : ∀ S', RV S' o R (s_known T x).2 → post (s_known T x).1 S') : wq_X7_known post R S o x := by
  have h8 := hT.1.2
  refine q_isE' h hT (fun i hi hl hx => ⟨fun c => absurd c n01, fun _ => ?_⟩) (fun hi => ⟨fun _ => ?_, fun c => absurd rfl c⟩)
  · subst hx
    refine ⟨vp_in_nI (by omega) (by decide), ?_⟩
    rw [nI_clamp (by omega), (h.2.2.2.2.2.1 i (by omega)).1]
    simp only [s_known, hi] at hp
    exact hp S h
  · simp only [s_known, hi] at hp
    exact hp S h
theorem v_got {post : Int32 → HS → Prop} {S : HS} {o : Nat} {R : Nat → Nat} {T : TS} {N : Nat} (h : RV S o R T) (hT : OkT T N) {x : Int32} (hp : ∀ S', RV S' o R (s_got T x).2 → post (s_got T x).1 S') : wq_X7_got post R S o x := by
  have h8 := hT.2.1.1
  refine q_isS' h hT (fun i hi hl hx => ⟨fun c => absurd c n01, fun _ => ?_⟩) (fun hi => ⟨fun _ => ?_, fun c => absurd rfl c⟩)
  · obtain ⟨s, hs⟩ := get_lt hl
    subst hx
    refine ⟨vp_in_nI (by omega) (by decide), ?_⟩
    rw [nI_clamp (by omega), (h.2.2.1.2 i s hs).2.2.2.1]
    simp only [s_got, hi, hs] at hp
    exact hp S h
  · simp only [s_got, hi] at hp
    exact hp S h
theorem v_count {post : Int32 → HS → Prop} {S : HS} {o : Nat} {R : Nat → Nat} {T : TS} (h : RV S o R T) {x : Int32} (hp : ∀ S', RV S' o R (s_count T x).2 → post (s_count T x).1 S') : wq_X7_count post R S o x := by
  refine ⟨fun c => ?_, fun c => ⟨fun c2 => ?_, fun c2 => ?_⟩⟩
  · simp only [s_count, rg_neg c] at hp
    exact hp S h
  · have : (13 : Int32) ≤ x := by
      have := lt_tI.mp c2
      apply le_tI.mpr
      have e1 : (12 : Int32).toInt = 12 := rfl
      have e2 : (13 : Int32).toInt = 13 := rfl
      omega
    simp only [s_count, rg_big (n := 13) (y := 13) (by decide) this] at hp
    exact hp S h
  · have : x < (13 : Int32) := by
      have := le_tI.mp (Int32.not_lt.mp c2)
      apply lt_tI.mpr
      have e1 : (12 : Int32).toInt = 12 := rfl
      have e2 : (13 : Int32).toInt = 13 := rfl
      omega
    obtain ⟨k, k1, k2, rfl⟩ := rg_yes (n := 13) (y := 13) (by decide) c this
    refine ⟨vp_in_nI (by omega) (by decide), ?_⟩
    rw [nI_clamp (by omega), h.2.2.2.2.2.2.2.2 k k2]
    simp only [s_count, k1] at hp
    exact hp S h
theorem v_forget {post : Int32 → HS → Prop} {S : HS} {o : Nat} {R : Nat → Nat} {T : TS} {N : Nat} (h : RV S o R T) (hT : OkT T N) {x : Int32} (hp : ∀ S', RV S' o R (s_forget T x).2 → post (s_forget T x).1 S') : wq_X7_forget post R S o x := by
  have h8 := hT.1.2
  refine q_isE' h hT (fun i hi hl hx => ⟨fun _ => ?_, fun c => absurd c n01⟩) (fun hi => ⟨fun c => absurd rfl c, fun _ => ?_⟩)
  · subst hx
    refine ⟨vp_in_nI (by omega) (by decide), vp_in_nI (by omega) (by decide), ?_⟩
    rw [nI_clamp (by omega), (h.2.2.2.2.2.1 i (by omega)).1]
    simp only [s_forget, hi] at hp
    refine hp _ ?_
    have hM := h.1
    have hR := hM.inj
    have g : rfm S (sai S (R 8) i 0) o R (fun _ => false) wjC := rfm.wai hM (by decide) rfl
    refine h.kc hM.wai g (fun d hd => ?_) (h.2.2.2.2.2.2.2.2.fr (rfm.wai (wf := fun _ => false) (wj := fun j => j == 8) hM (by decide) rfl) rfl rfl) rfl rfl rfl rfl rfl rfl
    obtain ⟨k1, k2⟩ := h.2.2.2.2.2.1 d hd
    rw [uK_at, ai_r hR S (by decide) (by decide)]
    by_cases e : d = i
    · rw [if_pos e, if_pos ⟨rfl, e⟩]
      exact ⟨rfl, fun k κ q => by simp at q⟩
    · rw [if_neg e, if_neg (by omega)]
      refine ⟨k1, fun k κ q => ?_⟩
      rw [ai_r hR S (by decide) (by decide), ai_r hR S (by decide) (by decide), if_neg (by omega), if_neg (by omega)]
      exact k2 k κ q
  · simp only [s_forget, hi] at hp
    exact hp S h
/-! knows -/
theorem plc_neg {p : Nat ⊕ Nat} (h : okPl p) : (∃ d, p = Sum.inr d ∧ d < 8 ∧ ¬ 0 ≤ plc p ∧ ((-1 : Int32) - plc p) = nI d) ∨ (∃ s, p = Sum.inl s ∧ s < 32 ∧ 0 ≤ plc p ∧ plc p = nI s) := by
  cases p with
  | inr d =>
    refine Or.inl ⟨d, rfl, h, fun c => ?_, ?_⟩
    · exact absurd (neg1 d h) (Int32.not_lt.mpr c)
    · have q : ∀ d, d < 8 → (-1 : Int32) - (-1 - nI d) = nI d := by decide
      exact q d h
  | inl s => exact Or.inr ⟨s, rfl, h, (by show (0 : Int32) ≤ nI s; exact Int32.not_lt.mp (nI_pos (by have : s < 32 := h; omega))), rfl⟩
theorem nI_64 {j : Nat} (h : j < 2 ^ 31) : (nI j).toInt64 = lN j := by
  apply Int64.toInt_inj.mp
  rw [Int32.toInt_toInt64, nI_tI h, pf_lI (by omega)]
theorem v_knows {post : Int64 → HS → Prop} {S : HS} {o : Nat} {R : Nat → Nat} {T : TS} {N : Nat} (h : RV S o R T) (hT : OkT T N) {x y z : Int32} (hp : ∀ S', RV S' o R (s_knows T x y z).2 → post (s_knows T x y z).1 S') : wq_X7_knows post R S o x y z := by
  have h8 := hT.1.2
  refine q_isE' h hT (fun i hi hl hx => ⟨fun c => absurd c n01, fun _ => ?_⟩) (fun hi => ⟨fun _ => ?_, fun c => absurd rfl c⟩)
  · subst hx
    obtain ⟨k1, k2⟩ := h.2.2.2.2.2.1 i (by omega)
    have h24 := hT.2.2.1 i (by omega)
    refine ⟨fun c => ?_, fun c => ⟨vp_in_nI (by omega) (by decide), ?_⟩⟩
    · simp only [s_knows, hi, rg_neg c] at hp
      exact hp S h
    · rw [nI_clamp (n := i) (by omega), k1]
      have hi2 := nI_tI (j := (tK T i).length) (by omega)
      refine ⟨fun c2 => ?_, fun c2 => ?_⟩
      · obtain ⟨k, e1, e2, rfl⟩ := rg_yes (Int.le_of_eq hi2) c c2
        obtain ⟨κ, hκ⟩ := get_lt e2
        have hm := h24.2.1 κ (List.mem_of_getElem? hκ)
        have hpl := hm.pl hT.1.2 hT.2.1.1
        obtain ⟨g1, g2, g3, g4⟩ := k2 k κ hκ
        simp only [s_knows, hi, e1, hκ] at hp
        have hq := hp S h
        have hin : vp_in (nI (24 * i + k)) 192 := vp_in_nI (by omega) (by decide)
        rw [nI_24, nI_add, nI_clamp (n := 24 * i + k) (by omega), g1, g2, g3, g4, nI_64 (by have := hm.1; omega)]
        refine ⟨fun c3 => ⟨hin, ?_⟩, fun c3 => ⟨hin, ?_⟩, fun c3 => ⟨hin, ?_⟩, fun c3 => ⟨hin, ?_⟩, fun c3 => ⟨hin, ?_⟩, fun d0 d1 d2 d3 d4 => ?_⟩
        · subst c3; exact hq
        · subst c3; exact hq
        · subst c3
          rcases plc_neg hpl with ⟨d, q1, q2, q3, q4⟩ | ⟨s, q1, q2, q3, q4⟩
          · refine ⟨fun c => absurd c q3, fun _ => ⟨hin, ?_⟩⟩
            rw [q4, nI_64 (by omega)]
            unfold tell at hq
            rw [q1] at hq
            exact hq
          · refine ⟨fun _ => ?_, fun c => absurd q3 c⟩
            unfold tell at hq
            rw [q1] at hq
            exact hq
        · subst c3
          rcases plc_neg hpl with ⟨d, q1, q2, q3, q4⟩ | ⟨s, q1, q2, q3, q4⟩
          · refine ⟨fun c => absurd c q3, fun _ => ?_⟩
            unfold tell at hq
            rw [q1] at hq
            exact hq
          · refine ⟨fun _ => ⟨hin, ?_⟩, fun c => absurd q3 c⟩
            rw [q4, nI_64 (by omega)]
            unfold tell at hq
            rw [q1] at hq
            exact hq
        · subst c3; exact hq
        · unfold tell at hq
          rw [if_neg d0, if_neg d1, if_neg d2, if_neg d3, if_neg d4] at hq
          exact hq
      · simp only [s_knows, hi, rg_big (Int.le_of_eq hi2.symm) (Int32.not_lt.mp c2)] at hp
        exact hp S h
  · simp only [s_knows, hi] at hp
    exact hp S h
/-! frames -/
theorem q_isF {post : Int32 → HS → Prop} {S : HS} {o : Nat} {R : Nat → Nat} {T : TS} {N : Nat} (h : RV S o R T) (hT : OkT T N) (hN : N < 2 ^ 31) {x y : Int32} (h1 : ∀ i s k b, rg x (tS T).length = some i → (tS T)[i]? = some s → rg y s.2.2.2.2.length = some k → s.2.2.2.2[k]? = some b → x = nI i → y = nI k → k < 6 → post 1 S) (h0 : s_length T x y = (-1, T) → (∀ z, s_frame T x y z = (-1, T)) → post 0 S) : wq_X7_isFrame post R S o x y := by
  have h8 := hT.2.1.1
  refine q_isS' h hT (fun i hi hl hx => ⟨fun c => absurd c n01, fun _ => ?_⟩) (fun hi => ⟨fun _ => ?_, fun c => absurd rfl c⟩)
  · obtain ⟨s, hs⟩ := get_lt hl
    obtain ⟨m1, m2, m3, m4, m5, m6⟩ := hT.2.1.2 s (List.mem_of_getElem? hs)
    subst hx
    have nope : rg y s.2.2.2.2.length = none → post 0 S := fun q => h0 (by simp only [s_length, hi, hs, q]) (fun z => by simp only [s_frame, hi, hs, q])
    refine ⟨fun c => nope (rg_neg c), fun c => ⟨fun c2 => nope (rg_big (y := 6) ?_ c2), fun c2 => ⟨vp_in_nI (by omega) (by decide), ?_⟩⟩⟩
    · have e1 : (6 : Int32).toInt = 6 := rfl
      omega
    · rw [nI_clamp (by omega), (h.2.2.1.2 i s hs).2.2.2.1]
      have hi2 := nI_tI (j := s.2.2.2.1) (by omega)
      refine ⟨fun c3 => nope (rg_big (y := nI s.2.2.2.1) (by omega) c3), fun c3 => ?_⟩
      have hy6 : y < (6 : Int32) := Int32.not_le.mp c2
      obtain ⟨k, e1, e2, e3⟩ := rg_yes (n := s.2.2.2.1) (Int.le_of_eq hi2) c (Int32.not_le.mp c3)
      have hk6 : k < 6 := by
        rw [e3] at hy6
        have := lt_tI.mp hy6
        rw [nI_tI (by omega)] at this
        have e1 : (6 : Int32).toInt = 6 := rfl
        omega
      obtain ⟨b, hb⟩ := get_lt (l := s.2.2.2.2) (i := k) (by omega)
      exact h1 i s k b hi hs (by rw [e3]; exact rg_n (by omega) (by omega)) hb rfl e3 hk6
  · exact h0 (by simp only [s_length, hi]) (fun z => by simp only [s_frame, hi])
theorem v_length {post : Int32 → HS → Prop} {S : HS} {o : Nat} {R : Nat → Nat} {T : TS} {N : Nat} (h : RV S o R T) (hT : OkT T N) (hN : N < 2 ^ 31) {x y : Int32} (hp : ∀ S', RV S' o R (s_length T x y).2 → post (s_length T x y).1 S') : wq_X7_length post R S o x y := by
  have h8 := hT.2.1.1
  refine q_isF h hT hN (fun i s k b hi hs hk hb hx hy k6 => ⟨fun c => absurd c n01, fun _ => ?_⟩) (fun q _ => ⟨fun _ => ?_, fun c => absurd rfl c⟩)
  · subst hx; subst hy
    have hl := (rg_lt hi).1
    rw [nI_6, nI_add]
    refine ⟨vp_in_nI (by omega) (by decide), ?_⟩
    rw [nI_clamp (by omega), ((h.2.2.1.2 i s hs).2.2.2.2 k b hb).1]
    simp only [s_length, hi, hs, hk, hb] at hp
    exact hp S h
  · rw [q] at hp; exact hp S h
theorem v_frame {post : Int32 → HS → Prop} {S : HS} {o : Nat} {R : Nat → Nat} {T : TS} {N : Nat} (h : RV S o R T) (hT : OkT T N) (hN : N < 2 ^ 31) {x y z : Int32} (hp : ∀ S', RV S' o R (s_frame T x y z).2 → post (s_frame T x y z).1 S') : wq_X7_frame post R S o x y z := by
  have h8 := hT.2.1.1
  have hneg : z < 0 → s_frame T x y z = (-1, T) := fun c => by
    unfold s_frame
    split
    · split
      · split
        · split
          · rw [rg_neg c]
          · rfl
        · rfl
      · rfl
    · rfl
  refine ⟨fun c => ?_, fun c => ?_⟩
  · rw [hneg c] at hp; exact hp S h
  · refine q_isF h hT hN (fun i s k b hi hs hk hb hx hy k6 => ⟨fun c => absurd c n01, fun _ => ?_⟩) (fun _ q => ⟨fun _ => ?_, fun c => absurd rfl c⟩)
    · subst hx; subst hy
      have hl := (rg_lt hi).1
      have hbl := ((hT.2.1.2 s (List.mem_of_getElem? hs)).2.2.2.2.2 b (List.mem_of_getElem? hb)).2
      obtain ⟨f1, f2⟩ := (h.2.2.1.2 i s hs).2.2.2.2 k b hb
      rw [nI_6, nI_add, nI_120]
      refine ⟨vp_in_nI (by omega) (by decide), ?_⟩
      rw [nI_clamp (n := 6 * i + k) (by omega), f1]
      have hi2 := nI_tI (j := b.length) (by omega)
      refine ⟨fun c2 => ?_, fun c2 => ?_⟩
      · simp only [s_frame, hi, hs, hk, hb, rg_big (Int.le_of_eq hi2.symm) c2] at hp
        exact hp S h
      · obtain ⟨j, e1, e2, rfl⟩ := rg_yes (Int.le_of_eq hi2) c (Int32.not_le.mp c2)
        rw [nI_add]
        refine ⟨vp_in_nI (by omega) (by decide), ?_⟩
        rw [nI_clamp (n := 120 * (6 * i + k) + j) (by omega), f2 j e2]
        simp only [s_frame, hi, hs, hk, hb, e1] at hp
        exact hp S h
    · have hm : (-1 : Int32) ≤ z := by
        have := le_tI.mp (Int32.not_lt.mp c)
        apply le_tI.mpr
        have e1 : (-1 : Int32).toInt = -1 := rfl
        have e2 : (0 : Int32).toInt = 0 := rfl
        omega
      refine ⟨fun _ => ?_, fun c2 => absurd hm c2⟩
      rw [q z] at hp; exact hp S h
