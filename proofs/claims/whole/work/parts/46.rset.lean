/-! begin, station, move, way, feed, lose, poke -/
def wfB : Nat → Bool := fun f => f == 27 || f == 28 || f == 47
def wjB : Nat → Bool := fun j => j == 6 || j == 7 || j == 8 || j == 17
theorem q_b30 {S0 : HS} {o : Nat} {R : Nat → Nat} {post : Int32 → HS → Prop} (hp : ∀ S', RM S' o R → rfm S0 S' o R wfB wjB → (∀ f, fi S' f o = fi S0 f o) → (∀ x, x < 8 → ai S' (R 7) x = 0 ∧ ai S' (R 8) x = 0) → ∃ n9, wq_X7_begin_58 n9 post R S' o 0) : ∀ (n k : Nat) (S : HS), k + n = 8 → RM S o R → rfm S0 S o R wfB wjB → (∀ f, fi S f o = fi S0 f o) → (∀ x, x < k → ai S (R 7) x = 0 ∧ ai S (R 8) x = 0) → wq_X7_begin_30 (n + 1) post R S o (nI k) := by
  intro n
  induction n with
  | zero =>
    intro k S hk hM g hf q
    have : k = 8 := by omega
    subst this
    exact ⟨fun _ => hp S hM g hf q, fun c => absurd (by decide) c⟩
  | succ n ih =>
    intro k S hk hM g hf q
    have hR := hM.inj
    refine ⟨fun c => absurd ((nI_leI (a := 8) (by omega) (by omega)).mp c) (by omega), fun _ => ⟨vp_in_nI (by omega) (by decide), vp_in_nI (by omega) (by decide), ?_⟩⟩
    rw [nI_clamp (by omega), nI_1]
    refine ih (k + 1) _ (by omega) hM.wai.wai ((g.tr (rfm.wai hM (by decide) rfl)).tr (rfm.wai hM.wai (by decide) rfl)) hf (fun x a => ?_)
    rw [ai_r hR _ (by decide) (by decide), ai_r hR _ (by decide) (by decide), ai_r hR _ (by decide) (by decide), ai_r hR _ (by decide) (by decide)]
    by_cases e : x = k
    · simp [e]
    · have := q x (by omega)
      simp [e, this]
theorem q_b58 {S0 : HS} {o : Nat} {R : Nat → Nat} {post : Int32 → HS → Prop} (hp : ∀ S', RM S' o R → rfm S0 S' o R wfB wjB → (∀ f, fi S' f o = fi S0 f o) → ai S' (R 7) = ai S0 (R 7) → ai S' (R 8) = ai S0 (R 8) → (∀ x, x < 64 → ai S' (R 6) x = 0) → ∃ n9, wq_X7_begin_79 n9 post R S' o 0) : ∀ (n k : Nat) (S : HS), k + n = 64 → RM S o R → rfm S0 S o R wfB wjB → (∀ f, fi S f o = fi S0 f o) → ai S (R 7) = ai S0 (R 7) → ai S (R 8) = ai S0 (R 8) → (∀ x, x < k → ai S (R 6) x = 0) → wq_X7_begin_58 (n + 1) post R S o (nI k) := by
  intro n
  induction n with
  | zero =>
    intro k S hk hM g hf h7 h8 q
    have : k = 64 := by omega
    subst this
    exact ⟨fun _ => hp S hM g hf h7 h8 q, fun c => absurd (by decide) c⟩
  | succ n ih =>
    intro k S hk hM g hf h7 h8 q
    have hR := hM.inj
    refine ⟨fun c => absurd ((nI_leI (a := 64) (by omega) (by omega)).mp c) (by omega), fun _ => ⟨vp_in_nI (by omega) (by decide), ?_⟩⟩
    rw [nI_clamp (by omega), nI_1]
    refine ih (k + 1) _ (by omega) hM.wai (g.tr (rfm.wai hM (by decide) rfl)) hf ((ai_ne _ _ _ _ (hM.ne (by decide) (by decide) (by decide))).trans h7) ((ai_ne _ _ _ _ (hM.ne (by decide) (by decide) (by decide))).trans h8) (fun x a => ?_)
    rw [ai_r hR _ (by decide) (by decide)]
    by_cases e : x = k
    · simp [e]
    · have := q x (by omega)
      simp [e, this]
theorem q_b79 {S0 : HS} {o : Nat} {R : Nat → Nat} {post : Int32 → HS → Prop} (hp : ∀ S', RM S' o R → rfm S0 S' o R wfB wjB → (∀ f, fi S' f o = fi S0 f o) → ai S' (R 7) = ai S0 (R 7) → ai S' (R 8) = ai S0 (R 8) → ai S' (R 6) = ai S0 (R 6) → (∀ x, x < 13 → ai S' (R 17) x = 0) → post 1 S') : ∀ (n k : Nat) (S : HS), k + n = 13 → RM S o R → rfm S0 S o R wfB wjB → (∀ f, fi S f o = fi S0 f o) → ai S (R 7) = ai S0 (R 7) → ai S (R 8) = ai S0 (R 8) → ai S (R 6) = ai S0 (R 6) → (∀ x, x < k → ai S (R 17) x = 0) → wq_X7_begin_79 (n + 1) post R S o (nI k) := by
  intro n
  induction n with
  | zero =>
    intro k S hk hM g hf h7 h8 h6 q
    have : k = 13 := by omega
    subst this
    exact ⟨fun _ => hp S hM g hf h7 h8 h6 q, fun c => absurd (by decide) c⟩
  | succ n ih =>
    intro k S hk hM g hf h7 h8 h6 q
    have hR := hM.inj
    refine ⟨fun c => absurd ((nI_leI (a := 13) (by omega) (by omega)).mp c) (by omega), fun _ => ⟨vp_in_nI (by omega) (by decide), ?_⟩⟩
    rw [nI_clamp (by omega), nI_1]
    refine ih (k + 1) _ (by omega) hM.wai (g.tr (rfm.wai hM (by decide) rfl)) hf ((ai_ne _ _ _ _ (hM.ne (by decide) (by decide) (by decide))).trans h7) ((ai_ne _ _ _ _ (hM.ne (by decide) (by decide) (by decide))).trans h8) ((ai_ne _ _ _ _ (hM.ne (by decide) (by decide) (by decide))).trans h6) (fun x a => ?_)
    rw [ai_r hR _ (by decide) (by decide)]
    by_cases e : x = k
    · simp [e]
    · have := q x (by omega)
      simp [e, this]
theorem q_begin {post : Int32 → HS → Prop} {S : HS} {o : Nat} {R : Nat → Nat} {T : TS} {n : Nat} (hM : RM S o R) (hT : RvT S o R T) (h2 : 2 ≤ n) (h8 : n ≤ 8) (hp : ∀ S', RV S' o R (t_begin T n) → post 1 S') : wq_X7_begin post R S o (nI n) := by
  refine ⟨fun c => absurd (lt_tI.mp c) ?_, fun _ => ⟨fun _ => ⟨9, ?_⟩, fun c => absurd ((nI_leI (b := 8) (by omega) (by omega)).mpr h8) c⟩⟩
  · rw [nI_tI (by omega)]
    have : (2 : Int32).toInt = 2 := rfl
    omega
  · generalize hS1 : sfi (sfi (sfi S 27 o (nI n)) 28 o 0) 47 o 0 = S1
    have M1 : RM S1 o R := by rw [← hS1]; exact hM
    have g1 : rfm S S1 o R wfB wjB := by
      rw [← hS1]
      exact ((rfm.wfi rfl).tr (rfm.wfi rfl)).tr (rfm.wfi rfl)
    have f27 : fi S1 27 o = nI n := by rw [← hS1, fi_ne _ _ _ _ (Or.inl (by decide)), fi_ne _ _ _ _ (Or.inl (by decide)), fi_self]
    have f28 : fi S1 28 o = 0 := by rw [← hS1, fi_ne _ _ _ _ (Or.inl (by decide)), fi_self]
    have f47 : fi S1 47 o = 0 := by rw [← hS1, fi_self]
    refine q_b30 (S0 := S1) (fun S2 M2 g2 hf2 z2 => ⟨65, ?_⟩) 8 0 S1 rfl M1 rfm.rf (fun _ => rfl) (fun x a => absurd a (by omega))
    refine q_b58 (S0 := S2) (fun S3 M3 g3 hf3 e7 e8 z3 => ⟨14, ?_⟩) 64 0 S2 rfl M2 rfm.rf (fun _ => rfl) rfl rfl (fun x a => absurd a (by omega))
    refine q_b79 (S0 := S3) (fun S4 M4 g4 hf4 e7' e8' e6' z4 => hp S4 ?_) 13 0 S3 rfl M3 rfm.rf (fun _ => rfl) rfl rfl rfl (fun x a => absurd a (by omega))
    have hf : ∀ f, fi S4 f o = fi S1 f o := fun f => (hf4 f).trans ((hf3 f).trans (hf2 f))
    refine ⟨M4, (hf 27).trans f27, ⟨(hf 28).trans f28, fun i s q => ?_⟩, fun e d he hd => ?_, fun e he => ?_, fun e he => ⟨?_, fun k κ q => ?_⟩, hT.fr (((g1.tr g2).tr g3).tr g4) rfl rfl rfl, ⟨(hf 47).trans f47, fun i f q => ?_⟩, fun k hk => z4 k hk⟩
    · exact absurd q (by show ¬ ([] : List Sta)[i]? = some s; simp)
    · rw [e6', z3 _ (by omega)]; rfl
    · rw [e7', e7, (z2 e he).1]; rfl
    · rw [e8', e8, (z2 e he).2]; rfl
    · exact absurd q (by show ¬ ([] : List Kn)[k]? = some κ; simp)
    · exact absurd q (by show ¬ ([] : List (List Nat × Nat))[i]? = some f; simp)
theorem v_begin {post : Int32 → HS → Prop} {S : HS} {o : Nat} {R : Nat → Nat} {T : TS} (h : RV S o R T) {x : Int32} (hp : ∀ S', RV S' o R (s_begin T x).2 → post (s_begin T x).1 S') : wq_X7_begin post R S o x := by
  cases hx : rg x 9 with
  | none =>
    simp only [s_begin, hx] at hp
    have hn := rg_no hx (by omega)
    refine ⟨fun _ => hp S h, fun c => ⟨fun c2 => ?_, fun _ => hp S h⟩⟩
    have a1 := le_tI.mp (Int32.not_lt.mp c)
    have a2 := le_tI.mp c2
    have e2 : (2 : Int32).toInt = 2 := rfl
    have e8 : (8 : Int32).toInt = 8 := rfl
    exfalso
    refine hn x.toInt.toNat (by omega) ?_
    apply Int32.toInt_inj.mp
    rw [nI_tI (by omega)]; omega
  | some n =>
    obtain ⟨h9, rfl⟩ := rg_lt hx
    by_cases h2 : 2 ≤ n
    · simp only [s_begin, hx, h2, if_true] at hp
      exact q_begin h.1 h.2.2.2.2.2.2.1 h2 (by omega) hp
    · simp only [s_begin, hx, h2, if_false] at hp
      refine ⟨fun _ => hp S h, fun c => absurd (lt_tI.mpr ?_) c⟩
      rw [nI_tI (by omega)]
      have e2 : (2 : Int32).toInt = 2 := rfl
      omega
theorem v_station {post : Int32 → HS → Prop} {S : HS} {o : Nat} {R : Nat → Nat} {T : TS} {N : Nat} (h : RV S o R T) (hT : OkT T N) {x y z : Int32} (hp : ∀ S', RV S' o R (s_station T x y z).2 → post (s_station T x y z).1 S') : wq_X7_station post R S o x y z := by
  have h32 := hT.2.1.1
  have h8 := hT.1.2
  refine q_isE' h hT (fun e he hl hx => ⟨fun c => absurd c n01, fun _ => ?_⟩) (fun he => ⟨fun _ => ?_, fun c => absurd rfl c⟩)
  · subst hx
    have e1 : (16777215 : Int32).toInt = 16777215 := rfl
    have e0 : (16777216 : Int32).toInt = 16777216 := rfl
    refine ⟨fun c => ?_, fun c => ⟨fun c2 => ?_, fun c2 => ?_⟩⟩
    · simp only [s_station, he, rg_neg c] at hp
      exact hp S h
    · have : (16777216 : Int32) ≤ y := le_tI.mpr (by have := lt_tI.mp c2; omega)
      simp only [s_station, he, rg_big (n := 16777216) (y := 16777216) (by omega) this] at hp
      exact hp S h
    · have : y < (16777216 : Int32) := lt_tI.mpr (by have := le_tI.mp (Int32.not_lt.mp c2); omega)
      obtain ⟨net, n1, n2, rfl⟩ := rg_yes (n := 16777216) (y := 16777216) (by omega) c this
      obtain ⟨f28, fS⟩ := h.2.2.1
      rw [f28]
      refine ⟨fun c3 => ?_, fun c3 => ?_⟩
      · have hlt : (tS T).length < 32 := by
          have : (tS T).length ≠ 32 := fun q => c3 (by rw [q]; rfl)
          omega
        simp only [s_station, he, n1, if_neg (by omega : ¬ (tS T).length = 32)] at hp
        have hin : vp_in (nI (tS T).length) 32 := vp_in_nI (by omega) (by decide)
        refine ⟨hin, hin, hin, hin, ?_⟩
        rw [nI_clamp (by omega), nI_1]
        refine hp _ ?_
        generalize hc : (tS T).length = c at *
        have hM := h.1
        have hR := hM.inj
        generalize hS1 : sfi S 28 o (nI (c + 1)) = S1
        have M1 : RM S1 o R := by rw [← hS1]; exact hM
        have hai : ai S1 = ai S := by rw [← hS1]; rfl
        have f28' : fi S1 28 o = nI (c + 1) := by rw [← hS1]; exact fi_self _ _ _ _
        have g1 : rfm S S1 o R (fun f => f == 28) (fun j => j == 0 || j == 1 || j == 2 || j == 3) := by rw [← hS1]; exact rfm.wfi rfl
        generalize hS2 : sai (sai (sai (sai S1 (R 0) c (nI e)) (R 1) c (nI net)) (R 2) c z) (R 3) c 0 = S2
        have M2 : RM S2 o R := by rw [← hS2]; exact M1
        have g : rfm S S2 o R (fun f => f == 28) (fun j => j == 0 || j == 1 || j == 2 || j == 3) := by
          rw [← hS2]
          exact (((g1.tr (rfm.wai M1 (by decide) rfl)).tr (rfm.wai M1.wai (by decide) rfl)).tr (rfm.wai M1.wai.wai (by decide) rfl)).tr (rfm.wai M1.wai.wai.wai (by decide) rfl)
        have a0 : ∀ i, ai S2 (R 0) i = if i = c then nI e else ai S (R 0) i := fun i => by
          rw [← hS2]; simp [ai_r hR, hai]
        have a1 : ∀ i, ai S2 (R 1) i = if i = c then nI net else ai S (R 1) i := fun i => by
          rw [← hS2]; simp [ai_r hR, hai]
        have a2 : ∀ i, ai S2 (R 2) i = if i = c then z else ai S (R 2) i := fun i => by
          rw [← hS2]; simp [ai_r hR, hai]
        have a3 : ∀ i, ai S2 (R 3) i = if i = c then 0 else ai S (R 3) i := fun i => by
          rw [← hS2]; simp [ai_r hR, hai]
        obtain ⟨-, h1, h2, h3, h4, h5, h6, h7, h8'⟩ := h
        refine ⟨M2, (g.1 27 rfl).trans h1, ⟨?_, fun i s hs => ?_⟩, h3.fr g rfl rfl, h4.fr g rfl rfl, h5.fr g rfl ⟨rfl, rfl, rfl, rfl, rfl⟩, h6.fr g rfl rfl rfl, h7.fr g rfl rfl ⟨rfl, rfl, rfl⟩, h8'.fr g rfl rfl⟩
        · rw [show fi S2 28 o = fi S1 28 o from by rw [← hS2]; rfl, f28']
          show _ = nI (tS T ++ [_]).length
          rw [List.length_append, hc]; rfl
        · have hs' : (tS T ++ [(e, net, 2199023255552 + z.toBitVec.toNat, 0, [])])[i]? = some s := hs
          rw [a0, a1, a2, a3, (g.2 4 (by decide) rfl).1, (g.2 5 (by decide) rfl).1]
          by_cases q : i = c
          · rw [if_pos q, if_pos q, if_pos q, if_pos q]
            rw [List.getElem?_append_right (by omega)] at hs'
            rw [q, hc, Nat.sub_self] at hs'
            cases hs'
            exact ⟨rfl, rfl, rfl, rfl, fun k b q => by simp at q⟩
          · rw [if_neg q, if_neg q, if_neg q, if_neg q]
            by_cases q2 : i < c
            · rw [List.getElem?_append_left (by omega)] at hs'
              exact fS i s hs'
            · rw [List.getElem?_eq_none (by rw [List.length_append]; simp; omega)] at hs'
              cases hs'
      · have : (tS T).length = 32 := (nI_eq (b := 32) (by omega) (by omega)).mp c3
        simp only [s_station, he, n1, this, if_true] at hp
        exact hp S h
  · simp only [s_station, he] at hp
    exact hp S h
theorem v_move {post : Int32 → HS → Prop} {S : HS} {o : Nat} {R : Nat → Nat} {T : TS} {N : Nat} (h : RV S o R T) (hT : OkT T N) {x y : Int32} (hp : ∀ S', RV S' o R (s_move T x y).2 → post (s_move T x y).1 S') : wq_X7_move post R S o x y := by
  have h32 := hT.2.1.1
  refine q_isS' h hT (fun i hi hl hx => ⟨fun c => absurd c n01, fun _ => ?_⟩) (fun hi => ⟨fun _ => ?_, fun c => absurd rfl c⟩)
  · refine q_isE' h hT (fun e he hl2 hy => ⟨fun _ => ?_, fun c => absurd c n01⟩) (fun he => ⟨fun c => absurd rfl c, fun _ => ?_⟩)
    · subst hx; subst hy
      refine ⟨vp_in_nI (by omega) (by decide), ?_⟩
      rw [nI_clamp (by omega)]
      simp only [s_move, hi, he] at hp
      refine hp _ ?_
      have hM := h.1
      have hR := hM.inj
      have g : rfm S (sai S (R 0) i (nI e)) o R (fun _ => false) (fun j => j == 0) := rfm.wai hM (by decide) rfl
      obtain ⟨-, h1, ⟨f28, fS⟩, h3, h4, h5, h6, h7, h8'⟩ := h
      refine ⟨hM.wai, h1, ⟨?_, fun k s hs => ?_⟩, h3.fr g rfl rfl, h4.fr g rfl rfl, h5.fr g rfl ⟨rfl, rfl, rfl, rfl, rfl⟩, h6.fr g rfl rfl rfl, h7.fr g rfl rfl ⟨rfl, rfl, rfl⟩, h8'.fr g rfl rfl⟩
      · show fi S 28 o = nI ((tS T).modify i _).length
        rw [List.length_modify]; exact f28
      · have hs' : ((tS T).modify i (fun s => (e, s.2)))[k]? = some s := hs
        rw [List.getElem?_modify] at hs'
        rw [(g.2 1 (by decide) rfl).1, (g.2 2 (by decide) rfl).1, (g.2 3 (by decide) rfl).1, (g.2 4 (by decide) rfl).1, (g.2 5 (by decide) rfl).1, ai_r hR _ (by decide) (by decide)]
        cases hk : (tS T)[k]? with
        | none => rw [hk] at hs'; cases hs'
        | some s0 =>
          rw [hk] at hs'
          have q := fS k s0 hk
          by_cases z : k = i
          · subst z
            have hs2 : some (if k = k then (e, s0.2) else s0) = some s := hs'
            rw [if_pos rfl] at hs2
            cases hs2
            rw [if_pos ⟨rfl, rfl⟩]
            exact ⟨rfl, q.2⟩
          · have hs2 : some (if i = k then (e, s0.2) else s0) = some s := hs'
            rw [if_neg (fun z' : i = k => z z'.symm)] at hs2
            cases hs2
            rw [if_neg (by omega)]
            exact q
    · simp only [s_move, hi, he] at hp
      exact hp S h
  · simp only [s_move, hi] at hp
    exact hp S h
theorem v_way {post : Int32 → HS → Prop} {S : HS} {o : Nat} {R : Nat → Nat} {T : TS} {N : Nat} (h : RV S o R T) (hT : OkT T N) {x y z : Int32} (hp : ∀ S', RV S' o R (s_way T x y z).2 → post (s_way T x y z).1 S') : wq_X7_way post R S o x y z := by
  have h8 := hT.1.2
  refine q_isE' h hT (fun e he hl hx => ⟨fun c => absurd c n01, fun _ => ?_⟩) (fun he => ⟨fun _ => ?_, fun c => absurd rfl c⟩)
  · refine q_isE' h hT (fun d hd hl2 hy => ⟨fun c => absurd c n01, fun _ => ?_⟩) (fun hd => ⟨fun _ => ?_, fun c => absurd rfl c⟩)
    · subst hx; subst hy
      have e2 : (2 : Int32).toInt = 2 := rfl
      have e3 : (3 : Int32).toInt = 3 := rfl
      refine ⟨fun c => ?_, fun c => ⟨fun c2 => ?_, fun c2 => ⟨fun c3 => ?_, fun c3 => ?_⟩⟩⟩
      · have q : e = d := (nI_eq (by omega) (by omega)).mp c
        have : s_way T (nI e) (nI d) z = (0, T) := by
          simp only [s_way, he, hd, q, if_true]
          cases rg z 3 <;> rfl
        rw [this] at hp
        exact hp S h
      · simp only [s_way, he, hd, rg_neg c2] at hp
        exact hp S h
      · have hq : ¬ e = d := fun q => c (by rw [q])
        obtain ⟨w, w1, w2, rfl⟩ := rg_yes (n := 3) (y := 3) (by omega) c2 (lt_tI.mpr (by have := le_tI.mp c3; omega))
        simp only [s_way, he, hd, w1, hq, if_false] at hp
        rw [nI_8, nI_add]
        refine ⟨vp_in_nI (by omega) (by decide), ?_⟩
        rw [nI_clamp (by omega)]
        refine hp _ ?_
        have hM := h.1
        have hR := hM.inj
        have g : rfm S (sai S (R 6) (8 * e + d) (nI w)) o R (fun _ => false) (fun j => j == 6) := rfm.wai hM (by decide) rfl
        obtain ⟨-, h1, h2, h3, h4, h5, h6, h7, h8'⟩ := h
        refine ⟨hM.wai, h1, h2.fr g rfl rfl ⟨rfl, rfl, rfl, rfl, rfl, rfl⟩, fun a b ha hb => ?_, h4.fr g rfl rfl, h5.fr g rfl ⟨rfl, rfl, rfl, rfl, rfl⟩, h6.fr g rfl rfl rfl, h7.fr g rfl rfl ⟨rfl, rfl, rfl⟩, h8'.fr g rfl rfl⟩
        rw [ai_r hR _ (by decide) (by decide)]
        show _ = nI (va_up (tW T) e (va_up (tW T e) d w) a b)
        unfold va_up
        by_cases q1 : a = e
        · by_cases q2 : b = d
          · rw [if_pos ⟨rfl, by rw [q1, q2]⟩, if_pos q1, if_pos q2]
          · rw [if_neg (by omega), if_pos q1, if_neg q2, ← q1]
            exact h3 a b ha hb
        · rw [if_neg (by omega), if_neg q1]
          exact h3 a b ha hb
      · simp only [s_way, he, hd, rg_big (x := z) (n := 3) (y := 3) (by omega) (le_tI.mpr (by have := lt_tI.mp (Int32.not_le.mp c3); omega))] at hp
        exact hp S h
    · simp only [s_way, he, hd] at hp
      exact hp S h
  · simp only [s_way, he] at hp
    exact hp S h
theorem v_feed {post : Int32 → HS → Prop} {S : HS} {o : Nat} {R : Nat → Nat} {T : TS} {N : Nat} (h : RV S o R T) (hT : OkT T N) {x : Int32} (hp : ∀ S', RV S' o R (s_feed T x).2 → post (s_feed T x).1 S') : wq_X7_feed post R S o x := by
  have h120 := hT.2.2.2.2.1.2
  have e2 : (255 : Int32).toInt = 255 := rfl
  have e3 : (256 : Int32).toInt = 256 := rfl
  obtain ⟨f43, fB⟩ := h.2.2.2.2.2.2.1
  refine ⟨fun c => ?_, fun c => ⟨fun c2 => ?_, fun c2 => ?_⟩⟩
  · simp only [s_feed, rg_neg c] at hp
    exact hp S h
  · simp only [s_feed, rg_big (x := x) (n := 256) (y := 256) (by omega) (le_tI.mpr (by have := lt_tI.mp c2; omega))] at hp
    exact hp S h
  · obtain ⟨b, b1, b2, rfl⟩ := rg_yes (n := 256) (y := 256) (by omega) c (lt_tI.mpr (by have := le_tI.mp (Int32.not_lt.mp c2); omega))
    rw [f43]
    refine ⟨fun c3 => ?_, fun c3 => ?_⟩
    · have hlt : ¬ (tT T).length = 120 := fun q => c3 (by rw [q]; rfl)
      simp only [s_feed, b1, hlt, if_false] at hp
      refine ⟨vp_in_nI (by omega) (by decide), ?_⟩
      rw [nI_clamp (by omega), fi_i, f43, nI_1]
      refine hp _ ?_
      have hM := h.1
      have hR := hM.inj
      generalize hc : (tT T).length = c at *
      generalize hv : (nI b).toInt8.toInt32.toInt8.toInt32 = v
      have hv2 : v &&& 255 = nI b := by rw [← hv, bp, bp, nI_b b2]
      have g : rfm S (sfi (sai S (R 13) c v) 43 o (nI (c + 1))) o R (fun f => f == 43) (fun j => j == 13) := (rfm.wai hM (by decide) rfl).tr (rfm.wfi rfl)
      obtain ⟨-, h1, h2, h3, h4, h5, h6, h7, h8'⟩ := h
      refine ⟨hM.wai, (g.1 27 rfl).trans h1, h2.fr g rfl rfl ⟨rfl, rfl, rfl, rfl, rfl, rfl⟩, h3.fr g rfl rfl, h4.fr g rfl rfl, h5.fr g rfl ⟨rfl, rfl, rfl, rfl, rfl⟩, ⟨?_, fun j hj => ?_⟩, h7.fr g rfl rfl ⟨rfl, rfl, rfl⟩, h8'.fr g rfl rfl⟩
      · rw [fi_self]
        show _ = nI (tT T ++ [b]).length
        rw [List.length_append, hc]; rfl
      · have hj' : j < (tT T ++ [b]).length := hj
        rw [List.length_append, hc] at hj'
        have hj2 : j < c + 1 := hj'
        rw [ai_f, ai_r hR _ (by decide) (by decide)]
        show _ = nI (gb (tT T ++ [b]) j)
        by_cases q : j = c
        · rw [if_pos ⟨rfl, by omega⟩, hv2, q, ← hc, gb_at]
        · rw [if_neg (by omega), gb_lt _ _ (by omega)]
          exact fB j (by omega)
    · have : (tT T).length = 120 := (nI_eq (b := 120) (by omega) (by omega)).mp c3
      simp only [s_feed, b1, this, if_true] at hp
      exact hp S h
theorem v_lose {post : Int32 → HS → Prop} {S : HS} {o : Nat} {R : Nat → Nat} {T : TS} {N : Nat} (h : RV S o R T) (hT : OkT T N) {x : Int32} (hp : ∀ S', RV S' o R (s_lose T x).2 → post (s_lose T x).1 S') : wq_X7_lose post R S o x := by
  refine q_isP' h hT (fun i hi hl hx => ⟨fun _ => ?_, fun c => absurd c n01⟩) (fun hi => ⟨fun c => absurd rfl c, fun _ => ?_⟩)
  · subst hx
    simp only [s_lose, hi] at hp
    refine q_drop h.1 h.2.2.2.2.2.2.2.1 ⟨hT.2.2.2.2.2.1, fun f hf => (hT.2.2.2.2.2.2 f hf).2.1⟩ hl (fun S' M' g hF => hp S' ?_)
    obtain ⟨-, h1, h2, h3, h4, h5, h6, h7, h8'⟩ := h
    exact ⟨M', (g.1 27 rfl).trans h1, h2.fr g rfl rfl ⟨rfl, rfl, rfl, rfl, rfl, rfl⟩, h3.fr g rfl rfl, h4.fr g rfl rfl, h5.fr g rfl ⟨rfl, rfl, rfl, rfl, rfl⟩, h6.fr g rfl rfl rfl, hF, h8'.fr g rfl rfl⟩
  · simp only [s_lose, hi] at hp
    exact hp S h
theorem and_xor255 (x y : Int32) : (x ^^^ y) &&& 255 = (x &&& 255) ^^^ (y &&& 255) := b_ext (fun i _ => by rw [b_and, b_xor, b_xor, b_and, b_and]; cases bt x i <;> cases bt y i <;> cases bt 255 i <;> rfl)
theorem v_poke {post : Int32 → HS → Prop} {S : HS} {o : Nat} {R : Nat → Nat} {T : TS} {N : Nat} (h : RV S o R T) (hT : OkT T N) {x y z : Int32} (hp : ∀ S', RV S' o R (s_poke T x y z).2 → post (s_poke T x y z).1 S') : wq_X7_poke post R S o x y z := by
  have h50 := hT.2.2.2.2.2.1
  refine q_isP' h hT (fun i hi hl hx => ⟨fun c => absurd c n01, fun _ => ?_⟩) (fun hi => ⟨fun _ => ?_, fun c => absurd rfl c⟩)
  · subst hx
    obtain ⟨f, hf⟩ := get_lt hl
    obtain ⟨f1, f2, f3⟩ := h.2.2.2.2.2.2.2.1.2 i f hf
    have hm := hT.2.2.2.2.2.2 f (List.mem_of_getElem? hf)
    refine ⟨fun c => ?_, fun c => ⟨vp_in_nI (by omega) (by decide), ?_⟩⟩
    · simp only [s_poke, hi, hf, rg_neg c] at hp
      exact hp S h
    · rw [nI_clamp (n := i) (by omega), f1]
      have hi2 := nI_tI (j := f.1.length) (by omega)
      refine ⟨fun c2 => ?_, fun c2 => ?_⟩
      · simp only [s_poke, hi, hf, rg_big (Int.le_of_eq hi2.symm) c2] at hp
        exact hp S h
      · obtain ⟨k, k1, k2, rfl⟩ := rg_yes (Int.le_of_eq hi2) c (Int32.not_le.mp c2)
        have e1 : (1 : Int32).toInt = 1 := rfl
        have e2 : (255 : Int32).toInt = 255 := rfl
        have e3 : (256 : Int32).toInt = 256 := rfl
        have e0 : (0 : Int32).toInt = 0 := rfl
        refine ⟨fun c3 => ?_, fun c3 => ⟨fun c4 => ?_, fun c4 => ?_⟩⟩
        · have : s_poke T (nI i) (nI k) z = (0, T) := by
            simp only [s_poke, hi, hf, k1]
            cases hz : rg z 256 with
            | none => rfl
            | some m =>
              obtain ⟨m1, rfl⟩ := rg_lt hz
              have q := lt_tI.mp c3
              rw [nI_tI (by omega)] at q
              show (if m = 0 then _ else _) = _
              rw [if_pos (by omega)]
          rw [this] at hp
          exact hp S h
        · obtain ⟨m, m1, m2, rfl⟩ := rg_yes (n := 256) (y := 256) (x := z) (by omega) (fun q => c3 (lt_tI.mpr (by have := lt_tI.mp q; omega))) (lt_tI.mpr (by have := le_tI.mp c4; omega))
          have m0 : ¬ m = 0 := fun q => c3 (by rw [q]; decide)
          simp only [s_poke, hi, hf, k1, m1, m0, if_false] at hp
          rw [nI_120, nI_add]
          refine ⟨vp_in_nI (by omega) (by decide), vp_in_nI (by omega) (by decide), ?_⟩
          rw [nI_clamp (by omega)]
          refine hp _ ?_
          have hM := h.1
          have hR := hM.inj
          generalize hv : ((ai S (R 14) (120 * i + k) ^^^ nI m).toInt8.toInt32).toInt8.toInt32 = v
          have hv2 : v &&& 255 = nI (gb f.1 k ^^^ m) := by rw [← hv, bp, bp, and_xor255, f3 k k2, nI_b m2, nx_xor]
          have g : rfm S (sai S (R 14) (120 * i + k) v) o R (fun _ => false) (fun j => j == 14) := rfm.wai hM (by decide) rfl
          obtain ⟨-, h1, h2, h3, h4, h5, h6, ⟨h7a, h7b⟩, h8'⟩ := h
          refine ⟨hM.wai, h1, h2.fr g rfl rfl ⟨rfl, rfl, rfl, rfl, rfl, rfl⟩, h3.fr g rfl rfl, h4.fr g rfl rfl, h5.fr g rfl ⟨rfl, rfl, rfl, rfl, rfl⟩, h6.fr g rfl rfl rfl, ⟨?_, fun a u hu => ?_⟩, h8'.fr g rfl rfl⟩
          · show _ = nI ((tF T).set i _).length
            rw [List.length_set]; exact h7a
          · have hu' : ((tF T).set i (f.1.set k (gb f.1 k ^^^ m), f.2))[a]? = some u := hu
            rw [(g.2 15 (by decide) rfl).1, (g.2 16 (by decide) rfl).1]
            by_cases q : i = a
            · subst q
              rw [List.getElem?_set_self hl] at hu'
              cases hu'
              refine ⟨by rw [List.length_set]; exact f1, f2, fun j hj => ?_⟩
              rw [List.length_set] at hj
              rw [ai_r hR _ (by decide) (by decide), gb_set k2]
              by_cases q2 : j = k
              · rw [if_pos ⟨rfl, by rw [q2]⟩, if_pos q2]; exact hv2
              · rw [if_neg (by omega), if_neg q2]; exact f3 j hj
            · rw [List.getElem?_set_ne q] at hu'
              obtain ⟨z1, z2, z3⟩ := h7b a u hu'
              have hul := (hT.2.2.2.2.2.2 u (List.mem_of_getElem? hu')).2.1
              refine ⟨z1, z2, fun j hj => ?_⟩
              rw [ai_r hR _ (by decide) (by decide), if_neg (by omega)]
              exact z3 j hj
        · have : s_poke T (nI i) (nI k) z = (0, T) := by
            simp only [s_poke, hi, hf, k1, rg_big (x := z) (n := 256) (y := 256) (by omega) (le_tI.mpr (by have := lt_tI.mp (Int32.not_le.mp c4); omega))]
          rw [this] at hp
          exact hp S h
  · simp only [s_poke, hi] at hp
    exact hp S h
