/-! ===== send, in the reference ===== -/
theorem gb_be (w : Nat) : ∀ k i, i < k → gb (be w k) i = w / 256 ^ (k - 1 - i) % 256
  | 0, i, h => absurd h (Nat.not_lt_zero i)
  | k + 1, 0, _ => by show gb (_ :: be w k) 0 = _; simp [gb]
  | k + 1, i + 1, h => by
    show gb (_ :: be w k) (i + 1) = _
    have : gb (w / 256 ^ k % 256 :: be w k) (i + 1) = gb (be w k) i := by simp [gb]
    rw [this, gb_be w k i (by omega)]
    congr 3
    omega
theorem mac_or (x : Int32) : (2199023255552 : Int64) ||| (x.toInt64 &&& 4294967295) = lN (2199023255552 + x.toBitVec.toNat) := by
  have hx := x.toBitVec.isLt
  have h1 : x.toInt64 &&& 4294967295 = lN x.toBitVec.toNat := by
    apply uN_inj
    rw [uN_lo]
    have e1 : uN x.toInt64 % 4294967296 = x.toBitVec.toNat := by
      show (x.toInt64).toBitVec.toNat % 4294967296 = _
      rw [Int32.toBitVec_toInt64]
      rw [BitVec.toNat_signExtend, BitVec.toNat_setWidth]
      split <;> omega
    rw [e1]
    show _ = (lN _).toBitVec.toNat
    rw [lN_nat (by omega)]
  rw [h1]
  have := g_or (k := 32) (p := 4294967296) (a := x.toBitVec.toNat) (b := 512) (by decide) hx (by omega)
  exact this
theorem sh40 : ∀ j, j < 6 → ((((40 : Int32) - nI (8 * j)).toInt64 &&& 63).toBitVec.smod 64).toNat = 40 - 8 * j := by decide +kernel
theorem sh40a : ∀ j, j < 6 → ¬ ((40 : Int32) - nI (8 * j)) < 0 ∧ ((40 : Int32) - nI (8 * j)) + (-8) = 40 - nI (8 * (j + 1)) := by decide +kernel
theorem byte_s {w j : Nat} (hw : w < 281474976710656) (hj : j < 6) : (((lN w >>> (((40 : Int32) - nI (8 * j)).toInt64 &&& 63)).toInt32).toInt8.toInt32).toInt8.toInt32 &&& 255 = nI (gb (be w 6) j) := by
  rw [bp, bp, pf_shr (sh40 j hj) (by omega), lN_i, nI_255, gb_be w 6 j hj]
  congr 3
  have : (256 : Nat) ^ (6 - 1 - j) = 2 ^ (40 - 8 * j) := by
    rw [show (256 : Nat) = 2 ^ 8 from rfl, ← Nat.pow_mul]
    congr 1; omega
  rw [this]
/-- the frame's first bytes -/
def Fb (S : HS) (R : Nat → Nat) (f k : Nat) (w : List Nat) : Prop := ∀ i, i < k → ai S (R 19) (f + i) &&& 255 = nI (gb w i)
def wfs : Nat → Bool := fun f => f == 52
def wjs : Nat → Bool := fun j => j == 19
theorem q_87 {post : Int32 → HS → Prop} {S0 : HS} {o : Nat} {R : Nat → Nat} {dst src : Nat} {x1 x4 x5 x6 : Int32} (hd : dst < 281474976710656) (hs : src < 281474976710656) (hp : ∀ S, RM S o R → rfm S0 S o R wfs wjs → Fb S R 0 6 (be dst 6) → Fb S R 6 6 (be src 6) → wq_X7_send_87 1 post R S o x1 (lN dst) x4 x5 x6 (lN src) (40 - nI 48)) : ∀ (n j : Nat) (S : HS), j + n = 6 → RM S o R → rfm S0 S o R wfs wjs → fi S 52 o = nI j → Fb S R 0 j (be dst 6) → Fb S R 6 j (be src 6) → wq_X7_send_87 (n + 1) post R S o x1 (lN dst) x4 x5 x6 (lN src) (40 - nI (8 * j)) := by
  intro n
  induction n with
  | zero =>
    intro j S hj hM g f52 q1 q2
    have : j = 6 := by omega
    subst this
    exact hp S hM g q1 q2
  | succ n ih =>
    intro j S hj hM g f52 q1 q2
    have hR := hM.inj
    obtain ⟨a1, a2⟩ := sh40a j (by omega)
    have b1 := byte_s (j := j) hd (by omega)
    have b2 := byte_s (j := j) hs (by omega)
    refine ⟨fun c => absurd c a1, fun _ => ?_⟩
    rw [a2]
    generalize hv1 : (((lN dst >>> (((40 : Int32) - nI (8 * j)).toInt64 &&& 63)).toInt32).toInt8.toInt32).toInt8.toInt32 = v1 at *
    generalize hv2 : (((lN src >>> (((40 : Int32) - nI (8 * j)).toInt64 &&& 63)).toInt32).toInt8.toInt32).toInt8.toInt32 = v2 at *
    simp only [fi_i, f52]
    have e6 : nI j + 6 = nI (j + 6) := nI_add j 6
    rw [e6, nI_1]
    refine ⟨vp_in_nI (by omega) (by decide), vp_in_nI (by omega) (by decide), ?_⟩
    rw [nI_clamp (by omega), nI_clamp (by omega)]
    refine ih (j + 1) _ (by omega) hM.wai.wai.wfi (((g.tr (rfm.wai hM (by decide) rfl)).tr (rfm.wai hM.wai (by decide) rfl)).tr (rfm.wfi rfl)) (fi_self _ _ _ _) (fun i hi => ?_) (fun i hi => ?_)
    · rw [ai_f, ai_r hR _ (by decide) (by decide), if_neg (by omega), ai_r hR _ (by decide) (by decide)]
      by_cases z : i = j
      · rw [if_pos ⟨rfl, by omega⟩, z]; exact b1
      · rw [if_neg (by omega)]; exact q1 i (by omega)
    · rw [ai_f, ai_r hR _ (by decide) (by decide)]
      by_cases z : i = j
      · rw [if_pos ⟨rfl, by omega⟩, z]; exact b2
      · rw [if_neg (by omega), ai_r hR _ (by decide) (by decide), if_neg (by omega)]; exact q2 i (by omega)
theorem frm_len (dst src ty : Nat) (t : List Nat) : (frmOf dst src ty t).length = 14 + t.length := by simp [frmOf, be_len]; omega
theorem frm_by {dst src ty : Nat} {t : List Nat} (h : By t) : By (frmOf dst src ty t) := (((be_by _ _).app (be_by _ _)).app (be_by _ _)).app h
theorem gb_l {a b : List Nat} {n i : Nat} (hn : a.length = n) (h : i < n) : gb (a ++ b) i = gb a i := gb_lt a b (by omega)
theorem gb_g {a b : List Nat} {n i : Nat} (hn : a.length = n) : gb (a ++ b) (n + i) = gb b i := by rw [← hn]; exact gb_ge a b i
theorem q_174 {post : Int32 → HS → Prop} {S0 : HS} {o : Nat} {R : Nat → Nat} {dst src ty : Nat} {t : List Nat} {x1 x5 x6 : Int32} {y2 y7 : Int64} (h40 : t.length ≤ 40) (hf0 : fi S0 43 o = nI t.length) (hB0 : RvB S0 (R 13) 0 t) (hp : ∀ S, RM S o R → rfm S0 S o R wfs wjs → fi S 52 o = nI (14 + t.length) → RvB S (R 19) 0 (frmOf dst src ty t) → wq_X7_send_174 1 post R S o x1 y2 x5 x6 y7 (nI t.length)) : ∀ (n k : Nat) (S : HS), k + n = t.length → RM S o R → rfm S0 S o R wfs wjs → fi S 52 o = nI (14 + k) → Fb S R 0 (14 + k) (frmOf dst src ty t) → wq_X7_send_174 (n + 1) post R S o x1 y2 x5 x6 y7 (nI k) := by
  intro n
  induction n with
  | zero =>
    intro k S hk hM g f52 q
    have : k = t.length := by omega
    subst this
    exact hp S hM g f52 (fun j hj => q j (by rw [frm_len] at hj; exact hj))
  | succ n ih =>
    intro k S hk hM g f52 q
    have hR := hM.inj
    refine ⟨fun c => ?_, fun _ => ?_⟩
    · rw [g.1 43 rfl, hf0] at c
      exact absurd ((nI_leI (by omega) (by omega)).mp c) (by omega)
    · simp only [fi_i, f52]
      rw [nI_1, nI_1]
      refine ⟨vp_in_nI (by omega) (by decide), vp_in_nI (by omega) (by decide), ?_⟩
      rw [nI_clamp (by omega), nI_clamp (by omega)]
      refine ih (k + 1) _ (by omega) hM.wai.wfi ((g.tr (rfm.wai hM (by decide) rfl)).tr (rfm.wfi rfl)) (fi_self _ _ _ _) (fun i hi => ?_)
      rw [ai_f, ai_r hR _ (by decide) (by decide)]
      by_cases z : i = 14 + k
      · rw [if_pos ⟨rfl, by omega⟩, bp, (g.2 13 (by decide) rfl).1, z]
        have := hB0 k (by omega)
        rw [Nat.zero_add] at this
        rw [this]
        unfold frmOf
        rw [gb_g (n := 14) (by simp [be_len])]
      · rw [if_neg (by omega)]; exact q i (by omega)
/-! to all other endpoints -/
theorem t_all_has (T : TS) (e net : Nat) (but : Option Nat) (b : List Nat) (a n : Nat) : t_has (t_all T e net but b) a n = t_has T a n := by
  unfold t_has t_all
  show ((tS T).mapIdx _).any _ = _
  rw [Bool.eq_iff_iff, List.any_eq_true, List.any_eq_true]
  constructor
  · rintro ⟨s, hs, h⟩
    obtain ⟨i, hi, rfl⟩ := List.mem_mapIdx.mp hs
    refine ⟨(tS T)[i], List.getElem_mem hi, ?_⟩
    split at h
    · exact h
    · exact h
  · rintro ⟨s, hs, h⟩
    obtain ⟨i, hi, rfl⟩ := List.mem_iff_getElem.mp hs
    refine ⟨_, List.mem_mapIdx.mpr ⟨i, hi, rfl⟩, ?_⟩
    split
    · exact h
    · exact h
theorem t_goAll_N (T : TS) (e net : Nat) (b : List Nat) : ∀ j, tN (t_goAll T e net b j) = tN T ∧ tS (t_goAll T e net b j) = tS T ∧ tC (t_goAll T e net b j) 0 = tC T 0 + t_goN T e net j
  | 0 => ⟨rfl, rfl, rfl⟩
  | j + 1 => by
    obtain ⟨a1, a2, a3⟩ := t_goAll_N T e net b j
    unfold t_goAll t_goN
    split
    · obtain ⟨g1, g2, -, -, g5, -⟩ := t_go_N (t_goAll T e net b j) e j net b
      exact ⟨g1.trans a1, g2.trans a2, by rw [g5, a3]; omega⟩
    · exact ⟨a1, a2, a3⟩
theorem OkT.goAll {T : TS} {N e net : Nat} {b : List Nat} (h : OkT T N) (hb : By b) (hl : b.length ≤ 54) : ∀ j, j ≤ tN T → OkT (t_goAll T e net b j) N
  | 0, _ => h
  | j + 1, hj => by
    have ih := h.goAll hb hl j (by omega) (e := e) (net := net)
    unfold t_goAll
    split
    · exact ih.go (by rw [(t_goAll_N T e net b j).1]; omega) hb hl
    · exact ih
theorem q_280 {post : Int32 → HS → Prop} {o : Nat} {R : Nat → Nat} {TA : TS} {N e net : Nat} {b : List Nat} {x10 : Int32} (hTA : OkT TA N) (he : e < 8) (hnet : net < 16777216) (hb : By b) (h54 : b.length ≤ 54) (h12 : 12 ≤ b.length) (hp : ∀ S, RV S o R (t_goAll TA e net b (tN TA)) → post (nI (tC TA 0 + t_goN TA e net (tN TA)) - x10) S) : ∀ (n j : Nat) (S : HS), j + n = tN TA → RV S o R (t_goAll TA e net b j) → fi S 52 o = nI b.length → RvB S (R 19) 0 b → wq_X7_send_280 (n + 1) post R S o (nI e) (nI net) x10 (nI j) := by
  have h8 := hTA.1.2
  intro n
  induction n with
  | zero =>
    intro j S hj h f52 hB
    have : j = tN TA := by omega
    subst this
    obtain ⟨a1, a2, a3⟩ := t_goAll_N TA e net b (tN TA)
    refine ⟨fun _ => ⟨vp_in_nI (n := 0) (by omega) (by decide), ?_⟩, fun c => absurd ?_ c⟩
    · have c0 : (0 : Int32).toNatClampNeg = 0 := by decide
      rw [c0, h.2.2.2.2.2.2.2.2 0 (by omega), a3]
      exact hp S h
    · rw [h.2.1, a1]; exact (nI_leI (by omega) (by omega)).mpr (Nat.le_refl _)
  | succ n ih =>
    intro j S hj h f52 hB
    obtain ⟨a1, a2, a3⟩ := t_goAll_N TA e net b j
    have hO : OkT (t_goAll TA e net b j) N := hTA.goAll hb h54 j (by omega)
    have hh : t_has (t_goAll TA e net b j) j net = t_has TA j net := by unfold t_has; rw [a2]
    have skip : ¬ (j ≠ e ∧ t_has TA j net = true) → wq_X7_send_280 (n + 1) post R S o (nI e) (nI net) x10 (nI j + 1) := fun q => by
      rw [nI_1]
      refine ih (j + 1) S (by omega) ?_ f52 hB
      unfold t_goAll
      rw [if_neg q]; exact h
    refine ⟨fun c => ?_, fun _ => ⟨fun c => skip ?_, fun c => ?_⟩⟩
    · rw [h.2.1, a1] at c
      exact absurd ((nI_leI (by omega) (by omega)).mp c) (by omega)
    · have : j = e := (nI_eq (by omega) (by omega)).mp c
      rintro ⟨q, -⟩
      exact q this
    · have hje : j ≠ e := fun q => c (by rw [q])
      refine q_has h hO (by omega) hnet ?_
      rw [hh]
      cases hq : t_has TA j net with
      | false =>
        refine ⟨fun _ => skip ?_, fun c => absurd rfl c⟩
        rintro ⟨-, q⟩
        rw [hq] at q; cases q
      | true =>
        refine ⟨fun c => absurd c n01, fun _ => ?_⟩
        refine q_goes h hO he (by omega) hnet hb h54 h12 f52 hB (fun S1 h1 g1 => ?_)
        rw [nI_1]
        refine ih (j + 1) S1 (by omega) ?_ ((g1.1 52 rfl).trans f52) (fun i hi => by rw [(g1.2 19 (by decide) rfl).1]; exact hB i hi)
        unfold t_goAll
        rw [if_pos ⟨hje, hq⟩]; exact h1
theorem t_goN_eq {T T' : TS} {e net : Nat} (h : ∀ a, t_has T' a net = t_has T a net) : ∀ j, t_goN T' e net j = t_goN T e net j
  | 0 => rfl
  | j + 1 => by unfold t_goN; rw [h, t_goN_eq h j]
theorem nI_asub (a b : Nat) : nI (a + b) - nI a = nI b := by rw [nI_sub (by omega)]; congr 1; omega
theorem q_sent {post : Int32 → HS → Prop} {S : HS} {o : Nat} {R : Nat → Nat} {T : TS} {N st dst ty : Nat} {s : Sta} (h : RV S o R T) (hT : OkT T N) (hs : (tS T)[st]? = some s) (hd : dst < 281474976710656) (h40 : (tT T).length ≤ 40) (f52 : fi S 52 o = nI (14 + (tT T).length)) (hB : RvB S (R 19) 0 (frmOf dst s.2.2.1 ty (tT T))) (hp : ∀ S', RV S' o R (t_send T st dst ty s).2 → post (nI (t_send T st dst ty s).1) S') : wq_X7_send_174 1 post R S o (nI st) (lN dst) (nI s.1) (nI s.2.1) (lN s.2.2.1) (nI (tT T).length) := by
  have h8 := hT.1.2
  have h32 := hT.2.1.1
  have hsl := (List.getElem?_eq_some_iff.mp hs).1
  obtain ⟨m1, m2, m3, m4, m5⟩ := hT.2.1.2 s (List.mem_of_getElem? hs)
  obtain ⟨t1, t2⟩ := hT.2.2.2.2.1
  refine ⟨fun _ => ?_, fun c => absurd (by rw [h.2.2.2.2.2.2.1.1]; exact (nI_leI (by omega) (by omega)).mpr (Nat.le_refl _)) c⟩
  have h1 : RV (sfi S 43 o 0) o R (uT T []) := by
    have g : rfm S (sfi S 43 o 0) o R (fun f => f == 43) (fun _ => false) := rfm.wfi rfl
    obtain ⟨k0, k1, k2, k3, k4, k5, k6, k7, k8⟩ := h
    exact ⟨k0.wfi, (g.1 27 rfl).trans k1, k2.fr g rfl rfl ⟨rfl, rfl, rfl, rfl, rfl, rfl⟩, k3.fr g rfl rfl, k4.fr g rfl rfl, k5.fr g rfl ⟨rfl, rfl, rfl, rfl, rfl⟩, ⟨fi_self _ _ _ _, fun j hj => absurd hj (Nat.not_lt_zero j)⟩, k7.fr g rfl rfl ⟨rfl, rfl, rfl⟩, k8.fr g rfl rfl⟩
  have hT1 : OkT (uT T []) N := hT.t By.nil (Nat.zero_le _)
  refine q_learn (pl := Sum.inl st) h1 hT1 (by omega) m2 m3 (show st < 32 by omega) (fun S2 h2 g2 => ?_)
  have hT2 : OkT (t_learn (uT T []) s.1 s.2.1 s.2.2.1 (Sum.inl st)) N := hT1.learn m1 ⟨m2, m3, Nat.zero_le _, hsl⟩
  obtain ⟨n1, n2, n3, n4, n5, n6⟩ := t_learn_N (uT T []) s.1 s.2.1 s.2.2.1 (Sum.inl st)
  generalize hTT : t_learn (uT T []) s.1 s.2.1 s.2.2.1 (Sum.inl st) = T2 at *
  generalize hbb : frmOf dst s.2.2.1 ty (tT T) = b at *
  have hbl : b.length = 14 + (tT T).length := by rw [← hbb, frm_len]
  have hb : By b := by rw [← hbb]; exact frm_by t1
  have a19 : ai S2 (R 19) = ai S (R 19) := (g2.2 19 (by decide) rfl).1
  have hB2 : RvB S2 (R 19) 0 b := fun j hj => by rw [a19]; exact hB j hj
  have hf2 : fi S2 52 o = nI b.length := by rw [g2.1 52 rfl, fi_ne _ _ _ _ (Or.inl (by decide)), f52, hbl]
  have c0 : (0 : Int32).toNatClampNeg = 0 := by decide
  have b0 : ai S2 (R 19) 0 &&& 255 = nI (gb b 0) := hB2 0 (by omega)
  have hin0 : vp_in (0 : Int32) 120 := vp_in_nI (n := 0) (by omega) (by decide)
  have hin1 : vp_in (0 : Int32) 13 := vp_in_nI (n := 0) (by omega) (by decide)
  have hnb : nb b 0 6 = dst := by
    rw [← hbb]
    have e : ∀ i, i < 6 → gb (frmOf dst s.2.2.1 ty (tT T)) i = dst / 256 ^ (5 - i) % 256 := fun i hi => by
      unfold frmOf
      rw [List.append_assoc, List.append_assoc, gb_l (be_len _ _) hi, gb_be dst 6 i hi]
    simp only [nb, Nat.zero_add]
    rw [e 0 (by omega), e 1 (by omega), e 2 (by omega), e 3 (by omega), e 4 (by omega), e 5 (by omega)]
    simp only [Nat.sub_zero, Nat.reduceSub, Nat.reducePow]
    omega
  have hts : t_send T st dst ty s = (match whr (tK T2 s.1) s.2.1 dst with
      | none => (t_goN T2 s.1 s.2.1 (tN T), t_goAll (t_all T2 s.1 s.2.1 (some st) b) s.1 s.2.1 b (tN T))
      | some (Sum.inr e) => (1, t_go T2 s.1 e s.2.1 b)
      | some (Sum.inl k) => (0, if k = st then T2 else t_one T2 s.1 k b)) := by
    unfold t_send
    rw [hTT, hbb]
    rfl
  have C2 := h2.2.2.2.2.2.2.2.2 0 (by omega)
  have hall : whr (tK T2 s.1) s.2.1 dst = none → wq_X7_comesToAll (fun _ S30 => ∃ n9, wq_X7_send_280 n9 post R S30 o (nI s.1) (nI s.2.1) (ai S2 (R 17) 0) (0 : Int32)) R S2 o (nI s.1) (nI s.2.1) (nI st) := fun q => by
    rw [hts, q] at hp
    refine q_all (but := some st) h2 hT2 (by omega) m2 (fun k z => by cases z; omega) hb (by omega) hf2 hB2 (fun S3 h3 g3 => ⟨tN T + 1, ?_⟩)
    rw [C2]
    have hTA : OkT (t_all T2 s.1 s.2.1 (some st) b) (N + 1) := hT2.all hb (by omega)
    have eN : tN (t_all T2 s.1 s.2.1 (some st) b) = tN T := n1
    refine q_280 hTA (by omega) m2 hb (by omega) (by omega) (fun S4 h4 => ?_) (tN T) 0 S3 (by rw [eN]; omega) h3 ((g3.1 52 rfl).trans hf2) (fun i hi => by rw [(g3.2 19 (by decide) rfl).1]; exact hB2 i hi)
    rw [eN] at h4 ⊢
    have eC : tC (t_all T2 s.1 s.2.1 (some st) b) 0 = tC T2 0 := rfl
    rw [eC, nI_asub, t_goN_eq (fun a => t_all_has T2 s.1 s.2.1 (some st) b a s.2.1)]
    exact hp S4 h4
  have hg0 : (ai S2 (R 19) 0 &&& 1 = 1) → isGrp dst = true := fun c => by
    rw [← hnb, grp_top hb]; simp [(and1 (hb 0) b0).mp c]
  have hg1 : ¬ (ai S2 (R 19) 0 &&& 1 = 1) → isGrp dst = false := fun c => by
    rw [← hnb, grp_top hb]
    have : ¬ gb b 0 % 2 = 1 := fun q => c ((and1 (hb 0) b0).mpr q)
    simp [this]
  rw [c0]
  refine q_find h2 hT2 (by omega) m2 hd (fun k hk1 hk2 => ⟨hin1, hin0, fun c2 => hall ?_, fun c2 => ⟨fun _ => ?_, fun c => absurd c ?_⟩⟩) (fun hk0 => ⟨hin1, hin0, fun c2 => hall ?_, fun c2 => ⟨fun c => absurd rfl c, fun _ => hall ?_⟩⟩)
  · unfold whr; rw [hg0 c2]; rfl
  · obtain ⟨κ, hκ⟩ := get_lt hk2
    have h24 := (hT2.2.2.1 s.1 (by omega)).1
    have hin : vp_in (nI (24 * s.1 + k)) 192 := vp_in_nI (by omega) (by decide)
    have hm := (hT2.2.2.1 s.1 (by omega)).2.1 κ (List.mem_of_getElem? hκ)
    have hpl := hm.pl hT2.1.2 hT2.2.1.1
    have gpl := ((h2.2.2.2.2.2.1 s.1 (by omega)).2 k κ hκ).2.2.1
    have hw : whr (tK T2 s.1) s.2.1 dst = some κ.2.2.1 := by
      unfold whr; rw [hg1 c2, hk1]
      show some (kPl (tK T2 s.1) k) = _
      rw [kPl_at hκ]
    rw [hw] at hts
    rw [nI_clamp (n := 24 * s.1 + k) (by omega), gpl, C2]
    refine ⟨hin, ?_⟩
    rcases plc_neg hpl with ⟨d, q1, q2, q3, q4⟩ | ⟨v, q1, q2, q3, q4⟩
    · refine ⟨fun _ => ⟨hin, ?_⟩, fun c => absurd (Int32.not_le.mp q3) c⟩
      rw [q4]
      rw [q1] at hts
      rw [hts] at hp
      refine q_goes h2 hT2 (by omega) q2 m2 hb (by omega) (by omega) hf2 hB2 (fun S3 h3 g3 => ⟨hin1, ?_⟩)
      rw [h3.2.2.2.2.2.2.2.2 0 (by omega), (t_go_N T2 s.1 d s.2.1 b).2.2.2.2.1, nI_asub]
      exact hp S3 h3
    · refine ⟨fun c => absurd c (Int32.not_lt.mpr q3), fun _ => ⟨hin, ?_⟩⟩
      rw [q4, nI_clamp (n := v) (by omega)]
      rw [q1] at hts
      rw [hts] at hp
      have hvl : v < (tS T2).length := by have := hm.2.2.2; rw [q1] at this; exact this
      obtain ⟨sv, hsv⟩ := get_lt hvl
      have hm1 := (hT2.2.1.2 sv (List.mem_of_getElem? hsv)).1
      have h18 := hT2.1.2
      refine ⟨fun c => ⟨hin1, ?_⟩, fun c => ⟨hin, ?_, ?_⟩⟩
      · have : v = st := (nI_eq (by omega) (by omega)).mp c
        have hp' : ∀ S', RV S' o R (if v = st then T2 else t_one T2 s.1 v b) → post 0 S' := hp
        rw [if_pos this] at hp'
        rw [Int32.sub_self]
        exact hp' S2 h2
      · exact vp_in_nI (by omega) (by decide)
      · have hne : ¬ v = st := fun q => c (by rw [q])
        have hp' : ∀ S', RV S' o R (if v = st then T2 else t_one T2 s.1 v b) → post 0 S' := hp
        rw [if_neg hne] at hp'
        rw [((h2.2.2.1).2 v sv hsv).1]
        refine ⟨fun c3 => ⟨hin1, ?_⟩, fun c3 => ⟨hin, ?_⟩⟩
        · have ne : ¬ sv.1 = s.1 := fun q => c3 (by rw [q])
          have : t_one T2 s.1 v b = T2 := by simp only [t_one, hsv, ne, if_false]
          rw [this] at hp'
          rw [Int32.sub_self]
          exact hp' S2 h2
        · have eq : sv.1 = s.1 := (nI_eq (by omega) (by omega)).mp c3
          have : t_one T2 s.1 v b = uS T2 ((tS T2).set v (come b sv)) := by simp only [t_one, hsv, eq, if_true]
          rw [this] at hp'
          refine q_come h2 hT2.2.1 hsv (by omega) hf2 hB2 (fun S3 h3 _ => ⟨hin1, ?_⟩)
          rw [h3.2.2.2.2.2.2.2.2 0 (by omega), show tC (uS T2 ((tS T2).set v (come b sv))) 0 = tC T2 0 from rfl, Int32.sub_self]
          exact hp' S3 h3
  · have h24 := (hT2.2.2.1 s.1 (by omega)).1
    intro q
    have := nI_pos (n := 24 * s.1 + k) (by omega)
    rw [q] at this
    exact this (by decide)
  · unfold whr; rw [hg0 c2]; rfl
  · unfold whr; rw [hg1 c2, hk0]; rfl
theorem v_send {post : Int32 → HS → Prop} {S : HS} {o : Nat} {R : Nat → Nat} {T : TS} {N : Nat} (h : RV S o R T) (hT : OkT T N) {x z : Int32} {w : Int64} (hp : ∀ S', RV S' o R (s_send T x w z).2 → post (s_send T x w z).1 S') : wq_X7_send post R S o x w z := by
  have h32 := hT.2.1.1
  obtain ⟨t1, t2⟩ := hT.2.2.2.2.1
  refine q_isS' h hT (fun st hi hl hx => ⟨fun c => absurd c n01, fun _ => ?_⟩) (fun hi => ⟨fun _ => ?_, fun c => absurd rfl c⟩)
  · subst hx
    obtain ⟨s, hs⟩ := get_lt hl
    obtain ⟨m1, m2, m3, m4, m5⟩ := hT.2.1.2 s (List.mem_of_getElem? hs)
    have w0 : (0 : Int64).toInt = 0 := rfl
    have w1 : (281474976710656 : Int64).toInt = 281474976710656 := rfl
    have e1 : (65535 : Int32).toInt = 65535 := rfl
    have e2 : (65536 : Int32).toInt = 65536 := rfl
    have now : rl w 281474976710656 = none → post (-1) S := fun q => by
      simp only [s_send, hi, q] at hp
      exact hp S h
    rw [lg_cmp_lt, lg_cmp_ge]
    refine ⟨fun c => now ?_, fun c => ⟨fun c2 => now ?_, fun c2 => ?_⟩⟩
    · unfold rl
      rw [if_neg]
      rintro ⟨q, -⟩
      have := Int64.lt_iff_toInt_lt.mp c
      omega
    · unfold rl
      rw [if_neg]
      rintro ⟨-, q⟩
      have := Int64.le_iff_toInt_le.mp c2
      omega
    · have hw : ∃ dst, rl w 281474976710656 = some dst := by
        unfold rl
        rw [if_pos]
        · exact ⟨_, rfl⟩
        · have a1 : ¬ w.toInt < (0 : Int64).toInt := fun q => c (Int64.lt_iff_toInt_lt.mpr q)
          have a2 : ¬ (281474976710656 : Int64).toInt ≤ w.toInt := fun q => c2 (Int64.le_iff_toInt_le.mpr q)
          omega
      obtain ⟨dst, hdst⟩ := hw
      obtain ⟨hd, rfl⟩ := rl_lt hdst (by omega)
      refine ⟨fun c3 => ?_, fun c3 => ⟨fun c4 => ?_, fun c4 => ?_⟩⟩
      · simp only [s_send, hi, hdst, rg_neg c3] at hp
        exact hp S h
      · simp only [s_send, hi, hdst, rg_big (x := z) (n := 65536) (y := 65536) (by omega) (le_tI.mpr (by have := lt_tI.mp c4; omega))] at hp
        exact hp S h
      · obtain ⟨ty, y1, y2, rfl⟩ := rg_yes (x := z) (n := 65536) (y := 65536) (by omega) c3 (lt_tI.mpr (by have := le_tI.mp (Int32.not_lt.mp c4); omega))
        rw [h.2.2.2.2.2.2.1.1]
        refine ⟨fun c5 => ?_, fun c5 => ?_⟩
        · have h40 : (tT T).length ≤ 40 := (nI_leI (b := 40) (by omega) (by omega)).mp c5
          simp only [s_send, hi, hdst, y1, if_pos h40, hs] at hp
          have hin : vp_in (nI st) 32 := vp_in_nI (by omega) (by decide)
          obtain ⟨f1, f2, f3, -⟩ := h.2.2.1.2 st s hs
          refine ⟨hin, hin, hin, 7, ?_⟩
          rw [nI_clamp (by omega), f1, f2, mac_or, f3]
          refine q_87 (S0 := sfi S 52 o 0) hd m3 (fun S1 M1 g1 b1 b2 => ?_) 6 0 _ rfl h.1.wfi rfm.rf (fi_self _ _ _ _) (fun i hi => absurd hi (by omega)) (fun i hi => absurd hi (by omega))
          have c12 : (12 : Int32).toNatClampNeg = 12 := by decide
          have c13 : (13 : Int32).toNatClampNeg = 13 := by decide
          refine ⟨fun _ => ⟨vp_in_nI (n := 12) (by omega) (by decide), vp_in_nI (n := 13) (by omega) (by decide), (tT T).length + 1, ?_⟩, fun c => absurd (by decide) c⟩
          rw [c12, c13]
          have v12 : (((nI ty >>> ((8 : Int32) &&& 31)).toInt8.toInt32).toInt8.toInt32) &&& 255 = nI (ty / 256 % 256) := by
            rw [bp, bp]
            exact sh255 ty (s := 8) (by omega)
          have v13 : (((nI ty).toInt8.toInt32).toInt8.toInt32) &&& 255 = nI (ty % 256) := by rw [bp, bp, nI_255]
          generalize ((nI ty >>> ((8 : Int32) &&& 31)).toInt8.toInt32).toInt8.toInt32 = u12 at *
          generalize ((nI ty).toInt8.toInt32).toInt8.toInt32 = u13 at *
          have g0 : rfm S S1 o R wfs wjs := (rfm.wfi rfl).tr g1
          generalize hS2 : sai (sai (sfi S1 52 o 14) (R 19) 12 u12) (R 19) 13 u13 = S2
          have M2 : RM S2 o R := by rw [← hS2]; exact M1
          have hR := M1.inj
          have g2 : rfm S S2 o R wfs wjs := by
            rw [← hS2]
            exact ((g0.tr (rfm.wfi rfl)).tr (rfm.wai M1.wfi (by decide) rfl)).tr (rfm.wai M1.wfi.wai (by decide) rfl)
          refine q_174 (S0 := S2) (dst := dst) (src := s.2.2.1) (ty := ty) h40 ((g2.1 43 rfl).trans h.2.2.2.2.2.2.1.1) (fun j hj => by rw [(g2.2 13 (by decide) rfl).1]; exact h.2.2.2.2.2.2.1.2 j hj) (fun S3 M3 g3 f52 hB3 => ?_) (tT T).length 0 S2 (by omega) M2 rfm.rf (by rw [← hS2, fi_i, fi_i, fi_self]; rfl) (fun i hi => ?_)
          · have gg : rfm S S3 o R scr scj := (g2.tr g3).mono (fun f z => (Bool.or_eq_false_iff.mp z).2) (fun j z => (Bool.or_eq_false_iff.mp z).2)
            exact q_sent (h.scr M3 gg) hT hs hd h40 f52 hB3 hp
          · rw [← hS2, ai_r hR _ (by decide) (by decide), ai_r hR _ (by decide) (by decide), ai_f]
            unfold frmOf
            rw [List.append_assoc, List.append_assoc]
            by_cases z1 : i < 6
            · rw [if_neg (by omega), if_neg (by omega), gb_l (be_len _ _) z1]
              exact b1 i z1
            · obtain ⟨j, rfl⟩ : ∃ j, i = 6 + j := ⟨i - 6, by omega⟩
              rw [gb_g (be_len _ _)]
              by_cases z2 : j < 6
              · rw [if_neg (by omega), if_neg (by omega), gb_l (be_len _ _) z2, Nat.zero_add]
                exact b2 j z2
              · obtain ⟨k, rfl⟩ : ∃ k, j = 6 + k := ⟨j - 6, by omega⟩
                rw [gb_g (be_len _ _), gb_l (be_len _ _) (by omega), be2 (by omega)]
                by_cases z3 : k = 0
                · subst z3
                  rw [if_neg (by omega), if_pos ⟨rfl, by omega⟩, v12]
                  congr 1
                  show ty / 256 % 256 = ty / 256
                  omega
                · have : k = 1 := by omega
                  subst this
                  rw [if_pos ⟨rfl, by omega⟩, v13]
                  rfl
        · have h40 : ¬ (tT T).length ≤ 40 := fun q => c5 ((nI_leI (b := 40) (by omega) (by omega)).mpr q)
          simp only [s_send, hi, hdst, y1, if_neg h40] at hp
          exact hp S h
  · simp only [s_send, hi] at hp
    exact hp S h
