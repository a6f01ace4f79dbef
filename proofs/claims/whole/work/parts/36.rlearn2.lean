/-! ===== learn ===== -/
def okPl (p : Nat ⊕ Nat) : Prop := match p with | Sum.inl s => s < 32 | Sum.inr d => d < 8
theorem neg1 (d : Nat) (h : d < 8) : (-1 : Int32) - nI d < 0 := by
  rcases (show d = 0 ∨ d = 1 ∨ d = 2 ∨ d = 3 ∨ d = 4 ∨ d = 5 ∨ d = 6 ∨ d = 7 by omega) with rfl | rfl | rfl | rfl | rfl | rfl | rfl | rfl <;> decide
theorem neg1_inj {a b : Nat} (ha : a < 8) (hb : b < 8) (h : (-1 : Int32) - nI a = -1 - nI b) : a = b := by
  have key : ∀ a, a < 8 → ∀ b, b < 8 → (-1 : Int32) - nI a = -1 - nI b → a = b := by decide
  exact key a ha b hb h
theorem plc_inj {p q : Nat ⊕ Nat} (hp : okPl p) (hq : okPl q) (h : plc p = plc q) : p = q := by
  cases p with
  | inl s =>
    cases q with
    | inl t => exact congrArg Sum.inl ((nI_eq (by have : s < 32 := hp; omega) (by have : t < 32 := hq; omega)).mp h)
    | inr d =>
      have h2 := neg1 d hq
      rw [show (-1 : Int32) - nI d = nI s from h.symm] at h2
      exact absurd h2 (nI_pos (by have : s < 32 := hp; omega))
  | inr d =>
    cases q with
    | inl t =>
      have h2 := neg1 d hp
      rw [show (-1 : Int32) - nI d = nI t from h] at h2
      exact absurd h2 (nI_pos (by have : t < 32 := hq; omega))
    | inr c => exact congrArg Sum.inr (neg1_inj hp hq h)
theorem Okk.pl {n e ns : Nat} {k : Kn} (h : Okk n e ns k) (hn : n ≤ 8) (hs : ns ≤ 32) : okPl k.2.2.1 := by
  have h4 := h.2.2.2
  cases hk : k.2.2.1 with
  | inl s => rw [hk] at h4; show s < 32; have h5 : s < ns := h4; omega
  | inr d => rw [hk] at h4; show d < 8; have h5 : d < n ∧ d ≠ e := h4; omega
theorem RV.kc {S S' : HS} {o : Nat} {R : Nat → Nat} {T T' : TS} (h : RV S o R T) (hM : RM S' o R) (g : rfm S S' o R (fun _ => false) wjC) (hK : RvK S' R T') (hC : RvC S' R T') (e1 : tN T' = tN T) (e2 : tS T' = tS T) (e3 : tW T' = tW T) (e4 : tQ T' = tQ T) (e5 : tT T' = tT T) (e6 : tF T' = tF T) : RV S' o R T' := by
  obtain ⟨-, h1, h2, h3, h4, h5, h6, h7, h8⟩ := h
  exact ⟨hM, by rw [e1]; exact (g.1 27 rfl).trans h1, h2.fr g e2 rfl ⟨rfl, rfl, rfl, rfl, rfl, rfl⟩, h3.fr g e3 rfl, h4.fr g e4 rfl, hK, h6.fr g e5 rfl rfl, h7.fr g e6 rfl ⟨rfl, rfl, rfl⟩, hC⟩
theorem kAge_at {l : List Kn} {i : Nat} {κ : Kn} (h : l[i]? = some κ) : kAge l i = κ.2.2.2 := by simp [kAge, h]
theorem kPl_at {l : List Kn} {i : Nat} {κ : Kn} (h : l[i]? = some κ) : kPl l i = κ.2.2.1 := by simp [kPl, h]
theorem om_le (l : List Kn) : ∀ j, om l j ≤ j
  | 0 => Nat.le_refl 0
  | j + 1 => by
    have := om_le l j
    unfold om
    split <;> omega
theorem q_old {post : Unit → HS → Prop} {S : HS} {o : Nat} {R : Nat → Nat} {T : TS} {N : Nat} (h : RV S o R T) (hT : OkT T N) {e : Nat} {net : Int32} {mac : Int64} {pl : Int32} (he : e < 8) (h24 : (tK T e).length = 24) (hp : wq_X7_remove (fun _ S25 => vp_in (12 : Int32) 13 ∧ (vp_in (12 : Int32) 13 ∧ (wq_X7_learn_133a post R (sai S25 (R 17) (12 : Int32).toNatClampNeg ((ai S25 (R 17) (12 : Int32).toNatClampNeg) + (1 : Int32))) o (nI e) net mac pl))) R S o (nI e) (nI (24 * e + om (tK T e) 23))) : ∀ (n j : Nat), j + n = 24 → wq_X7_learn_70 (n + 1) post R S o (nI e) net mac pl (nI (24 * e + om (tK T e) (j - 1))) (nI (24 * e + j)) := by
  obtain ⟨g1, g2⟩ := h.2.2.2.2.2.1 e he
  have a24 : (24 : Int32) * nI e + 24 = nI (24 * e + 24) := by rw [nI_24]; exact nI_add _ 24
  intro n
  induction n with
  | zero =>
    intro j hj
    have : j = 24 := by omega
    subst this
    refine ⟨fun _ => hp, fun c => absurd ?_ c⟩
    rw [a24]; exact (nI_leI (by omega) (by omega)).mpr (Nat.le_refl _)
  | succ n ih =>
    intro j hj
    have ho := om_le (tK T e) (j - 1)
    obtain ⟨κ, hκ⟩ := get_lt (l := tK T e) (i := j) (by omega)
    obtain ⟨μ, hμ⟩ := get_lt (l := tK T e) (i := om (tK T e) (j - 1)) (by omega)
    have f4 := (g2 j κ hκ).2.2.2
    have f5 := (g2 _ μ hμ).2.2.2
    have b4 := ((hT.2.2.1 e he).2.1 κ (List.mem_of_getElem? hκ)).2.2.1
    have b5 := ((hT.2.2.1 e he).2.1 μ (List.mem_of_getElem? hμ)).2.2.1
    refine ⟨fun c => ?_, fun _ => ⟨vp_in_nI (by omega) (by decide), vp_in_nI (by omega) (by decide), ?_⟩⟩
    · rw [a24] at c
      exact absurd ((nI_leI (by omega) (by omega)).mp c) (by omega)
    · rw [nI_clamp (by omega), nI_clamp (by omega), f4, f5, nI_1, lg_cmp_le, pk_lLE (by omega) (by omega)]
      have step : om (tK T e) (j + 1 - 1) = if kAge (tK T e) (om (tK T e) (j - 1)) < kAge (tK T e) j then j else om (tK T e) (j - 1) := by
        cases j with
        | zero => simp [om]
        | succ i => rfl
      rw [kAge_at hκ, kAge_at hμ] at step
      refine ⟨fun c => ?_, fun c => ?_⟩
      · rw [if_neg (by omega)] at step
        have := ih (j + 1) (by omega)
        rw [step] at this
        exact this
      · rw [if_pos (by omega)] at step
        have := ih (j + 1) (by omega)
        rw [step] at this
        exact this
theorem eras_sub {l : List Kn} {k : Nat} {P : Kn → Prop} (h : ∀ x ∈ l, P x) : ∀ x ∈ l.eraseIdx k, P x := fun x hx => h x (List.mem_of_mem_eraseIdx hx)
theorem uK_len {T : TS} {e : Nat} {l : List Kn} (h : ∀ e, e < 8 → (tK T e).length ≤ 24) (hl : l.length ≤ 24) : ∀ d, d < 8 → (tK (uK T e l) d).length ≤ 24 := fun d hd => by
  rw [uK_at]
  by_cases z : d = e
  · rw [if_pos z]; exact hl
  · rw [if_neg z]; exact h d hd
theorem uK_uK (T : TS) (e : Nat) (l m : List Kn) : uK (uK T e l) e m = uK T e m := by
  unfold uK
  have : va_up (tK (mkT (tN T) (tS T) (va_up (tK T) e l) (tW T) (tQ T) (tT T) (tF T) (tC T))) e m = va_up (tK T) e m := by
    funext d
    show va_up (va_up (tK T) e l) e m d = _
    by_cases z : d = e
    · subst z; rw [va_up_self, va_up_self]
    · rw [va_up_ne _ _ z, va_up_ne _ _ z, va_up_ne _ _ z]
  rw [this]
  rfl
theorem q_learn {post : Unit → HS → Prop} {S : HS} {o : Nat} {R : Nat → Nat} {T : TS} {N : Nat} (h : RV S o R T) (hT : OkT T N) {e net mac : Nat} {pl : Nat ⊕ Nat} (he : e < 8) (hnet : net < 16777216) (hmac : mac < 281474976710656) (hpl : okPl pl) (hp : ∀ S', RV S' o R (t_learn T e net mac pl) → rfm S S' o R (fun _ => false) wjC → post () S') : wq_X7_learn post R S o (nI e) (nI net) (lN mac) (plc pl) := by
  obtain ⟨hM, -, -, -, -, hK, -, -, hC⟩ := id h
  have hR := hM.inj
  have hlen : ∀ e, e < 8 → (tK T e).length ≤ 24 := fun e he => (hT.2.2.1 e he).1
  obtain ⟨g1, g2⟩ := hK e he
  have kc0 : ∀ j, wjC j = false → wjK j = false := fun j q => by
    unfold wjC at q
    exact (Bool.or_eq_false_iff.mp q).1
  refine q_find h hT he hnet hmac (fun k hf hk => ?_) (fun hf => ?_)
  · obtain ⟨κ, hκ, e1, e2⟩ := fnd_spec hf
    obtain ⟨f1, f2, f3, f4⟩ := g2 k κ hκ
    have hok := (hT.2.2.1 e he).2.1 κ (List.mem_of_getElem? hκ)
    have hl := hlen e he
    have hin : vp_in (nI (24 * e + k)) 192 := vp_in_nI (by omega) (by decide)
    have hpk := hok.pl hT.1.2 hT.2.1.1
    refine ⟨fun c => absurd c (nI_pos (by omega)), fun _ => ⟨hin, ?_⟩⟩
    rw [nI_clamp (by omega), f3]
    refine ⟨fun c => ⟨fun c2 => absurd c2 (nI_pos (by omega)), fun _ => ?_⟩, fun c => ⟨hin, ?_⟩⟩
    · have hne : ¬ κ.2.2.1 = pl := fun q => c (by rw [q])
      have hTe : t_learn T e net mac pl = uC (uK T e ((tK T e).eraseIdx k ++ [(net, mac, pl, 0)])) 11 := by
        unfold t_learn
        rw [hf]
        show (if kPl (tK T e) k = pl then _ else _) = _
        rw [kPl_at hκ, if_neg hne]
      refine q_remove hM hK hlen he hk (fun S1 M1 r1 K1 => ?_)
      have l1 : (tK (uK T e ((tK T e).eraseIdx k)) e).length = (tK T e).length - 1 := by rw [uK_at, if_pos rfl, List.length_eraseIdx, if_pos hk]
      have C1 : RvC S1 R (uK T e ((tK T e).eraseIdx k)) := hC.fr r1 rfl rfl
      refine ⟨vp_in_nI he (by decide), ?_⟩
      have a8 := (K1 e he).1
      rw [l1] at a8
      rw [nI_clamp (by omega), a8]
      refine ⟨fun _ => ?_, fun c2 => ?_⟩
      · refine q_lend M1 K1 C1 (uK_len hlen (by rw [List.length_eraseIdx, if_pos hk]; omega)) he (by rw [l1]; omega) (fun S2 M2 r2 K2 C2 => ?_)
        have r : rfm S S2 o R (fun _ => false) wjC := (r1.mono (fun _ q => q) kc0).tr r2
        rw [uK_uK, uK_at, if_pos rfl] at K2
        exact hp S2 (h.kc M2 r (by rw [hTe]; exact K2) (by rw [hTe]; exact C2) (by rw [hTe]; rfl) (by rw [hTe]; rfl) (by rw [hTe]; rfl) (by rw [hTe]; rfl) (by rw [hTe]; rfl) (by rw [hTe]; rfl)) r
      · have := (nI_eq (a := (tK T e).length - 1) (b := 24) (by omega) (by decide)).mp c2
        omega
    · have hpe : κ.2.2.1 = pl := plc_inj hpk hpl c
      have hTe : t_learn T e net mac pl = uK T e ((tK T e).set k (net, mac, pl, 0)) := by
        unfold t_learn
        rw [hf]
        show (if kPl (tK T e) k = pl then _ else _) = _
        rw [kPl_at hκ, if_pos hpe]
      have r : rfm S (sal S (R 12) (24 * e + k) 0) o R (fun _ => false) wjC := rfm.wal hM (by decide) rfl
      refine hp _ (h.kc hM.wal r ?_ ?_ (by rw [hTe]; rfl) (by rw [hTe]; rfl) (by rw [hTe]; rfl) (by rw [hTe]; rfl) (by rw [hTe]; rfl) (by rw [hTe]; rfl)) r
      · rw [hTe]
        intro d hd
        rw [uK_at]
        obtain ⟨m1, m2⟩ := hK d hd
        have hl2 := hlen d hd
        by_cases z : d = e
        · subst z
          rw [if_pos rfl]
          refine ⟨by rw [List.length_set]; exact m1, fun j x hj => ?_⟩
          rw [al_r hR S (by decide) (by decide), al_r hR S (by decide) (by decide), if_neg (by omega)]
          by_cases w : j = k
          · subst w
            rw [List.getElem?_set_self hk] at hj
            cases hj
            rw [if_pos ⟨rfl, rfl⟩]
            exact ⟨by rw [← e1]; exact f1, by rw [← e2]; exact f2, by rw [← hpe]; exact f3, rfl⟩
          · rw [List.getElem?_set_ne (Ne.symm w)] at hj
            rw [if_neg (by omega)]
            exact m2 j x hj
        · rw [if_neg z]
          refine ⟨m1, fun j x hj => ?_⟩
          have hjl := (List.getElem?_eq_some_iff.mp hj).1
          rw [al_r hR S (by decide) (by decide), al_r hR S (by decide) (by decide), if_neg (by omega), if_neg (by omega)]
          exact m2 j x hj
      · rw [hTe]; exact hC
  · have hl := hlen e he
    refine ⟨fun _ => ⟨fun _ => ?_, fun c2 => absurd (by decide) c2⟩, fun c => absurd (by decide) c⟩
    refine ⟨vp_in_nI he (by decide), ?_⟩
    rw [nI_clamp (by omega), g1]
    refine ⟨fun c => ?_, fun c => ?_⟩
    · have hne : ¬ (tK T e).length = 24 := fun q => c (by rw [q]; rfl)
      have hTe : t_learn T e net mac pl = uC (uK T e (tK T e ++ [(net, mac, pl, 0)])) 11 := by
        unfold t_learn
        rw [hf]
        show (if (tK T e).length = 24 then _ else _) = _
        rw [if_neg hne]
      refine q_lend hM hK hC hlen he (by omega) (fun S2 M2 r K2 C2 => ?_)
      exact hp S2 (h.kc M2 r (by rw [hTe]; exact K2) (by rw [hTe]; exact C2) (by rw [hTe]; rfl) (by rw [hTe]; rfl) (by rw [hTe]; rfl) (by rw [hTe]; rfl) (by rw [hTe]; rfl) (by rw [hTe]; rfl)) r
    · have h24 : (tK T e).length = 24 := (nI_eq (b := 24) (by omega) (by decide)).mp c
      have hTe : t_learn T e net mac pl = uC (uC (uK T e ((tK T e).eraseIdx (om (tK T e) 23) ++ [(net, mac, pl, 0)])) 12) 11 := by
        unfold t_learn
        rw [hf]
        show (if (tK T e).length = 24 then _ else _) = _
        rw [if_pos h24]
      have ho := om_le (tK T e) 23
      refine ⟨25, ?_⟩
      rw [nI_24]
      have key := q_old (net := nI net) (mac := lN mac) (pl := plc pl) (post := post) h hT he h24 ?_ 24 0 (by omega)
      · exact key
      · refine q_remove hM hK hlen he (by omega) (fun S1 M1 r1 K1 => ⟨by unfold vp_in; decide, by unfold vp_in; decide, ?_⟩)
        rw [show (12 : Int32).toNatClampNeg = 12 from by decide]
        have hR1 := M1.inj
        have l1 : (tK (uK T e ((tK T e).eraseIdx (om (tK T e) 23))) e).length = 23 := by rw [uK_at, if_pos rfl, List.length_eraseIdx, if_pos (by omega)]; omega
        have C1 : RvC S1 R (uK T e ((tK T e).eraseIdx (om (tK T e) 23))) := hC.fr r1 rfl rfl
        rw [C1 12 (by decide), nI_1]
        have r2 : rfm S1 (sai S1 (R 17) 12 (nI (tC T 12 + 1))) o R (fun _ => false) wjC := rfm.wai M1 (by decide) rfl
        have K2 : RvK (sai S1 (R 17) 12 (nI (tC T 12 + 1))) R (uC (uK T e ((tK T e).eraseIdx (om (tK T e) 23))) 12) := K1.fr (rfm.wai (wf := fun _ => false) (wj := fun j => j == 17) M1 (by decide) rfl) rfl ⟨rfl, rfl, rfl, rfl, rfl⟩
        have C2 : RvC (sai S1 (R 17) 12 (nI (tC T 12 + 1))) R (uC (uK T e ((tK T e).eraseIdx (om (tK T e) 23))) 12) := fun k hk => by
          rw [ai_r hR1 S1 (by decide) (by decide)]
          show _ = nI (if k = 12 then tC T 12 + 1 else tC T k)
          by_cases z : k = 12
          · rw [if_pos ⟨rfl, z⟩, if_pos z]
          · rw [if_neg (fun q => z q.2), if_neg z]; exact C1 k hk
        refine q_lend (T := uC (uK T e ((tK T e).eraseIdx (om (tK T e) 23))) 12) M1.wai K2 C2 (uK_len hlen (by rw [List.length_eraseIdx, if_pos (by omega)]; omega)) he (show (tK (uK T e ((tK T e).eraseIdx (om (tK T e) 23))) e).length < 24 by rw [l1]; decide) (fun S3 M3 r3 K3 C3 => ?_)
        have r : rfm S S3 o R (fun _ => false) wjC := ((r1.mono (fun _ q => q) kc0).tr r2).tr r3
        have K4 : RvK S3 R (uK T e ((tK T e).eraseIdx (om (tK T e) 23) ++ [(net, mac, pl, 0)])) := by
          have := K3
          intro d hd
          have h9 := this d hd
          rw [uK_at] at h9 ⊢
          have e9 : tK (uC (uK T e ((tK T e).eraseIdx (om (tK T e) 23))) 12) = tK (uK T e ((tK T e).eraseIdx (om (tK T e) 23))) := rfl
          rw [e9, uK_at, uK_at, if_pos rfl] at h9
          by_cases z : d = e
          · rw [if_pos z] at h9 ⊢; exact h9
          · rw [if_neg z, if_neg z] at h9; rw [if_neg z]; exact h9
        exact hp S3 (h.kc M3 r (by rw [hTe]; exact K4) (by rw [hTe]; exact C3) (by rw [hTe]; rfl) (by rw [hTe]; rfl) (by rw [hTe]; rfl) (by rw [hTe]; rfl) (by rw [hTe]; rfl) (by rw [hTe]; rfl)) r
