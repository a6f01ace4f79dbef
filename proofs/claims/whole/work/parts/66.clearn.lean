/-! ===== the class: find, whereIs, learn ===== -/
theorem c_find_loop {post : Int32 → HS → Prop} {S : HS} {g : Nat} {G w : Nat → Nat} {A : Nat → List Nat} {T : TS} {N : Nat} (h : RepC S g G w A T) (hT : OkT T N) {e net mac : Nat} (he : e < 8) (hnet : net < 16777216) (hmac : mac < 281474976710656) (h1 : ∀ k, fnd (tK T e) net mac = some k → k < (tK T e).length → post (nI k) S) (h0 : fnd (tK T e) net mac = none → post (-1) S) : ∀ (n k : Nat), k + n = (tK T e).length → (∀ j x, j < k → (tK T e)[j]? = some x → isK net mac x = false) → wp_X0_find_3 (n + 1) post S (G (10 + e)) (nI net) (lN mac) (nI k) := by
  have hl := (hT.2.2.1 e he).1
  obtain ⟨b1, b2, b3, b4, b5, b6, b7⟩ := h.E.2 e he
  obtain ⟨hn, d, hL, hd⟩ := h.L (i := e) (by omega)
  have hlen := (h.K e he).1
  intro n
  induction n with
  | zero =>
    intro k hk hb
    refine ⟨b2, G (20 + e), b4, hL.1, sp_size hL ?_⟩
    rw [hlen]
    refine ⟨fun _ => h0 (fnd_none (fun j x hj => hb j x ?_ hj)), fun c => absurd ((nI_leI (by omega) (by omega)).mpr (by omega)) c⟩
    have := (List.getElem?_eq_some_iff.mp hj).1
    omega
  | succ n ih =>
    intro k hk hb
    obtain ⟨κ, hκ⟩ := get_lt (l := tK T e) (i := k) (by omega)
    obtain ⟨a, ha, q1, q2⟩ := (h.K e he).at hκ
    have hm := (hT.2.2.1 e he).2.1 κ (List.mem_of_getElem? hκ)
    have go : isK net mac κ = false → wp_X0_find_3 (n + 1) post S (G (10 + e)) (nI net) (lN mac) (nI k + 1) := fun q => by
      rw [nI_1]
      refine ih (k + 1) (by omega) (fun j x hj hx => ?_)
      by_cases e1 : j = k
      · subst e1; rw [hκ] at hx; cases hx; exact q
      · exact hb j x (by omega) hx
    refine ⟨b2, G (20 + e), b4, hL.1, sp_size hL ?_⟩
    rw [hlen]
    refine ⟨fun c => absurd ((nI_leI (by omega) (by omega)).mp c) (by omega), fun _ => c_knI h he hl hκ ha ⟨som, fun o ho => ?_⟩⟩
    cases ho
    refine ⟨q2.1, ?_⟩
    rw [q2.2.1]
    refine ⟨fun c => go ?_, fun c => ?_⟩
    · have : ¬ κ.1 = net := fun q => c (by rw [q])
      simp [isK, this]
    · have e1 : κ.1 = net := (nI_eq (by have := hm.1; omega) (by omega)).mp c
      rw [q2.2.2.1, lg_cmp_eq]
      refine ⟨fun c2 => go ?_, fun c2 => ?_⟩
      · have : ¬ κ.2.1 = mac := fun q => c2 (by rw [q])
        simp [isK, this]
      · have e2 : κ.2.1 = mac := (pk_lEQ (by have := hm.2.1; omega) (by omega)).mp c2
        exact h1 k (fnd_some hκ (by simp [isK, e1, e2]) hb) (by omega)
theorem c_find {post : Int32 → HS → Prop} {S : HS} {g : Nat} {G w : Nat → Nat} {A : Nat → List Nat} {T : TS} {N : Nat} (h : RepC S g G w A T) (hT : OkT T N) {e net mac : Nat} (he : e < 8) (hnet : net < 16777216) (hmac : mac < 281474976710656) (h1 : ∀ k, fnd (tK T e) net mac = some k → k < (tK T e).length → post (nI k) S) (h0 : fnd (tK T e) net mac = none → post (-1) S) : wp_X0_find post S (G (10 + e)) (nI net) (lN mac) :=
  ⟨(tK T e).length + 1, c_find_loop h hT he hnet hmac h1 h0 (tK T e).length 0 (by omega) (fun j x hj => absurd hj (Nat.not_lt_zero j))⟩
theorem nI_m1 {k : Nat} (h : k < 2 ^ 31) : ¬ nI k = -1 := fun q => by
  have := nI_pos h
  rw [q] at this
  exact this (by decide)
theorem c_grp {post : Int32 → HS → Prop} {S : HS} {mac : Nat} (hmac : mac < 281474976710656) (hp : post (if isGrp mac then 1 else 0) S) : wp_X5_isGroup post S (lN mac) := by
  unfold wp_X5_isGroup
  have e : ((lN mac).toUInt64 >>> ((40 : Int32).toInt64.toUInt64 &&& Int64.toUInt64 63)).toInt64 &&& (1 : Int64) = lN (mac / 1099511627776 % 2) := wb_bit (n := mac) (k := 40) (by omega) (by decide)
  have z : (0 : Int64) = lN 0 := rfl
  rw [e, lg_cmp_eq, z, pk_lEQ (by omega) (by omega)]
  refine ⟨fun c => ?_, fun c => ?_⟩
  · have : isGrp mac = false := by unfold isGrp; simp [c]
    rw [this] at hp; exact hp
  · have : isGrp mac = true := by
      have : mac / 1099511627776 % 2 = 1 := by omega
      unfold isGrp; simp [this]
    rw [this] at hp; exact hp
theorem c_where {post : Option Nat → HS → Prop} {S : HS} {g : Nat} {G w : Nat → Nat} {A : Nat → List Nat} {T : TS} {N : Nat} (h : RepC S g G w A T) (hT : OkT T N) {e net mac : Nat} (he : e < 8) (hnet : net < 16777216) (hmac : mac < 281474976710656) (h1 : ∀ (k : Nat) (κ : Kn) (a : Nat), (tK T e)[k]? = some κ → (A e)[k]? = some a → KnAt S a κ → whr (tK T e) net mac = some κ.2.2.1 → post (some a) S) (h0 : whr (tK T e) net mac = none → post none S) : wp_X0_whereIs post S (G (10 + e)) (nI net) (lN mac) := by
  obtain ⟨b1, b2, b3, b4, b5, b6, b7⟩ := h.E.2 e he
  obtain ⟨hn, d, hL, hd⟩ := h.L (i := e) (by omega)
  have h24 := (hT.2.2.1 e he).1
  refine c_grp hmac ?_
  cases hg : isGrp mac with
  | true => exact ⟨fun c => absurd c n01, fun _ => h0 (by unfold whr; rw [hg]; rfl)⟩
  | false =>
    refine ⟨fun _ => ⟨b2, c_find h hT he hnet hmac (fun k hk hkl => ?_) (fun hk => c_knN ⟨fun _ => h0 (by unfold whr; rw [hg, hk]; rfl), fun o ho => som ho.symm⟩)⟩, fun c => absurd rfl c⟩
    obtain ⟨κ, hκ⟩ := get_lt hkl
    obtain ⟨a, ha, q1, q2⟩ := (h.K e he).at hκ
    refine c_knI h he h24 hκ ha ⟨som, fun o ho => ?_⟩
    cases ho
    refine h1 k κ a hκ ha q2 ?_
    unfold whr
    rw [hg, hk]
    show some (kPl (tK T e) k) = _
    rw [kPl_at hκ]
theorem c_tally' {post : Unit → HS → Prop} {S : HS} {g : Nat} {G w : Nat → Nat} {A : Nat → List Nat} {T : TS} (h : RepC S g G w A T) {k : Nat} (hk : k < 13) (hp : ∀ S', RepC S' g G w A (uC T k) → kr S S' → kd S' = kd S → fi S' = fi S → fl S' = fl S → fr S' = fr S → post () S') : wp_X6_tally post S g (nI k) := by
  obtain ⟨a1, a2, a3⟩ := h.C
  have hin : vp_in (nI k) (ln S (G 3)) := by rw [a2]; exact vp_in_nI (by omega) (by decide)
  refine ⟨fun c => absurd c (nI_pos (by omega)), fun _ => ⟨fun c => absurd ((nI_leI (a := 13) (by omega) (by omega)).mp c) (by omega), fun _ => ⟨h.F.1, G 3, h.F.2.2.2.2.2.1, by rw [a1], hin, hin, ?_⟩⟩⟩
  rw [nI_clamp (by omega), a3 k hk, nI_1]
  refine hp _ (h.tally hk) ((frm.wai (wi := no2) (wr := no2) (wa := fun x => x = G 3) (wq := no1) rfl).kr (fun _ _ => id) (fun _ _ => id) (fun c hc q => ?_)) rfl rfl rfl rfl
  rw [q, a1] at hc; cases hc
theorem KnAt.eq {S S' : HS} {a : Nat} {κ : Kn} (h : KnAt S a κ) (h1 : kd S' = kd S) (h2 : fi S' = fi S) (h3 : fl S' = fl S) : KnAt S' a κ := by
  unfold KnAt; rw [h1, h2, h3]; exact h
/-- a new one is added -/
theorem c_add {post : Int32 → HS → Prop} {S : HS} {g : Nat} {G w : Nat → Nat} {A : Nat → List Nat} {T : TS} {e a : Nat} {κ : Kn} (h : RepC S g G w A T) (he : e < 8) (hl : (tK T e).length ≤ 24) (ha : KnAt S a κ) (hw : w a = 0) (hp : ∀ S' w', RepC S' g G w' (va_up A e (A e ++ [a])) (uK T e (tK T e ++ [κ])) → kr S S' → sam S w w' → post 1 S') : wp_Jx4a65c_add_9ea2d post S (G (20 + e)) a := by
  obtain ⟨hn, d, hL, hd⟩ := h.L (i := e) (by omega)
  have k1 := hL.1
  have k3 := ha.1
  have hlen := (h.K e he).1
  refine sp_add hL (by omega) (by omega) (fun S2 q f2 hL2 hq => ?_)
  have w1 : sam S w (va_up (va_up w a (e + 1)) q (e + 1)) := (sam.rf.up (Or.inr (Or.inl hw))).up (by
    rcases hq with z | z
    · rw [z]
      rcases hL.kd with u | u
      · exact Or.inr (Or.inr (hd u))
      · refine Or.inl ?_
        exfalso
        rw [z] at hL2
        rcases hL2.2.2.2.2.2 with v | v
        · rw [(f2.2 d (by rw [u]; decide)).1, u] at v
          exact absurd v.1 (by decide)
        · simp at v
    · exact Or.inl z)
  have hna : a ∉ A e := fun u => by
    obtain ⟨i, hi⟩ := List.getElem?_of_mem u
    obtain ⟨x, hx, z1, z2⟩ := (h.K e he).of hi
    omega
  have hk2 : KnAt S2 a κ := ha.fr f2 (fun f u => by have := u.1; rw [this] at k3; omega)
  have hwa : va_up (va_up w a (e + 1)) q (e + 1) a = e + 1 := by
    by_cases z : a = q
    · rw [z, va_up_self]
    · rw [va_up_ne _ _ z, va_up_self]
  exact hp S2 _ (h.lk he hL hd f2 hL2 (nod_app hn hna) (fun _ => va_up_self _ _ _) w1 (fun u => u.app ⟨hwa, hk2⟩)) (lst_kr hL f2) w1
theorem c_old_loop {post : Int32 → HS → Prop} {S : HS} {g : Nat} {G w : Nat → Nat} {A : Nat → List Nat} {T : TS} {N : Nat} (h : RepC S g G w A T) (hT : OkT T N) {e : Nat} (he : e < 8) (h24 : (tK T e).length = 24) (hp : post (nI (om (tK T e) 23)) S) : ∀ (n j : Nat), j + n = 24 → 1 ≤ j → wp_X0_oldest_6 (n + 1) post S (G (10 + e)) (nI (om (tK T e) (j - 1))) (nI (kAge (tK T e) (om (tK T e) (j - 1)))) (nI j) := by
  obtain ⟨b1, b2, b3, b4, b5, b6, b7⟩ := h.E.2 e he
  obtain ⟨hn, d, hL, hd⟩ := h.L (i := e) (by omega)
  have hlen := (h.K e he).1
  intro n
  induction n with
  | zero =>
    intro j hj hj1
    have : j = 24 := by omega
    subst this
    refine ⟨b2, G (20 + e), b4, hL.1, sp_size hL ?_⟩
    rw [hlen, h24]
    exact ⟨fun _ => hp, fun c => absurd (by decide) c⟩
  | succ n ih =>
    intro j hj hj1
    have ho := om_le (tK T e) (j - 1)
    obtain ⟨κ, hκ⟩ := get_lt (l := tK T e) (i := j) (by omega)
    obtain ⟨a, ha, q1, q2⟩ := (h.K e he).at hκ
    obtain ⟨κ2, hκ2⟩ := get_lt (l := tK T e) (i := om (tK T e) (j - 1)) (by omega)
    have m1 := ((hT.2.2.1 e he).2.1 κ (List.mem_of_getElem? hκ)).2.2.1
    have m2 := ((hT.2.2.1 e he).2.1 κ2 (List.mem_of_getElem? hκ2)).2.2.1
    refine ⟨b2, G (20 + e), b4, hL.1, sp_size hL ?_⟩
    rw [hlen, h24]
    refine ⟨fun c => absurd ((nI_leI (by omega) (by omega)).mp c) (by omega), fun _ => c_knI h he (by omega) hκ ha ⟨som, fun o ho => ?_⟩⟩
    cases ho
    refine ⟨q2.1, ?_⟩
    rw [q2.2.2.2.2.2, kAge_at hκ2, nI_1, nI_leI (by omega) (by omega)]
    have hom : om (tK T e) (j + 1 - 1) = if κ2.2.2.2 < κ.2.2.2 then j else om (tK T e) (j - 1) := by
      obtain ⟨i, rfl⟩ : ∃ i, j = i + 1 := ⟨j - 1, by omega⟩
      have e1 : kAge (tK T e) (om (tK T e) i) = κ2.2.2.2 := kAge_at hκ2
      have e2 : kAge (tK T e) (i + 1) = κ.2.2.2 := kAge_at hκ
      show (if kAge (tK T e) (om (tK T e) i) < kAge (tK T e) (i + 1) then i + 1 else om (tK T e) i) = if κ2.2.2.2 < κ.2.2.2 then i + 1 else om (tK T e) i
      rw [e1, e2]
    have hi := ih (j + 1) (by omega) (by omega)
    rw [hom] at hi
    refine ⟨fun c => ?_, fun c => ?_⟩
    · rw [if_neg (by omega), kAge_at hκ2] at hi; exact hi
    · rw [if_pos (by omega), kAge_at hκ] at hi; exact hi
theorem c_old {post : Int32 → HS → Prop} {S : HS} {g : Nat} {G w : Nat → Nat} {A : Nat → List Nat} {T : TS} {N : Nat} (h : RepC S g G w A T) (hT : OkT T N) {e : Nat} (he : e < 8) (h24 : (tK T e).length = 24) (hp : post (nI (om (tK T e) 23)) S) : wp_X0_oldest post S (G (10 + e)) := by
  obtain ⟨b1, b2, b3, b4, b5, b6, b7⟩ := h.E.2 e he
  obtain ⟨hn, d, hL, hd⟩ := h.L (i := e) (by omega)
  have hlen := (h.K e he).1
  obtain ⟨κ, hκ⟩ := get_lt (l := tK T e) (i := 0) (by omega)
  obtain ⟨a, ha, q1, q2⟩ := (h.K e he).at hκ
  have m1 := ((hT.2.2.1 e he).2.1 κ (List.mem_of_getElem? hκ)).2.2.1
  refine ⟨25, b2, G (20 + e), b4, hL.1, sp_size hL ?_⟩
  rw [hlen, h24]
  refine ⟨fun c => absurd c (by decide), fun _ => c_knI (k := 0) h he (by omega) hκ ha ⟨som, fun o ho => ?_⟩⟩
  cases ho
  refine ⟨q2.1, ?_⟩
  rw [q2.2.2.2.2.2]
  refine ⟨fun c => ?_, fun c => ?_⟩
  · have u := le_tI.mp c
    rw [nI_tI (by omega)] at u
    have v : (-1 : Int32).toInt = -1 := by decide
    omega
  · have hi := c_old_loop h hT he h24 hp 23 1 (by omega) (by omega)
    have e1 : kAge (tK T e) (om (tK T e) (1 - 1)) = κ.2.2.2 := kAge_at hκ
    rw [e1] at hi
    exact hi
theorem kp_eq {p q : Nat ⊕ Nat} (hp : okPl p) (hq : okPl q) : (kE p = kE q ∧ kS p = kS q) ↔ p = q := by
  refine ⟨fun h => ?_, fun h => by rw [h]; exact ⟨rfl, rfl⟩⟩
  cases p with
  | inl s =>
    have h1 : s < 32 := hp
    cases q with
    | inl s2 =>
      have h2 : s2 < 32 := hq
      rw [(nI_eq (by omega) (by omega)).mp h.2]
    | inr d => exact absurd h.2 (nI_m1 (by omega))
  | inr d =>
    have h1 : d < 8 := hp
    cases q with
    | inl s2 => exact absurd h.1 (nI_m1 (by omega))
    | inr d2 =>
      have h2 : d2 < 8 := hq
      rw [(nI_eq (by omega) (by omega)).mp h.1]
theorem uK_uC (T : TS) (k e : Nat) (l : List Kn) : uK (uC T k) e l = uC (uK T e l) k := rfl
theorem uK_K (T : TS) (e : Nat) (l : List Kn) : tK (uK T e l) e = l := by rw [uK_at, if_pos rfl]
theorem va_2 {α : Type} (A : Nat → α) (e : Nat) (x y : α) : va_up (va_up A e x) e y = va_up A e y := by
  funext j
  by_cases z : j = e
  · rw [z, va_up_self, va_up_self]
  · rw [va_up_ne _ _ z, va_up_ne _ _ z, va_up_ne _ _ z]
theorem c_learn {post : Unit → HS → Prop} {S : HS} {g : Nat} {G w : Nat → Nat} {A : Nat → List Nat} {T : TS} {N : Nat} (h : RepC S g G w A T) (hT : OkT T N) {e net mac a : Nat} {pl : Nat ⊕ Nat} (he : e < 8) (hnet : net < 16777216) (hmac : mac < 281474976710656) (hpl : okPl pl) (ha : KnAt S a (net, mac, pl, 0)) (hw : w a = 0) (hp : ∀ S' w' A', RepC S' g G w' A' (t_learn T e net mac pl) → kr S S' → sam S w w' → (∀ i, i ≠ e → A' i = A i) → post () S') : wp_X6_learn post S g (G (10 + e)) a := by
  obtain ⟨b1, b2, b3, b4, b5, b6, b7⟩ := h.E.2 e he
  obtain ⟨hn, d, hL, hd⟩ := h.L (i := e) (by omega)
  have h24 := (hT.2.2.1 e he).1
  have hlen := (h.K e he).1
  have hA : ∀ (B : List Nat) i, i ≠ e → va_up A e B i = A i := fun B i z => va_up_ne _ _ z
  refine ⟨ha.1, b2, ?_⟩
  rw [ha.2.1, ha.2.2.1]
  -- not found
  refine c_find h hT he hnet hmac (fun k hk hkl => ?_) (fun hk => c_knN ⟨fun _ => ⟨b2, b2, G (20 + e), b4, hL.1, sp_size hL ?_⟩, fun o ho => som ho.symm⟩)
  · obtain ⟨κ, hκ⟩ := get_lt hkl
    obtain ⟨x, hx, q1, q2⟩ := (h.K e he).at hκ
    obtain ⟨κ', hκ', n1, n2⟩ := fnd_spec hk
    rw [hκ] at hκ'; cases hκ'
    have hm := (hT.2.2.1 e he).2.1 κ (List.mem_of_getElem? hκ)
    have hkp := kp_eq (hm.pl hT.1.2 hT.2.1.1) hpl
    -- learnt anew
    have anew : ¬ κ.2.2.1 = pl → wp_X6_learn_41b post S g (G (10 + e)) a (nI k) x := fun z => by
      have ht : t_learn T e net mac pl = uC (uK T e ((tK T e).eraseIdx k ++ [(net, mac, pl, 0)])) 11 := by
        unfold t_learn
        rw [hk]
        show (if kPl (tK T e) k = pl then _ else _) = _
        rw [kPl_at hκ, if_neg z]
      rw [ht] at hp
      refine ⟨b2, c_drp h he h24 hx (fun S1 h1 r1 kn1 => ?_)⟩
      obtain ⟨-, -, -, b4', -⟩ := h1.E.2 e he
      obtain ⟨-, d1, hL1, -⟩ := h1.L (i := e) (by omega)
      have hlt : (tK (uK T e ((tK T e).eraseIdx k)) e).length ≤ 24 := by
        rw [uK_K]; exact Nat.le_trans (List.length_eraseIdx_le _ _) h24
      refine ⟨G (20 + e), b4', hL1.1, c_add h1 he hlt (kn1 _ _ ha) hw (fun S2 w2 h2 r2 sm2 => ⟨h2.F.1, ?_⟩)⟩
      rw [uK_uK, uK_K, va_2, va_up_self] at h2
      exact c_tally' h2 (by decide) (fun S3 h3 r3 _ _ _ _ => hp S3 w2 _ h3 ((r1.tr r2).tr r3) (sam.rf.tr r1 sm2) (hA _))
    refine c_knI h he h24 hκ hx ⟨som, fun o ho => ?_⟩
    cases ho
    refine ⟨q2.1, q2.1, ha.1, ?_⟩
    rw [q2.2.2.2.1, q2.2.2.2.2.1, ha.2.2.2.1, ha.2.2.2.2.1]
    refine ⟨fun c => ⟨fun _ => anew (fun z => c (hkp.mpr z).1), fun c => absurd rfl c⟩, fun c => ⟨fun c2 => ⟨fun _ => anew (fun z => c2 (hkp.mpr z).2), fun c => absurd rfl c⟩, fun c2 => ⟨fun c => absurd c n01, fun _ => ?_⟩⟩⟩
    have z := hkp.mp ⟨c, c2⟩
    have ht : t_learn T e net mac pl = uK T e ((tK T e).set k (net, mac, pl, 0)) := by
      unfold t_learn
      rw [hk]
      show (if kPl (tK T e) k = pl then _ else _) = _
      rw [kPl_at hκ, if_pos z]
    rw [ht] at hp
    have h1 := h.age (t := 0) he hx hκ
    rw [n1, n2, z] at h1
    have k3 := q2.1
    exact hp _ w A h1 ((frm.wfi (wi := fun f y => f = 11 ∧ y = x) (wr := no2) (wa := no1) (wq := no1) (Or.inr ⟨rfl, rfl⟩)).kr (fun r hr u => absurd u.1 (by decide)) (fun _ _ => id) (fun _ _ => id)) sam.rf (fun _ _ => rfl)
  · rw [hlen]
    refine ⟨fun c => ⟨fun _ => ?_, fun c => absurd rfl c⟩, fun c => ⟨fun c => absurd c n01, fun _ => ?_⟩⟩
    · have hlt : (tK T e).length < 24 := (nI_ltI (b := 24) (by omega) (by omega)).mp c
      have ht : t_learn T e net mac pl = uC (uK T e (tK T e ++ [(net, mac, pl, 0)])) 11 := by
        unfold t_learn
        rw [hk]
        show (if (tK T e).length = 24 then _ else _) = _
        rw [if_neg (by omega)]
      rw [ht] at hp
      refine ⟨G (20 + e), b4, hL.1, c_add h he h24 ha hw (fun S2 w2 h2 r2 sm2 => ⟨h2.F.1, ?_⟩)⟩
      exact c_tally' h2 (by decide) (fun S3 h3 r3 _ _ _ _ => hp S3 w2 _ h3 (r2.tr r3) sm2 (hA _))
    · have h24e : (tK T e).length = 24 := by
        have : ¬ (tK T e).length < 24 := fun q => c ((nI_ltI (b := 24) (by omega) (by omega)).mpr q)
        omega
      have ht : t_learn T e net mac pl = uC (uC (uK T e ((tK T e).eraseIdx (om (tK T e) 23) ++ [(net, mac, pl, 0)])) 12) 11 := by
        unfold t_learn
        rw [hk]
        show (if (tK T e).length = 24 then _ else _) = _
        rw [if_pos h24e]
      rw [ht] at hp
      have ho := om_le (tK T e) 23
      obtain ⟨x, hx⟩ := get_lt (l := A e) (i := om (tK T e) 23) (by omega)
      refine c_old h hT he h24e (c_drp h he h24 hx (fun S1 h1 r1 kn1 => ⟨h1.F.1, c_tally' h1 (by decide) (fun S2 h2 r2 t1 t2 t3 t4 => ?_)⟩))
      obtain ⟨-, -, -, b4', -⟩ := h2.E.2 e he
      obtain ⟨-, d1, hL1, -⟩ := h2.L (i := e) (by omega)
      have e1 : tK (uC (uK T e ((tK T e).eraseIdx (om (tK T e) 23))) 12) e = (tK T e).eraseIdx (om (tK T e) 23) := uK_K _ _ _
      refine ⟨G (20 + e), b4', hL1.1, c_add h2 he (by rw [e1]; exact Nat.le_trans (List.length_eraseIdx_le _ _) h24) ((kn1 _ _ ha).eq t1 t2 t3) hw (fun S3 w3 h3 r3 sm3 => ?_)⟩
      rw [e1, uK_uC, uK_uK, va_2, va_up_self] at h3
      exact c_tally' h3 (by decide) (fun S4 h4 r4 _ _ _ _ => hp S4 w3 _ h4 (((r1.tr r2).tr r3).tr r4) (sam.rf.tr (r1.tr r2) sm3) (hA _))
