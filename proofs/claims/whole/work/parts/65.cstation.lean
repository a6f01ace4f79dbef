/-! ===== the class: station, tick ===== -/
theorem mem_kd {S : HS} {L d : Nat} {A : List Nat} (h : Lst S L d A) {a : Nat} (ha : kd S a = 0) : a ∉ A := fun q => by
  have := (h.2.2.2.2.1 a q).1
  omega
theorem nod_app {A : List Nat} (h : A.Nodup) {a : Nat} (ha : a ∉ A) : (A ++ [a]).Nodup := by
  rw [List.nodup_append]
  refine ⟨h, List.nodup_cons.mpr ⟨by simp, List.nodup_nil⟩, fun x hx y hy => ?_⟩
  rw [List.mem_singleton.mp hy]
  exact fun e => ha (e ▸ hx)
theorem sam.up {S : HS} {w w' : Nat → Nat} (h : sam S w w') {q v : Nat} (hq : kd S q = 0 ∨ w q = 0 ∨ w q = v) : sam S w (va_up w' q v) := fun x hx hw => by
  by_cases e : x = q
  · subst e
    rw [va_up_self]
    rcases hq with z | z | z
    · exact absurd z hx
    · exact absurd z hw
    · exact z.symm
  · rw [va_up_ne _ _ e]; exact h x hx hw
theorem c_station {post : Int32 → HS → Prop} {S : HS} {g : Nat} {G : Nat → Nat} {T : TS} {N : Nat} (h : RC S g G T) (hT : OkT T N) {x y z : Int32} (hp : ∀ S', RC S' g G (s_station T x y z).2 → post (s_station T x y z).1 S') : wp_X6_station post S g x y z := by
  obtain ⟨w, A, h⟩ := h
  have h32 := hT.2.1.1
  have h8 := hT.1.2
  refine ⟨h.F.1, c_endp h hT (fun e he hl hx => ⟨som, fun o ho => ?_⟩) (fun he => ⟨fun _ => ?_, fun o ho => som ho.symm⟩)⟩
  · cases ho
    subst hx
    have e1 : (16777215 : Int32).toInt = 16777215 := rfl
    have e0 : (16777216 : Int32).toInt = 16777216 := rfl
    refine ⟨fun c => ?_, fun c => ⟨fun c2 => ?_, fun c2 => ?_⟩⟩
    · simp only [s_station, he, rg_neg c] at hp
      exact hp S ⟨w, A, h⟩
    · simp only [s_station, he, rg_big (x := y) (n := 16777216) (y := 16777216) (by omega) (le_tI.mpr (by have := lt_tI.mp c2; omega))] at hp
      exact hp S ⟨w, A, h⟩
    · obtain ⟨net, n1, n2, rfl⟩ := rg_yes (x := y) (n := 16777216) (y := 16777216) (by omega) c (lt_tI.mpr (by have := le_tI.mp (Int32.not_lt.mp c2); omega))
      obtain ⟨hn, d, hL, hd⟩ := h.L (i := 8) (by omega)
      have hlen := h.S.1
      refine ⟨G 28, h.F.2.2.1, hL.1, sp_size hL ?_⟩
      rw [hlen]
      refine ⟨fun c3 => ⟨G 28, h.F.2.2.1, fun a ha fa hfa => ?_⟩, fun c3 => ?_⟩
      · have hlt : (tS T).length < 32 := (nI_ltI (b := 32) (by omega) (by omega)).mp c3
        simp only [s_station, he, n1, if_neg (by omega : ¬ (tS T).length = 32)] at hp
        have hfa0 : kd S fa = 0 := (frm.wnw (wi := no2) (wr := no2) (wa := no1) (wq := no1) ha).free hfa
        have hne : a ≠ fa := fun q => by rw [← q] at hfa; exact absurd hfa (by show ¬ va_up (kd S) a 6 a = 0; rw [va_up_self]; decide)
        have k6 : kd (snw (snw S a 6 0) fa 160 6) a = 6 := (va_up_ne _ _ hne).trans (va_up_self _ _ _)
        refine ⟨k6, ?_⟩
        rw [mac_or]
        generalize hS1 : sfl (sfi (sfi (sfr (snw (snw S a 6 0) fa 160 6) 18 a (some fa)) 19 a (nI e)) 16 a (nI net)) 17 a (lN (2199023255552 + z.toBitVec.toNat)) = S1
        have f1 : frm S S1 no2 no2 no1 no1 := by
          rw [← hS1]
          exact ((((((frm.wnw ha).tsnw hfa).tsfr (Or.inl ha)).tsfi (Or.inl ha)).tsfi (Or.inl ha)).tsfl ha)
        have w1 : sam S w (va_up (va_up w a 1) fa (a + 1)) := (sam.rf.up (Or.inl ha)).up (Or.inl hfa0)
        have r1 : RepC S1 g G (va_up (va_up w a 1) fa (a + 1)) A T := h.free f1 w1 (fun _ _ q => q.elim) (fun _ _ q => q.elim) (fun _ q => q.elim) (fun _ q => q.elim)
        have k6' : kd S1 a = 6 := by rw [← hS1]; exact k6
        have s1 : StAt S1 (va_up (va_up w a 1) fa (a + 1)) a (e, net, 2199023255552 + z.toBitVec.toNat, 0, []) := by
          rw [← hS1]
          refine ⟨k6, ?_, fl_self _ _ _ _, ?_, ?_, fa, ?_, va_up_self _ _ _, va_up_self _ _ _, va_up_self _ _ _, fun k hk => ⟨fun b hb => by simp at hb, fun _ => ?_⟩⟩
          · show fi (sfi (sfi (sfr (snw (snw S a 6 0) fa 160 6) 18 a (some fa)) 19 a (nI e)) 16 a (nI net)) 16 a = nI net
            rw [fi_self]
          · show fi (sfi (sfi (sfr (snw (snw S a 6 0) fa 160 6) 18 a (some fa)) 19 a (nI e)) 16 a (nI net)) 19 a = nI e
            rw [fi_ne _ _ _ _ (Or.inl (by decide)), fi_self]
          · show fi (sfi (sfi (sfr (snw (snw S a 6 0) fa 160 6) 18 a (some fa)) 19 a (nI e)) 16 a (nI net)) 20 a = nI 0
            rw [fi_ne _ _ _ _ (Or.inl (by decide)), fi_ne _ _ _ _ (Or.inl (by decide))]
            exact (va_up_ne _ _ hne).trans (va_up_self _ _ _)
          · show fr (sfr (snw (snw S a 6 0) fa 160 6) 18 a (some fa)) 18 a = some fa
            rw [fr_self]
          · show va_up (ar (snw S a 6 0)) fa (fun _ => none) fa k = none
            rw [va_up_self]
        have wa1 : va_up (va_up w a 1) fa (a + 1) a = 1 := (va_up_ne _ _ hne).trans (va_up_self _ _ _)
        generalize va_up (va_up w a 1) fa (a + 1) = w1' at *
        obtain ⟨hn1, d1, hL1, hd1⟩ := r1.L (i := 8) (by omega)
        refine ⟨hL1.1, sp_add hL1 (by omega) (by omega) (fun S2 q f2 hL2 hq => ?_)⟩
        have w2 : sam S1 w1' (va_up w1' q 9) := sam.rf.up (by
          rcases hq with z | z
          · rw [z]
            rcases hL1.kd with u | u
            · exact Or.inr (Or.inr (hd1 u))
            · refine Or.inl ?_
              exfalso
              rw [z] at hL2
              rcases hL2.2.2.2.2.2 with v | v
              · rw [(f2.2 d1 (by rw [u]; decide)).1, u] at v
                exact absurd v.1 (by decide)
              · simp at v
          · exact Or.inl z)
        have hnod : (A 8 ++ [a]).Nodup := nod_app hn (mem_kd hL ha)
        have s2 : StAt S2 (va_up w1' q 9) a (e, net, 2199023255552 + z.toBitVec.toNat, 0, []) := by
          have k1 : kd S1 (G 28) = 1 := hL1.1
          have kk := hL1.kd
          exact s1.fr f2 w2 (fun f u => by have := u.1; rw [this] at k6'; omega) (fun u => by have := u.1; rw [this] at k6'; omega) (fun x hx _ u => by rw [u] at hx; omega) (fun r hr _ u => by rw [u.1] at hr; omega) (fun r hr _ u => by rw [u.1] at hr; omega) (fun _ _ _ _ _ => id)
        have r2 := r1.ls (l := tS T ++ [(e, net, 2199023255552 + z.toBitVec.toNat, 0, [])]) hL1 hd1 f2 hL2 hnod (fun _ => va_up_self _ _ _) w2 (fun u => Al.app u ⟨(w2 a (by omega) (by omega)).trans wa1, s2⟩)
        refine ⟨G 28, r2.F.2.2.1, hL2.1, sp_size hL2 ?_⟩
        rw [List.length_append, hlen]
        show post (nI ((tS T).length + 1) - 1) S2
        rw [nI_pred]
        exact hp S2 ⟨_, _, r2⟩
      · have hlt : ¬ (tS T).length < 32 := fun q => c3 ((nI_ltI (b := 32) (by omega) (by omega)).mpr q)
        simp only [s_station, he, n1, if_pos (by omega : (tS T).length = 32)] at hp
        exact hp S ⟨w, A, h⟩
  · simp only [s_station, he] at hp
    exact hp S ⟨w, A, h⟩
/-! tick -/
theorem c_rem {post : Option Nat → HS → Prop} {S : HS} {g : Nat} {G w : Nat → Nat} {A : Nat → List Nat} {T : TS} {e k a : Nat} (h : RepC S g G w A T) (he : e < 8) (ha : (A e)[k]? = some a) (hp : ∀ S', RepC S' g G w (va_up A e ((A e).eraseIdx k)) (uK T e ((tK T e).eraseIdx k)) → kr S S' → (∀ x κ, KnAt S x κ → KnAt S' x κ) → post (some a) S') : wp_Jx4a65c_remove_915e3 post S (G (20 + e)) (nI k) := by
  obtain ⟨hn, d, hL, hd⟩ := h.L (i := e) (by omega)
  have k1 := hL.1
  refine sp_rem hL ha (fun S' f hL' hk => hp S' (h.lk he hL hd f hL' (nod_era hn k) (fun q => hd (by rw [← hk]; exact q)) sam.rf (fun q => q.era k)) (lst_kr hL f) (fun x κ q => q.fr f (fun f u => ?_)))
  have z := q.1
  have := u.1
  rw [this] at z; omega
theorem c_drp {post : Unit → HS → Prop} {S : HS} {g : Nat} {G w : Nat → Nat} {A : Nat → List Nat} {T : TS} {e k a : Nat} (h : RepC S g G w A T) (he : e < 8) (hl : (tK T e).length ≤ 24) (ha : (A e)[k]? = some a) (hp : ∀ S', RepC S' g G w (va_up A e ((A e).eraseIdx k)) (uK T e ((tK T e).eraseIdx k)) → kr S S' → (∀ x κ, KnAt S x κ → KnAt S' x κ) → post () S') : wp_X0_drop post S (G (10 + e)) (nI k) := by
  obtain ⟨b1, b2, b3, b4, b5, b6, b7⟩ := h.E.2 e he
  obtain ⟨hn, d, hL, hd⟩ := h.L (i := e) (by omega)
  have hlen := (h.K e he).1
  have hk := (List.getElem?_eq_some_iff.mp ha).1
  exact ⟨fun c => absurd c (nI_pos (by omega)), fun _ => ⟨b2, G (20 + e), b4, hL.1, sp_size hL ⟨fun c => absurd ((nI_leI (by omega) (by omega)).mp c) (by omega), fun _ => ⟨G (20 + e), b4, hL.1, c_rem h he ha (fun S' h' k1 k2 => ⟨a, rfl, hp S' h' k1 k2⟩)⟩⟩⟩⟩
theorem take_set {l R : List Kn} {j : Nat} {κ κ' : Kn} (h : l[j]? = some κ) : (l.take (j + 1) ++ R).set j κ' = l.take j ++ κ' :: R ∧ (l.take (j + 1) ++ R)[j]? = some κ ∧ (l.take (j + 1) ++ R).eraseIdx j = l.take j ++ R := by
  obtain ⟨hl, he⟩ := List.getElem?_eq_some_iff.mp h
  have e1 : l.take (j + 1) = l.take j ++ [κ] := by rw [List.take_succ, h]; rfl
  have e2 : (l.take j).length = j := by rw [List.length_take]; omega
  rw [e1, List.append_assoc]
  refine ⟨?_, ?_, ?_⟩
  · rw [List.set_append_right _ _ (by omega), e2, Nat.sub_self]; rfl
  · rw [List.getElem?_append_right (by omega), e2, Nat.sub_self]; rfl
  · rw [List.eraseIdx_append_of_length_le (by omega), e2, Nat.sub_self]; rfl
theorem drop_older {l : List Kn} {j t : Nat} {κ : Kn} (h : l[j]? = some κ) : older t (l.drop j) = if κ.2.2.2 + t ≤ 300 then (κ.1, κ.2.1, κ.2.2.1, κ.2.2.2 + t) :: older t (l.drop (j + 1)) else older t (l.drop (j + 1)) := by
  obtain ⟨hl, he⟩ := List.getElem?_eq_some_iff.mp h
  rw [List.drop_eq_getElem_cons hl, he, older_cons]
theorem c_gr12 {post : Int32 → HS → Prop} {g : Nat} {G w : Nat → Nat} {T : TS} {l : List Kn} {e t : Nat} {x2 : Int32} (he : e < 8) (ht : t ≤ 1000) (hl : l.length ≤ 24) (ha : ∀ κ ∈ l, κ.2.2.2 ≤ 300) (hp : ∀ S' A', RepC S' g G w A' (uK T e (older t l)) → post (x2 - nI (older t l).length) S') : ∀ (j : Nat) (S : HS) (A : Nat → List Nat), j ≤ l.length → RepC S g G w A (uK T e (l.take j ++ older t (l.drop j))) → wp_X0_growOlder_12 (j + 1) post S (G (10 + e)) (nI t) x2 (nI j - 1) := by
  intro j
  induction j with
  | zero =>
    intro S A hj h
    rw [List.take_zero, List.drop_zero, List.nil_append] at h
    obtain ⟨b1, b2, b3, b4, b5, b6, b7⟩ := h.E.2 e he
    obtain ⟨hn, d, hL, hd⟩ := h.L (i := e) (by omega)
    refine ⟨fun _ => ⟨b2, G (20 + e), b4, hL.1, sp_size hL ?_⟩, fun c => absurd (by decide) c⟩
    rw [(h.K e he).1, uK_at, if_pos rfl]
    exact hp S A h
  | succ j ih =>
    intro S A hj h
    obtain ⟨b1, b2, b3, b4, b5, b6, b7⟩ := h.E.2 e he
    obtain ⟨κ, hκ⟩ := get_lt (l := l) (i := j) (by omega)
    obtain ⟨ts1, ts2, ts3⟩ := take_set (R := older t (l.drop (j + 1))) (κ' := (κ.1, κ.2.1, κ.2.2.1, κ.2.2.2 + t)) hκ
    have hage := ha κ (List.mem_of_getElem? hκ)
    have hKe : tK (uK T e (l.take (j + 1) ++ older t (l.drop (j + 1)))) e = l.take (j + 1) ++ older t (l.drop (j + 1)) := by rw [uK_at, if_pos rfl]
    have hle24 : (tK (uK T e (l.take (j + 1) ++ older t (l.drop (j + 1)))) e).length ≤ 24 := by
      have u := older_len t (l.drop (j + 1))
      rw [List.length_drop] at u
      rw [hKe, List.length_append, List.length_take]
      omega
    obtain ⟨a, haa, q1, q2⟩ := (h.K e he).at (i := j) (x := κ) (by rw [hKe]; exact ts2)
    have hdo := drop_older (t := t) hκ
    have c300 : (300 : Int32) = nI 300 := rfl
    have em : (nI j : Int32) + (-1) = nI j - 1 := by
      rw [Int32.sub_eq_add_neg]
    rw [nI_pred]
    refine ⟨fun c => absurd c (nI_pos (by omega)), fun _ => ⟨b2, c_knI (κ := κ) h he hle24 (by rw [hKe]; exact ts2) haa ⟨som, fun o ho => ?_⟩⟩⟩
    cases ho
    refine ⟨q2.1, ?_⟩
    rw [q2.2.2.2.2.2, nI_add, em]
    refine ⟨fun c => ?_, fun c => ?_⟩
    · have hle : κ.2.2.2 + t ≤ 300 := by rw [c300] at c; exact (nI_leI (by omega) (by omega)).mp c
      rw [if_pos hle] at hdo
      refine ⟨q2.1, ?_⟩
      rw [q2.2.2.2.2.2, nI_add, em]
      have h1 := h.age (t := κ.2.2.2 + t) he haa (by rw [hKe]; exact ts2)
      rw [hKe, uK_uK, ts1] at h1
      refine ih _ A (by omega) ?_
      rw [hdo]; exact h1
    · have hle : ¬ κ.2.2.2 + t ≤ 300 := by rw [c300] at c; exact fun z => c ((nI_leI (by omega) (by omega)).mpr z)
      rw [if_neg hle] at hdo
      refine c_drp h he hle24 haa (fun S2 h2 _ _ => ?_)
      rw [hKe, uK_uK, ts3] at h2
      refine ih S2 (va_up A e ((A e).eraseIdx j)) (by omega) ?_
      rw [hdo]
      exact h2
theorem c_grow {post : Int32 → HS → Prop} {S : HS} {g : Nat} {G w : Nat → Nat} {A : Nat → List Nat} {T : TS} {e t : Nat} (h : RepC S g G w A T) (he : e < 8) (ht : t ≤ 1000) (hl : (tK T e).length ≤ 24) (ha : ∀ κ ∈ tK T e, κ.2.2.2 ≤ 300) (hp : ∀ S' A', RepC S' g G w A' (uK T e (older t (tK T e))) → post (nI ((tK T e).length - (older t (tK T e)).length)) S') : wp_X0_growOlder post S (G (10 + e)) (nI t) := by
  obtain ⟨b1, b2, b3, b4, b5, b6, b7⟩ := h.E.2 e he
  obtain ⟨hn, d, hL, hd⟩ := h.L (i := e) (by omega)
  refine ⟨b2, G (20 + e), b4, hL.1, sp_size hL ⟨(tK T e).length + 1, ?_⟩⟩
  rw [(h.K e he).1]
  refine c_gr12 (g := g) (w := w) (T := T) (l := tK T e) he ht hl ha (fun S' A' h' => ?_) (tK T e).length S A (Nat.le_refl _) ?_
  · rw [nI_sub (older_len t _)]; exact hp S' A' h'
  · rw [List.take_length, List.drop_length, older_nil, List.append_nil, uK_id]; exact h
theorem c_t18 {post : Int32 → HS → Prop} {g : Nat} {G w : Nat → Nat} {T : TS} {N t : Nat} (hT : OkT T N) (ht : t ≤ 1000) (hp : ∀ S A, RepC S g G w A (t_tick T t (tN T)) → post (nI (t_tickN T t (tN T))) S) : ∀ (n j : Nat) (S : HS) (A : Nat → List Nat), j + n = tN T → RepC S g G w A (t_tick T t j) → wp_X6_tick_18 (n + 1) post S g (nI t) (nI (t_tickN T t j)) (nI j) := by
  have h8 := hT.1.2
  intro n
  induction n with
  | zero =>
    intro j S A hj h
    have : j = tN T := by omega
    subst this
    exact ⟨h.F.1, fun _ => hp S A h, fun c => absurd (by rw [h.F.2.2.2.2.2.2, (hT.tick (t := t) _).2.1]; exact (nI_leI (by omega) (by omega)).mpr (Nat.le_refl _)) c⟩
  | succ n ih =>
    intro j S A hj h
    obtain ⟨o1, o2, o3⟩ := hT.tick (t := t) j
    obtain ⟨b1, b2, -⟩ := h.E.2 j (by omega)
    have hrj : rg (nI j) (tN (t_tick T t j)) = some j := by rw [o2]; exact rg_n (by omega) (by omega)
    refine ⟨h.F.1, fun c => ?_, fun _ => c_endp h o1 (fun i hi _ _ => ⟨som, fun o ho => ?_⟩) (fun hn => ?_)⟩
    · rw [h.F.2.2.2.2.2.2, o2] at c
      exact absurd ((nI_leI (by omega) (by omega)).mp c) (by omega)
    · cases ho
      have hij : i = j := Option.some.inj (hi.symm.trans hrj)
      subst hij
      have hKj : tK (t_tick T t i) i = tK T i := by rw [t_tick_K, if_neg (by omega)]
      obtain ⟨z1, z2, z3⟩ := hT.2.2.1 i (by omega)
      refine ⟨b2, c_grow h (by omega) ht (by rw [hKj]; exact z1) (by rw [hKj]; exact fun κ hκ => (z2 κ hκ).2.2.1) (fun S' A' h' => ?_)⟩
      rw [hKj] at h' ⊢
      rw [nI_add, nI_1]
      exact ih (i + 1) S' A' (by omega) h'
    · rw [hrj] at hn; cases hn
theorem c_tick {post : Int32 → HS → Prop} {S : HS} {g : Nat} {G : Nat → Nat} {T : TS} {N : Nat} (h : RC S g G T) (hT : OkT T N) {x : Int32} (hp : ∀ S', RC S' g G (s_tick T x).2 → post (s_tick T x).1 S') : wp_X6_tick post S g x := by
  obtain ⟨w, A, h⟩ := h
  have e1 : (1 : Int32).toInt = 1 := rfl
  have e2 : (1000 : Int32).toInt = 1000 := rfl
  have e3 : (1001 : Int32).toInt = 1001 := rfl
  have e0 : (0 : Int32).toInt = 0 := rfl
  refine ⟨fun c => ?_, fun c => ⟨fun c2 => ?_, fun c2 => ?_⟩⟩
  · have : s_tick T x = (-1, T) := by
      unfold s_tick
      cases hx : rg x 1001 with
      | none => rfl
      | some m =>
        obtain ⟨m1, rfl⟩ := rg_lt hx
        have q := lt_tI.mp c
        rw [nI_tI (by omega)] at q
        show (if m = 0 then _ else _) = _
        rw [if_pos (by omega)]
    rw [this] at hp
    exact hp S ⟨w, A, h⟩
  · obtain ⟨t, y1, y2, rfl⟩ := rg_yes (x := x) (n := 1001) (y := 1001) (by omega) (fun q => c (lt_tI.mpr (by have := lt_tI.mp q; omega))) (lt_tI.mpr (by have := le_tI.mp c2; omega))
    have t0 : ¬ t = 0 := fun q => c (by rw [q]; decide)
    simp only [s_tick, y1, if_neg t0] at hp
    exact ⟨tN T + 1, c_t18 hT (by omega) (fun S' A' h' => hp S' ⟨w, A', h'⟩) (tN T) 0 S A (by omega) h⟩
  · simp only [s_tick, rg_big (x := x) (n := 1001) (y := 1001) (by omega) (le_tI.mpr (by have := lt_tI.mp (Int32.not_le.mp c2); omega))] at hp
    exact hp S ⟨w, A, h⟩
