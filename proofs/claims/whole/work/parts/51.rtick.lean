/-! ===== what holds of every state: send, tick ===== -/
theorem OkT.send {T : TS} {N st dst ty : Nat} {s : Sta} (h : OkT T N) (hs : (tS T)[st]? = some s) (h40 : (tT T).length ≤ 40) : OkT (t_send T st dst ty s).2 (N + 1) := by
  have hsl := (List.getElem?_eq_some_iff.mp hs).1
  obtain ⟨m1, m2, m3, m4, m5⟩ := h.2.1.2 s (List.mem_of_getElem? hs)
  obtain ⟨t1, t2⟩ := h.2.2.2.2.1
  have hT1 : OkT (uT T []) N := h.t By.nil (Nat.zero_le _)
  have hT2 : OkT (t_learn (uT T []) s.1 s.2.1 s.2.2.1 (Sum.inl st)) N := hT1.learn m1 ⟨m2, m3, Nat.zero_le _, hsl⟩
  obtain ⟨n1, n2, n3, n4, n5, n6⟩ := t_learn_N (uT T []) s.1 s.2.1 s.2.2.1 (Sum.inl st)
  have hb : By (frmOf dst s.2.2.1 ty (tT T)) := frm_by t1
  have hbl : (frmOf dst s.2.2.1 ty (tT T)).length ≤ 54 := by rw [frm_len]; omega
  unfold t_send
  dsimp only
  split
  · exact (hT2.all hb (by omega)).goAll hb hbl _ (Nat.le_of_eq n1.symm)
  · rename_i e he
    have hd : e < tN (t_learn (uT T []) s.1 s.2.1 s.2.2.1 (Sum.inl st)) := by
      unfold whr at he
      split at he
      · cases he
      · cases hf : fnd (tK (t_learn (uT T []) s.1 s.2.1 s.2.2.1 (Sum.inl st)) s.1) s.2.1 dst with
        | none => rw [hf] at he; cases he
        | some k =>
          rw [hf] at he
          obtain ⟨κ, hκ, -⟩ := fnd_spec hf
          have he' : some (kPl (tK (t_learn (uT T []) s.1 s.2.1 s.2.2.1 (Sum.inl st)) s.1) k) = some (Sum.inr e) := he
          rw [kPl_at hκ] at he'
          have h18 := h.1.2
          have := ((hT2.2.2.1 s.1 (by omega)).2.1 κ (List.mem_of_getElem? hκ)).2.2.2
          rw [Option.some.inj he'] at this
          exact this.1
    exact (hT2.go hd hb hbl).up (Nat.le_succ _)
  · show OkT (if _ then _ else _) _
    split
    · exact hT2.up (Nat.le_succ _)
    · exact hT2.one hb (by omega)
/-! ===== tick, in the reference ===== -/
/-- the first j of the list are old already, the rest not yet -/
theorem older_nil (t : Nat) : older t [] = [] := rfl
theorem older_cons (t : Nat) (k : Kn) (l : List Kn) : older t (k :: l) = if k.2.2.2 + t ≤ 300 then (k.1, k.2.1, k.2.2.1, k.2.2.2 + t) :: older t l else older t l := by
  unfold older
  simp only [List.map_cons]
  by_cases h : k.2.2.2 + t ≤ 300
  · rw [if_pos h, List.filter_cons_of_pos (by simpa using h)]
  · rw [if_neg h, List.filter_cons_of_neg (by simpa using h)]
theorem older_len (t : Nat) : ∀ l : List Kn, (older t l).length ≤ l.length
  | [] => by simp [older]
  | k :: l => by
    rw [older_cons]
    have := older_len t l
    split
    · simp; omega
    · simp; omega
theorem OkT.tick {T : TS} {N t : Nat} (h : OkT T N) : ∀ j, OkT (t_tick T t j) N ∧ tN (t_tick T t j) = tN T ∧ tS (t_tick T t j) = tS T
  | 0 => ⟨h, rfl, rfl⟩
  | j + 1 => by
    obtain ⟨i1, i2, i3⟩ := h.tick (t := t) j
    refine ⟨?_, i2, i3⟩
    show OkT (uK (t_tick T t j) j (older t (tK T j))) N
    by_cases h8 : j < 8
    · obtain ⟨a1, a2, a3⟩ := h.2.2.1 j h8
      refine i1.k (Nat.le_trans (older_len t _) a1) (fun k hk => ?_) (fun q => ?_)
      · unfold older at hk
        obtain ⟨h1, h2⟩ := List.mem_filter.mp hk
        obtain ⟨κ, hκ, rfl⟩ := List.mem_map.mp h1
        obtain ⟨z1, z2, z3, z4⟩ := a2 κ hκ
        rw [i2, i3]
        exact ⟨z1, z2, by simpa using h2, z4⟩
      · rw [i2] at q
        rw [a3 q]; rfl
    · refine ⟨i1.1, i1.2.1, fun d hd => ?_, i1.2.2.2⟩
      show (tK (uK (t_tick T t j) j (older t (tK T j))) d).length ≤ 24 ∧ (∀ k ∈ tK (uK (t_tick T t j) j (older t (tK T j))) d, Okk (tN (t_tick T t j)) d (tS (t_tick T t j)).length k) ∧ (tN (t_tick T t j) ≤ d → tK (uK (t_tick T t j) j (older t (tK T j))) d = [])
      rw [uK_at, if_neg (by omega)]
      exact i1.2.2.1 d hd
theorem t_tick_K (T : TS) (t : Nat) : ∀ j d, tK (t_tick T t j) d = if d < j then older t (tK T d) else tK T d
  | 0, d => by rw [if_neg (by omega)]; rfl
  | j + 1, d => by
    show tK (uK (t_tick T t j) j (older t (tK T j))) d = _
    rw [uK_at, t_tick_K T t j d]
    by_cases h : d = j
    · subst h; rw [if_pos rfl, if_pos (by omega)]
    · rw [if_neg h]
      by_cases h2 : d < j
      · rw [if_pos h2, if_pos (by omega)]
      · rw [if_neg h2, if_neg (by omega)]
theorem uK_same {T : TS} {e : Nat} {l m : List Kn} : uK (uK T e l) e m = uK T e m := uK_uK T e l m
theorem RV.k {S S' : HS} {o : Nat} {R : Nat → Nat} {T T' : TS} (h : RV S o R T) (hM : RM S' o R) (g : rfm S S' o R (fun _ => false) wjK) (hK : RvK S' R T') (e1 : tN T' = tN T) (e2 : tS T' = tS T) (e3 : tW T' = tW T) (e4 : tQ T' = tQ T) (e5 : tT T' = tT T) (e6 : tF T' = tF T) (e7 : tC T' = tC T) : RV S' o R T' :=
  h.kc hM (g.mono (fun _ _ => rfl) (fun j z => (Bool.or_eq_false_iff.mp z).1)) hK (h.2.2.2.2.2.2.2.2.fr g e7 rfl) e1 e2 e3 e4 e5 e6
/-- the inner loop: done is what stands before k, todo what is left -/
theorem q_t32 {post : Int32 → HS → Prop} {K : HS → Nat → Int32 → Int32 → Int32 → Prop} {o : Nat} {R : Nat → Nat} {t e : Nat} (he : e < 8) (ht : t ≤ 1000) (T : TS) (h24 : ∀ d, d < 8 → (tK T d).length ≤ 24) : ∀ (todo done : List Kn) (c : Nat) (S : HS), done.length + todo.length ≤ 24 → (∀ κ ∈ todo, κ.2.2.2 ≤ 300) → RV S o R (uK T e (done ++ todo)) → (∀ S', RV S' o R (uK T e (done ++ older t todo)) → K S' o (nI t) (nI (c + (todo.length - (older t todo).length))) (nI e + 1)) → wq_X7_tick_32 (todo.length + 1) post R K S o (nI t) (nI c) (nI e) (nI (24 * e + done.length)) := by
  intro todo
  induction todo with
  | nil =>
    intro done c S hl ha h hp
    have hk := (h.2.2.2.2.2.1 e he).1
    rw [uK_at, if_pos rfl, List.append_nil] at hk
    refine ⟨vp_in_nI he (by decide), ?_⟩
    rw [nI_clamp (by omega), hk, nI_24, nI_add]
    refine ⟨fun _ => hp S h, fun c => absurd ((nI_leI (by have : done.length + 0 ≤ 24 := hl; omega) (by have : done.length + 0 ≤ 24 := hl; omega)).mpr (Nat.le_refl _)) c⟩
  | cons κ todo ih =>
    intro done c S hl ha h hp
    have hl' : done.length + (todo.length + 1) ≤ 24 := hl
    have hM := h.1
    have hR := hM.inj
    obtain ⟨hk, hk2⟩ := h.2.2.2.2.2.1 e he
    rw [uK_at, if_pos rfl] at hk hk2
    have hget : (done ++ κ :: todo)[done.length]? = some κ := by simp
    obtain ⟨-, -, -, g4⟩ := hk2 done.length κ hget
    have hage := ha κ (List.mem_cons_self ..)
    have hin : vp_in (nI (24 * e + done.length)) 192 := vp_in_nI (by omega) (by decide)
    refine ⟨vp_in_nI he (by decide), ?_⟩
    rw [nI_clamp (n := e) (by omega), hk, nI_24, nI_add]
    refine ⟨fun q => absurd ((nI_leI (by simp; omega) (by omega)).mp q) (by simp), fun _ => ⟨hin, hin, hin, ?_⟩⟩
    rw [nI_clamp (n := 24 * e + done.length) (by omega), g4, nI_64 (by omega), lN_add, lg_cmp_le]
    generalize hS1 : sal S (R 12) (24 * e + done.length) (lN (κ.2.2.2 + t)) = S1
    have M1 : RM S1 o R := by rw [← hS1]; exact hM.wal
    have g1 : rfm S S1 o R (fun _ => false) wjK := by rw [← hS1]; exact rfm.wal hM (by decide) rfl
    have a1 : ai S1 = ai S := by rw [← hS1]; rfl
    have l10 : al S1 (R 10) = al S (R 10) := by rw [← hS1]; exact al_ne _ _ _ _ (hM.ne (by decide) (by decide) (by decide))
    have l12 : ∀ x, al S1 (R 12) x = if x = 24 * e + done.length then lN (κ.2.2.2 + t) else al S (R 12) x := fun x => by rw [← hS1, al_self]
    rw [l12, if_pos rfl]
    -- the state with the one aged
    have hK1 : RvK S1 R (uK T e (done ++ (κ.1, κ.2.1, κ.2.2.1, κ.2.2.2 + t) :: todo)) := fun d hd => by
      obtain ⟨b1, b2⟩ := h.2.2.2.2.2.1 d hd
      rw [uK_at] at b1 b2 ⊢
      rw [a1, l10]
      by_cases q : d = e
      · subst q
        rw [if_pos rfl] at b1 b2 ⊢
        refine ⟨by rw [b1]; simp, fun k x hx => ?_⟩
        by_cases z : k = done.length
        · subst z
          have hx' : some (κ.1, κ.2.1, κ.2.2.1, κ.2.2.2 + t) = some x := by rw [← hx]; simp
          cases hx'
          obtain ⟨y1, y2, y3, y4⟩ := b2 done.length κ hget
          rw [l12, if_pos rfl]
          exact ⟨y1, y2, y3, rfl⟩
        · have hx' : (done ++ κ :: todo)[k]? = some x := by
            rw [← hx]
            by_cases z2 : k < done.length
            · rw [List.getElem?_append_left z2, List.getElem?_append_left z2]
            · rw [List.getElem?_append_right (by omega), List.getElem?_append_right (by omega)]
              obtain ⟨m, hm⟩ : ∃ m, k - done.length = m + 1 := ⟨k - done.length - 1, by omega⟩
              rw [hm]; rfl
          rw [l12, if_neg (by omega)]
          exact b2 k x hx'
      · rw [if_neg q] at b1 b2 ⊢
        refine ⟨b1, fun k x hx => ?_⟩
        have hkl := (List.getElem?_eq_some_iff.mp hx).1
        have := h24 d hd
        rw [l12, if_neg (by omega)]
        exact b2 k x hx
    have h1 : RV S1 o R (uK T e (done ++ (κ.1, κ.2.1, κ.2.2.1, κ.2.2.2 + t) :: todo)) := h.k M1 g1 hK1 rfl rfl rfl rfl rfl rfl rfl
    have c300 : (300 : Int64) = lN 300 := rfl
    rw [older_cons] at hp
    refine ⟨fun q => ?_, fun q => ?_⟩
    · have hle : κ.2.2.2 + t ≤ 300 := by
        rw [c300] at q
        exact (pk_lLE (by omega) (by omega)).mp q
      rw [if_pos hle] at hp
      rw [nI_1, show 24 * e + done.length + 1 = 24 * e + (done ++ [(κ.1, κ.2.1, κ.2.2.1, κ.2.2.2 + t)]).length from by simp; omega]
      refine ih (done ++ [(κ.1, κ.2.1, κ.2.2.1, κ.2.2.2 + t)]) c S1 (by simp; omega) (fun x hx => ha x (List.mem_cons_of_mem _ hx)) (by rw [List.append_assoc]; exact h1) (fun S' h' => ?_)
      rw [List.append_assoc] at h'
      have e1 : (κ :: todo).length - ((κ.1, κ.2.1, κ.2.2.1, κ.2.2.2 + t) :: older t todo).length = todo.length - (older t todo).length := by simp
      rw [e1] at hp
      exact hp S' h'
    · have hle : ¬ κ.2.2.2 + t ≤ 300 := by
        rw [c300] at q
        exact fun z => q ((pk_lLE (by omega) (by omega)).mpr z)
      rw [if_neg hle] at hp
      have hkl : done.length < (tK (uK T e (done ++ (κ.1, κ.2.1, κ.2.2.1, κ.2.2.2 + t) :: todo)) e).length := by rw [uK_at, if_pos rfl]; simp
      have h24' : ∀ d, d < 8 → (tK (uK T e (done ++ (κ.1, κ.2.1, κ.2.2.1, κ.2.2.2 + t) :: todo)) d).length ≤ 24 := uK_len h24 (by simp; omega)
      refine q_remove M1 hK1 h24' he hkl (fun S2 M2 g2 hK2 => ?_)
      have e2 : uK (uK T e (done ++ (κ.1, κ.2.1, κ.2.2.1, κ.2.2.2 + t) :: todo)) e ((tK (uK T e (done ++ (κ.1, κ.2.1, κ.2.2.1, κ.2.2.2 + t) :: todo)) e).eraseIdx done.length) = uK T e (done ++ todo) := by
        rw [uK_uK, uK_at, if_pos rfl, List.eraseIdx_append_of_length_le (Nat.le_refl _), Nat.sub_self]
        rfl
      have h2 : RV S2 o R (uK T e (done ++ todo)) := by
        rw [e2] at hK2
        exact h1.k M2 g2 hK2 rfl rfl rfl rfl rfl rfl rfl
      rw [nI_1]
      refine ih done (c + 1) S2 (by omega) (fun x hx => ha x (List.mem_cons_of_mem _ hx)) h2 (fun S' h' => ?_)
      have := older_len t todo
      have e1 : c + ((κ :: todo).length - (older t todo).length) = c + 1 + (todo.length - (older t todo).length) := by simp; omega
      rw [e1] at hp
      exact hp S' h'
theorem uK_id (T : TS) (e : Nat) : uK T e (tK T e) = T := by
  unfold uK
  have : va_up (tK T) e (tK T e) = tK T := by
    funext d
    unfold va_up
    split
    · rename_i q; rw [q]
    · rfl
  rw [this]; rfl
theorem q_t18 {post : Int32 → HS → Prop} {o : Nat} {R : Nat → Nat} {T : TS} {N t : Nat} (hT : OkT T N) (ht : t ≤ 1000) (hp : ∀ S, RV S o R (t_tick T t (tN T)) → post (nI (t_tickN T t (tN T))) S) : ∀ (n j : Nat) (S : HS), j + n = tN T → RV S o R (t_tick T t j) → wq_X7_tick_18 (n + 1) post R S o (nI t) (nI (t_tickN T t j)) (nI j) := by
  have h8 := hT.1.2
  intro n
  induction n with
  | zero =>
    intro j S hj h
    have : j = tN T := by omega
    subst this
    exact ⟨fun _ => hp S h, fun c => absurd (by rw [h.2.1, (hT.tick (t := t) _).2.1]; exact (nI_leI (by omega) (by omega)).mpr (Nat.le_refl _)) c⟩
  | succ n ih =>
    intro j S hj h
    obtain ⟨o1, o2, o3⟩ := hT.tick (t := t) j
    refine ⟨fun c => ?_, fun _ => ⟨(tK T j).length + 1, ?_⟩⟩
    · rw [h.2.1, o2] at c
      exact absurd ((nI_leI (by omega) (by omega)).mp c) (by omega)
    · have hKj : tK (t_tick T t j) j = tK T j := by rw [t_tick_K, if_neg (by omega)]
      obtain ⟨a1, a2, a3⟩ := hT.2.2.1 j (by omega)
      rw [nI_24, show 24 * j = 24 * j + ([] : List Kn).length from rfl]
      refine q_t32 (by omega) ht (t_tick T t j) (fun d hd => (o1.2.2.1 d hd).1) (tK T j) [] (t_tickN T t j) S (by simpa using a1) (fun κ hκ => (a2 κ hκ).2.2.1) ?_ (fun S' h' => ?_)
      · rw [List.nil_append, ← hKj, uK_id]; exact h
      · rw [nI_1]
        exact ih (j + 1) S' (by omega) h'
theorem v_tick {post : Int32 → HS → Prop} {S : HS} {o : Nat} {R : Nat → Nat} {T : TS} {N : Nat} (h : RV S o R T) (hT : OkT T N) {x : Int32} (hp : ∀ S', RV S' o R (s_tick T x).2 → post (s_tick T x).1 S') : wq_X7_tick post R S o x := by
  have e1 : (1 : Int32).toInt = 1 := rfl
  have e2 : (1000 : Int32).toInt = 1000 := rfl
  have e3 : (1001 : Int32).toInt = 1001 := rfl
  have e0 : (0 : Int32).toInt = 0 := rfl
  refine ⟨fun c => ?_, fun c => ⟨fun c2 => ?_, fun c2 => ?_⟩⟩
  · have : s_tick T x = (-1, T) := by
      unfold s_tick
      cases hx : rg x 1001 with
      | none => rfl
      | some m =>
        obtain ⟨m1, rfl⟩ := rg_lt hx
        have q := lt_tI.mp c
        rw [nI_tI (by omega)] at q
        show (if m = 0 then _ else _) = _
        rw [if_pos (by omega)]
    rw [this] at hp
    exact hp S h
  · obtain ⟨t, y1, y2, rfl⟩ := rg_yes (x := x) (n := 1001) (y := 1001) (by omega) (fun q => c (lt_tI.mpr (by have := lt_tI.mp q; omega))) (lt_tI.mpr (by have := le_tI.mp c2; omega))
    have t0 : ¬ t = 0 := fun q => c (by rw [q]; decide)
    simp only [s_tick, y1, if_neg t0] at hp
    exact ⟨tN T + 1, q_t18 hT (by omega) hp (tN T) 0 S (by omega) h⟩
  · simp only [s_tick, rg_big (x := x) (n := 1001) (y := 1001) (by omega) (le_tI.mpr (by have := lt_tI.mp (Int32.not_le.mp c2); omega))] at hp
    exact hp S h
