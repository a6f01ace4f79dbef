/-! ===== the class: a frame comes ===== -/
/-- the row of frames moves on: those from j on are one further, the rest as they were -/
theorem c_take_loop {post : Unit → HS → Prop} {S0 : HS} {a r fa : Nat} (k6 : kd S0 a = 6) (h18 : fr S0 18 a = some fa) (k160 : kd S0 fa = 160) (l6 : ln S0 fa = 6) (k5 : kd S0 r = 5) (hv : ∀ k x, k < 6 → ar S0 fa k = some x → kd S0 x = 5) (hp : ∀ S', frm S0 S' (fun f x => f = 20 ∧ x = a) no2 no1 (fun x => x = fa) → fi S' 20 a = fi S0 20 a + 1 → (∀ f, f ≠ 20 → fi S' f a = fi S0 f a) → ar S' fa 0 = some r → (∀ k, 1 ≤ k → k < 6 → ar S' fa k = ar S0 fa (k - 1)) → post () S') : ∀ (j : Nat) (S : HS), j ≤ 5 → frm S0 S no2 no2 no1 (fun x => x = fa) → (∀ k, j < k → k < 6 → ar S fa k = ar S0 fa (k - 1)) → (∀ k, k ≤ j → ar S fa k = ar S0 fa k) → wp_X4_take_2 (j + 1) post S a r (nI j) := by
  intro j
  have hne : a ≠ fa := fun q => by rw [q] at k6; omega
  induction j with
  | zero =>
    intro S hj f q1 q2
    obtain ⟨a1, a2, a3, a4, a5, a6, a7, a8⟩ := f.2 a (by omega)
    obtain ⟨c1, c2, -⟩ := f.2 fa (by omega)
    obtain ⟨d1, -⟩ := f.2 r (by omega)
    have c0 : (0 : Int32).toNatClampNeg = 0 := by decide
    refine ⟨fun _ => ⟨a1.trans k6, fa, (a5 18 id).trans h18, by rw [c1, k160], d1.trans k5, by rw [c2, l6]; exact vp_in_nI (n := 0) (by omega) (by decide), ?_⟩, fun c => absurd (by decide) c⟩
    rw [c0]
    refine hp _ ((f.mono (fun _ _ z => z.elim) (fun _ _ z => z.elim) (fun _ z => z.elim) (fun _ z => z)).tr ((frm.war (wi := fun f x => f = 20 ∧ x = a) (wr := no2) (wa := no1) (wq := fun x => x = fa) (Or.inr rfl)).tr (frm.wfi (Or.inr ⟨rfl, rfl⟩)))) ?_ (fun f' hf' => ?_) ?_ (fun k hk1 hk6 => ?_)
    · rw [fi_self]
      show fi S 20 a + 1 = _
      rw [a3 20 id]
    · rw [fi_ne _ _ _ _ (Or.inl hf')]
      exact a3 f' id
    · show ar (sar S fa 0 (some r)) fa 0 = some r
      rw [ar_self, if_pos rfl]
    · show ar (sar S fa 0 (some r)) fa k = _
      rw [ar_self, if_neg (by omega)]
      exact q1 k (by omega) hk6
  | succ j ih =>
    intro S hj f q1 q2
    obtain ⟨a1, a2, a3, a4, a5, a6, a7, a8⟩ := f.2 a (by omega)
    obtain ⟨c1, c2, -⟩ := f.2 fa (by omega)
    have e18 : fr S 18 a = some fa := (a5 18 id).trans h18
    have kfa : kd S fa / 32 = 5 := by rw [c1, k160]
    have em : (nI (j + 1) : Int32) + (-1) = nI j := by
      rw [← Int32.sub_eq_add_neg, nI_pred]
    have hin : vp_in (nI (j + 1)) (ln S fa) := by rw [c2, l6]; exact vp_in_nI (by omega) (by decide)
    have hnx : ∀ v, ar S fa j = v → wp_X4_take_2 (j + 1) post (sar S fa (j + 1) v) a r (nI j) := fun v hv' => by
      refine ih _ (by omega) (f.tr (frm.war (Or.inr rfl))) (fun k hk hk6 => ?_) (fun k hk => ?_)
      · rw [ar_self]
        by_cases z : k = j + 1
        · rw [if_pos z, ← hv', z, Nat.add_sub_cancel]
          exact q2 j (by omega)
        · rw [if_neg z]; exact q1 k (by omega) hk6
      · rw [ar_self, if_neg (by omega)]; exact q2 k (by omega)
    refine ⟨fun c => absurd ((nI_leI (b := 0) (by omega) (by omega)).mp c) (by omega), fun _ => ⟨a1.trans k6, fa, e18, fa, e18, kfa, ?_⟩⟩
    rw [nI_pred, nI_clamp (n := j) (by omega), nI_clamp (n := j + 1) (by omega), em]
    refine ⟨by rw [c2, l6]; exact vp_in_nI (by omega) (by decide), fun z => ⟨kfa, hin, hnx none z⟩, fun o z => ⟨kfa, ?_, hin, hnx (some o) z⟩⟩
    rw [q2 j (by omega)] at z
    have := hv j o (by omega) z
    rw [(f.2 o (by omega)).1]; exact this
theorem c_take {post : Unit → HS → Prop} {S : HS} {g : Nat} {G w : Nat → Nat} {A : Nat → List Nat} {T : TS} {k a r c n : Nat} {s : Sta} {b : List Nat} (h : RepC S g G w A T) (ha : (A 8)[k]? = some a) (hs : (tS T)[k]? = some s) (hr : RowAt S r c n b) (hwr : w r = 2) (hwc : w c = r + 1) (hp : ∀ S', RepC S' g G w A (uS T ((tS T).set k (come b s))) → kr S S' → post () S') : wp_X4_take post S a r := by
  obtain ⟨wa0, q0⟩ := h.S.2 k a s ha hs
  obtain ⟨k6, q1, q2, q3, q4, fa, q5, q6, k160, q7, q8⟩ := id q0
  have hne : a ≠ fa := fun q => by rw [q] at k6; omega
  refine ⟨6, c_take_loop k6 q5 k160 q7 hr.1.1 (fun j x hj hx => ?_) (fun S' f f20 ff ar0 ar1 => ?_) 5 S (by omega) frm.rf (fun k a b => absurd a (by omega)) (fun _ _ => rfl)⟩
  · cases hb : s.2.2.2.2[j]? with
    | none => rw [(q8 j hj).2 hb] at hx; cases hx
    | some b' =>
      obtain ⟨r', c', n', z1, z2, z3, z4⟩ := (q8 j hj).1 b' hb
      rw [hx] at z1; cases z1
      exact z4.1.1
  · have kk : kr S S' := f.kr (fun r hr z => absurd z.1 (by decide)) (fun _ _ => id) (fun _ _ => id)
    refine hp S' (h.sta ha hs ⟨k160, q6⟩ (f.mono (fun f x z => z.2) (fun _ _ z => z) (fun _ z => z) (fun _ z => z)) ?_) kk
    obtain ⟨a1, a2, a3, a4, a5, a6, a7, a8⟩ := f.2 a (by omega)
    obtain ⟨c1, c2, -⟩ := f.2 fa (by omega)
    refine ⟨a1.trans k6, (ff 16 (by decide)).trans q1, (a4 17).trans q2, (ff 19 (by decide)).trans q3, ?_, fa, (a5 18 id).trans q5, q6, c1.trans k160, c2.trans q7, fun j hj => ?_⟩
    · rw [f20, q4, nI_1]; rfl
    · show (∀ b', ((b :: s.2.2.2.2).take 6)[j]? = some b' → _) ∧ (((b :: s.2.2.2.2).take 6)[j]? = none → _)
      rw [List.getElem?_take_of_lt hj]
      cases j with
      | zero =>
        refine ⟨fun b' hb' => ?_, fun hb' => by simp at hb'⟩
        have : b = b' := by simpa using hb'
        subst this
        exact ⟨r, c, n, ar0, hwr, hwc, kk.2 _ _ _ _ hr⟩
      | succ j =>
        rw [ar1 (j + 1) (by omega) hj, Nat.add_sub_cancel]
        obtain ⟨u1, u2⟩ := q8 j (by omega)
        refine ⟨fun b' hb' => ?_, fun hb' => u2 (by simpa using hb')⟩
        obtain ⟨r', c', n', z1, z2, z3, z4⟩ := u1 b' (by simpa using hb')
        exact ⟨r', c', n', z1, z2, z3, kk.2 _ _ _ _ z4⟩
theorem uS_uS (T : TS) (s t : List Sta) : uS (uS T s) t = uS T t := rfl
theorem c_all_loop {post : Unit → HS → Prop} {g : Nat} {G w : Nat → Nat} {A : Nat → List Nat} {T : TS} {N e net : Nat} {but : Option Nat} {b : List Nat} {r c n0 : Nat} (hT : OkT T N) (he : e < 8) (hnet : net < 16777216) (hbut : ∀ k, but = some k → k < 32) (hwr : w r = 2) (hwc : w c = r + 1) : ∀ (n i : Nat) (S : HS), i + n = (tS T).length → RepC S g G w A (uS T (partA (tS T) e net but b i)) → RowAt S r c n0 b → (∀ S', RepC S' g G w A (t_all T e net but b) → kr S S' → post () S') → wp_X6_comeToAll_3 (n + 1) post S g r (nI e) (nI net) (bui but) (nI i) := by
  have h32 := hT.2.1.1
  have h8 := hT.1.2
  intro n
  induction n with
  | zero =>
    intro i S hi h hr hp
    obtain ⟨-, d, hL, -⟩ := h.L (i := 8) (by omega)
    have hlen : (A 8).length = (tS T).length := by have := h.S.1; rw [this]; exact partA_len _ _ _ _ _ _
    have : i = (tS T).length := by omega
    subst this
    refine ⟨h.F.1, G 28, h.F.2.2.1, hL.1, sp_size hL ⟨fun _ => hp S ?_ kr.rf, fun c => absurd ?_ c⟩⟩
    · rw [partA_all] at h; exact h
    · rw [hlen]; exact (nI_leI (by omega) (by omega)).mpr (Nat.le_refl _)
  | succ n ih =>
    intro i S hi h hr hp
    obtain ⟨-, d, hL, -⟩ := h.L (i := 8) (by omega)
    have hlen : (A 8).length = (tS T).length := by have := h.S.1; rw [this]; exact partA_len _ _ _ _ _ _
    obtain ⟨s, hs⟩ := get_lt (l := tS T) (i := i) (by omega)
    have hs' : (tS (uS T (partA (tS T) e net but b i)))[i]? = some s := by
      show (partA (tS T) e net but b i)[i]? = some s
      rw [partA_get, hs]
      simp
    obtain ⟨a, ha, wa, q⟩ := h.S.at hs'
    have hm := hT.2.1.2 s (List.mem_of_getElem? hs)
    have f22 := h.F.2.2.1
    have hle : (tS (uS T (partA (tS T) e net but b i))).length ≤ 32 := by
      show (partA (tS T) e net but b i).length ≤ 32
      rw [partA_len]; exact h32
    have skip : isTh e net but i s = false → wp_X6_comeToAll_3 (n + 1) post S g r (nI e) (nI net) (bui but) (nI i + 1) := fun z => by
      rw [nI_1]
      exact ih (i + 1) S (by omega) (by rw [partA_no hs z]; exact h) hr hp
    refine ⟨h.F.1, G 28, f22, hL.1, sp_size hL ?_⟩
    rw [hlen]
    refine ⟨fun c => absurd ((nI_leI (by omega) (by omega)).mp c) (by omega), fun _ => c_statI h hle hs' ha ⟨som, fun o ho => ?_⟩⟩
    cases ho
    refine ⟨fun c => skip ?_, fun c => ⟨q.1, q.1, ?_⟩⟩
    · have := (bui_ne hbut (by omega)).mp c
      simp [isTh, this]
    · have hnb : ¬ some i = but := fun z => c ((bui_ne hbut (by omega)).mpr z)
      rw [q.2.2.2.1, q.2.1]
      refine ⟨fun c1 => ⟨fun _ => skip ?_, fun c => absurd rfl c⟩, fun c1 => ⟨fun c2 => ⟨fun _ => skip ?_, fun c => absurd rfl c⟩, fun c2 => ⟨fun c => absurd c n01, fun _ => ?_⟩⟩⟩
      · have : ¬ s.1 = e := fun z => c1 (by rw [z])
        simp [isTh, this]
      · have : ¬ s.2.1 = net := fun z => c2 (by rw [z])
        simp [isTh, this]
      · have e1 : s.1 = e := (nI_eq (by have := hm.1; omega) (by omega)).mp c1
        have e2 : s.2.1 = net := (nI_eq (by have := hm.2.1; omega) (by omega)).mp c2
        have hy : isTh e net but i s = true := by simp [isTh, hnb, e1, e2]
        refine c_take h ha hs' hr hwr hwc (fun S' h' k' => ?_)
        rw [nI_1]
        refine ih (i + 1) S' (by omega) ?_ (k'.2 _ _ _ _ hr) (fun S'' h'' k'' => hp S'' h'' (k'.tr k''))
        rw [partA_yes hs hy]
        exact h'
theorem c_all {post : Unit → HS → Prop} {S : HS} {g : Nat} {G w : Nat → Nat} {A : Nat → List Nat} {T : TS} {N e net : Nat} {but : Option Nat} {b : List Nat} {r c n0 : Nat} (h : RepC S g G w A T) (hT : OkT T N) (he : e < 8) (hnet : net < 16777216) (hbut : ∀ k, but = some k → k < 32) (hr : RowAt S r c n0 b) (hwr : w r = 2) (hwc : w c = r + 1) (hp : ∀ S', RepC S' g G w A (t_all T e net but b) → kr S S' → post () S') : wp_X6_comeToAll post S g r (nI e) (nI net) (bui but) :=
  ⟨(tS T).length + 1, c_all_loop hT he hnet hbut hwr hwc (tS T).length 0 S (by omega) (by rw [partA_0]; exact h) hr hp⟩
theorem c_one {post : Unit → HS → Prop} {S : HS} {g : Nat} {G w : Nat → Nat} {A : Nat → List Nat} {T : TS} {N e st : Nat} {b : List Nat} {r c n0 : Nat} (h : RepC S g G w A T) (hT : OkT T N) (he : e < 8) (hst : st < (tS T).length) (hr : RowAt S r c n0 b) (hwr : w r = 2) (hwc : w c = r + 1) (hp : ∀ S', RepC S' g G w A (t_one T e st b) → kr S S' → post () S') : wp_X6_comeToOne post S g r (nI e) (nI st) := by
  have h32 := hT.2.1.1
  have h8 := hT.1.2
  refine ⟨h.F.1, c_stat h hT (fun j s a hj hs ha hx _ q => ⟨som, fun o ho => ?_⟩) (fun hj => ?_)⟩
  · cases ho
    have : j = st := by
      rw [rg_n hst (by omega)] at hj
      exact (Option.some.inj hj).symm
    subst this
    have hm := (hT.2.1.2 s (List.mem_of_getElem? hs)).1
    refine ⟨q.1, ?_⟩
    rw [q.2.2.2.1]
    refine ⟨fun c1 => ?_, fun c1 => ?_⟩
    · have ne : ¬ s.1 = e := fun z => c1 (by rw [z])
      have : t_one T e j b = T := by simp only [t_one, hs, ne, if_false]
      rw [this] at hp
      exact hp S h kr.rf
    · have eq : s.1 = e := (nI_eq (by omega) (by omega)).mp c1
      have : t_one T e j b = uS T ((tS T).set j (come b s)) := by simp only [t_one, hs, eq, if_true]
      rw [this] at hp
      exact c_take h ha hs hr hwr hwc hp
  · rw [rg_n hst (by omega)] at hj; cases hj
