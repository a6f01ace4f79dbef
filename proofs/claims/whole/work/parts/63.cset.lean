/-! ===== the class: calls that set ===== -/
def kr (S S' : HS) : Prop := (∀ x, kd S x ≠ 0 → kd S' x = kd S x) ∧ ∀ r c n b, RowAt S r c n b → RowAt S' r c n b
theorem kr.rf {S : HS} : kr S S := ⟨fun _ _ => rfl, fun _ _ _ _ h => h⟩
theorem kr.tr {S S' S'' : HS} (h : kr S S') (g : kr S' S'') : kr S S'' := ⟨fun x hx => (g.1 x (by rw [h.1 x hx]; exact hx)).trans (h.1 x hx), fun r c n b q => g.2 r c n b (h.2 r c n b q)⟩
theorem sam.tr {S S' : HS} {w w1 w2 : Nat → Nat} (h1 : sam S w w1) (k : kr S S') (h2 : sam S' w1 w2) : sam S w w2 := fun x hx hw => (h2 x (by rw [k.1 x hx]; exact hx) (by rw [h1 x hx hw]; exact hw)).trans (h1 x hx hw)
theorem frm.kr {S S' : HS} {wi wr : Nat → Nat → Prop} {wa wq : Nat → Prop} (g : frm S S' wi wr wa wq) (h1 : ∀ r, kd S r = 5 → ¬ wi 15 r) (h2 : ∀ r, kd S r = 5 → ¬ wr 14 r) (h3 : ∀ c, kd S c = 33 → ¬ wa c) : kr S S' := ⟨fun x hx => (g.2 x hx).1, fun r c n b h => h.fr g (h1 r h.1.1) (h2 r h.1.1) (h3 c h.1.2.2.1)⟩
theorem c_tally {post : Unit → HS → Prop} {S : HS} {g : Nat} {G w : Nat → Nat} {A : Nat → List Nat} {T : TS} (h : RepC S g G w A T) {k : Nat} (hk : k < 13) (hp : ∀ S', RepC S' g G w A (uC T k) → kr S S' → post () S') : wp_X6_tally post S g (nI k) := by
  obtain ⟨a1, a2, a3⟩ := h.C
  have hin : vp_in (nI k) (ln S (G 3)) := by rw [a2]; exact vp_in_nI (by omega) (by decide)
  refine ⟨fun c => absurd c (nI_pos (by omega)), fun _ => ⟨fun c => absurd ((nI_leI (a := 13) (by omega) (by omega)).mp c) (by omega), fun _ => ⟨h.F.1, G 3, h.F.2.2.2.2.2.1, by rw [a1], hin, hin, ?_⟩⟩⟩
  rw [nI_clamp (by omega), a3 k hk, nI_1]
  refine hp _ (h.tally hk) ((frm.wai (wi := no2) (wr := no2) (wa := fun x => x = G 3) (wq := no1) rfl).kr (fun _ _ => id) (fun _ _ => id) (fun c hc q => ?_))
  rw [q, a1] at hc; cases hc
theorem c_has_loop {post : Int32 → HS → Prop} {S : HS} {g : Nat} {G w : Nat → Nat} {A : Nat → List Nat} {T : TS} {N : Nat} (h : RepC S g G w A T) (hT : OkT T N) {e net : Nat} (he : e < 8) (hnet : net < 16777216) (hp : post (if t_has T e net then 1 else 0) S) : ∀ (k i : Nat), i + k = (tS T).length → hasF ((tS T).drop i) e net = t_has T e net → wp_X6_hasNet_2 (k + 1) post S g (nI e) (nI net) (nI i) := by
  have hl := hT.2.1.1
  obtain ⟨f0, f21, f22, f23, f24, f25, f26⟩ := h.F
  obtain ⟨-, d, hL, -⟩ := h.L (i := 8) (by omega)
  have hlen := h.S.1
  intro k
  induction k with
  | zero =>
    intro i hi hb
    rw [List.drop_eq_nil_of_le (by omega)] at hb
    have hb' : t_has T e net = false := by rw [← hb]; rfl
    refine ⟨f0, G 28, f22, hL.1, sp_size hL ⟨fun _ => ?_, fun c => absurd ?_ c⟩⟩
    · rw [hb'] at hp; exact hp
    · rw [hlen]; exact (nI_leI (by omega) (by omega)).mpr (by omega)
  | succ k ih =>
    intro i hi hb
    obtain ⟨s, hs⟩ := get_lt (l := tS T) (i := i) (by omega)
    obtain ⟨a, ha, q1, q2⟩ := h.S.at hs
    have hm := hT.2.1.2 s (List.mem_of_getElem? hs)
    have hd : (tS T).drop i = s :: (tS T).drop (i + 1) := by
      rw [List.drop_eq_getElem_cons (by omega : i < (tS T).length)]
      congr 1
      exact Option.some.inj ((List.getElem?_eq_getElem (by omega)).symm.trans hs)
    rw [hd] at hb
    have go : ¬ (s.1 = e ∧ s.2.1 = net) → wp_X6_hasNet_2 (k + 1) post S g (nI e) (nI net) (nI i + 1) := fun q => by
      rw [nI_1]
      refine ih (i + 1) (by omega) ?_
      rw [← hb]
      simp only [hasF, List.any_cons, decide_eq_false q, Bool.false_or]
    refine ⟨f0, G 28, f22, hL.1, sp_size hL ⟨fun c => ?_, fun _ => ?_⟩⟩
    · rw [hlen] at c
      exact absurd ((nI_leI (by omega) (by omega)).mp c) (by omega)
    · refine c_statI h hl hs ha ⟨som, fun o ho => ?_⟩
      cases ho
      refine ⟨q2.1, q2.1, ?_⟩
      rw [q2.2.2.2.1, q2.2.1]
      refine ⟨fun c => ⟨fun _ => go ?_, fun c => absurd rfl c⟩, fun c => ⟨fun c2 => ⟨fun _ => go ?_, fun c => absurd rfl c⟩, fun c2 => ⟨fun c => absurd c n01, fun _ => ?_⟩⟩⟩
      · rintro ⟨z, -⟩; exact c (by rw [z])
      · rintro ⟨-, z⟩; exact c2 (by rw [z])
      · have e1 : s.1 = e := (nI_eq (by have := hm.1; have := hT.1.2; omega) (by omega)).mp c
        have e2 : s.2.1 = net := (nI_eq (by have := hm.2.1; omega) (by omega)).mp c2
        have : t_has T e net = true := by
          rw [← hb]
          simp [hasF, e1, e2]
        rw [this] at hp
        exact hp
theorem c_has {post : Int32 → HS → Prop} {S : HS} {g : Nat} {G w : Nat → Nat} {A : Nat → List Nat} {T : TS} {N : Nat} (h : RepC S g G w A T) (hT : OkT T N) {e net : Nat} (he : e < 8) (hnet : net < 16777216) (hp : post (if t_has T e net then 1 else 0) S) : wp_X6_hasNet post S g (nI e) (nI net) :=
  ⟨(tS T).length + 1, c_has_loop h hT he hnet hp (tS T).length 0 (by omega) (by rw [List.drop_zero]; rfl)⟩
theorem mod_set {α : Type} {l : List α} {i : Nat} {x : α} (f : α → α) (h : l[i]? = some x) : l.modify i f = l.set i (f x) := by
  apply List.ext_getElem?
  intro j
  rw [List.getElem?_modify, List.getElem?_set]
  have hl := (List.getElem?_eq_some_iff.mp h).1
  by_cases e : i = j
  · subst e
    rw [h]
    simp [hl]
  · cases l[j]? <;> simp [e]
theorem c_move {post : Int32 → HS → Prop} {S : HS} {g : Nat} {G : Nat → Nat} {T : TS} {N : Nat} (h : RC S g G T) (hT : OkT T N) {x y : Int32} (hp : ∀ S', RC S' g G (s_move T x y).2 → post (s_move T x y).1 S') : wp_X6_move post S g x y := by
  obtain ⟨w, A, h⟩ := h
  refine ⟨h.F.1, c_stat h hT (fun j s a hj hs ha hx hwa q => ⟨som, fun o ho => ?_⟩) (fun hj => ⟨fun _ => ?_, fun o ho => som ho.symm⟩)⟩
  · cases ho
    refine c_endp h hT (fun e he hl hy => ⟨som, fun o ho => ⟨q.1, ?_⟩⟩) (fun he => ⟨fun _ => ?_, fun o ho => som ho.symm⟩)
    · simp only [s_move, hj, he, mod_set _ hs] at hp
      refine hp _ ⟨w, A, ?_⟩
      obtain ⟨k6, q1, q2, q3, q4, fa, q5, q6, q7⟩ := id q
      have f : frm S (sfi S 19 a y) (fun _ x => x = a) no2 no1 (fun x => x = fa) := frm.wfi (Or.inr rfl)
      refine h.sta ha hs ⟨q7.1, q6⟩ f ⟨k6, (fi_ne _ _ _ _ (Or.inl (by decide))).trans q1, q2, ?_, (fi_ne _ _ _ _ (Or.inl (by decide))).trans q4, fa, q5, q6, ?_⟩
      · rw [fi_self, hy]
      · have f' : frm S (sfi S 19 a y) (fun f x => f = 19 ∧ x = a) no2 no1 no1 := frm.wfi (Or.inr ⟨rfl, rfl⟩)
        exact q7.fr f' sam.rf id (fun r _ _ z => absurd z.1 (by decide)) (fun _ _ _ => id) (fun _ _ _ _ _ => id)
    · simp only [s_move, hj, he] at hp
      exact hp S ⟨w, A, h⟩
  · simp only [s_move, hj] at hp
    exact hp S ⟨w, A, h⟩
theorem c_way {post : Int32 → HS → Prop} {S : HS} {g : Nat} {G : Nat → Nat} {T : TS} {N : Nat} (h : RC S g G T) (hT : OkT T N) {x y z : Int32} (hp : ∀ S', RC S' g G (s_way T x y z).2 → post (s_way T x y z).1 S') : wp_X6_way post S g x y z := by
  obtain ⟨w, A, h⟩ := h
  have h8 := hT.1.2
  refine ⟨h.F.1, c_endp h hT (fun e he hl hx => ⟨som, fun o ho => ?_⟩) (fun he => ⟨fun _ => ?_, fun o ho => som ho.symm⟩)⟩
  · cases ho
    refine c_endp h hT (fun d hd hl2 hy => ⟨som, fun o ho => ?_⟩) (fun hd => ⟨fun _ => ?_, fun o ho => som ho.symm⟩)
    · cases ho
      subst hx; subst hy
      have e2 : (2 : Int32).toInt = 2 := rfl
      have e3 : (3 : Int32).toInt = 3 := rfl
      refine ⟨fun c => ⟨fun c2 => ?_, fun c2 => ⟨fun c3 => ?_, fun c3 => ?_⟩⟩, fun c => ?_⟩
      · simp only [s_way, he, hd, rg_neg c2] at hp
        exact hp S ⟨w, A, h⟩
      · have hq : ¬ e = d := fun q => c (by rw [q])
        obtain ⟨v, w1, w2, rfl⟩ := rg_yes (x := z) (n := 3) (y := 3) (by omega) c2 (lt_tI.mpr (by have := le_tI.mp c3; omega))
        simp only [s_way, he, hd, w1, hq, if_false] at hp
        obtain ⟨b1, b2, b3, b4, b5, b6, b7⟩ := h.E.2 e (by omega)
        refine ⟨b2, fun c => absurd c (nI_pos (by omega)), fun _ => ⟨fun c => absurd ((nI_leI (a := 8) (by omega) (by omega)).mp c) (by omega), fun _ => ⟨b2, G (30 + e), b5, by rw [b6], by rw [b7]; exact vp_in_nI (by omega) (by decide), ?_⟩⟩⟩
        rw [nI_clamp (by omega)]
        exact hp _ ⟨w, A, h.way (by omega)⟩
      · simp only [s_way, he, hd, rg_big (x := z) (n := 3) (y := 3) (by omega) (le_tI.mpr (by have := lt_tI.mp (Int32.not_le.mp c3); omega))] at hp
        exact hp S ⟨w, A, h⟩
      · have q : e = d := (nI_eq (by omega) (by omega)).mp c
        have : s_way T (nI e) (nI d) z = (0, T) := by
          simp only [s_way, he, hd, q, if_true]
          cases rg z 3 <;> rfl
        rw [this] at hp
        exact hp S ⟨w, A, h⟩
    · simp only [s_way, he, hd] at hp
      exact hp S ⟨w, A, h⟩
  · simp only [s_way, he] at hp
    exact hp S ⟨w, A, h⟩
theorem c_feed {post : Int32 → HS → Prop} {S : HS} {g : Nat} {G : Nat → Nat} {T : TS} {N : Nat} (h : RC S g G T) (hT : OkT T N) {x : Int32} (hp : ∀ S', RC S' g G (s_feed T x).2 → post (s_feed T x).1 S') : wp_X6_feed post S g x := by
  obtain ⟨w, A, h⟩ := h
  have h120 := hT.2.2.2.2.1.2
  have e2 : (255 : Int32).toInt = 255 := rfl
  have e3 : (256 : Int32).toInt = 256 := rfl
  obtain ⟨f0, f21, f22, f23, f24, f25, f26⟩ := h.F
  obtain ⟨w1, w2, hR⟩ := h.T
  refine ⟨fun c => ?_, fun c => ⟨fun c2 => ?_, fun c2 => ⟨f0, G 1, f24, hR.1.1, ?_⟩⟩⟩
  · simp only [s_feed, rg_neg c] at hp
    exact hp S ⟨w, A, h⟩
  · simp only [s_feed, rg_big (x := x) (n := 256) (y := 256) (by omega) (le_tI.mpr (by have := lt_tI.mp c2; omega))] at hp
    exact hp S ⟨w, A, h⟩
  · obtain ⟨b, b1, b2, rfl⟩ := rg_yes (x := x) (n := 256) (y := 256) (by omega) c (lt_tI.mpr (by have := le_tI.mp (Int32.not_lt.mp c2); omega))
    rw [hR.2.1]
    refine ⟨fun c3 => ⟨G 1, f24, hR.1.1, ?_⟩, fun c3 => ?_⟩
    · have hlt : (tT T).length < 120 := (nI_ltI (b := 120) (by omega) (by omega)).mp c3
      simp only [s_feed, b1, if_neg (by omega : ¬ (tT T).length = 120)] at hp
      exact sp_append hR hlt (nI_b b2) (fun S' r hR' => hp S' ⟨w, A, h.tape r hR'⟩)
    · have hlt : ¬ (tT T).length < 120 := fun q => c3 ((nI_ltI (b := 120) (by omega) (by omega)).mpr q)
      simp only [s_feed, b1, if_pos (by omega : (tT T).length = 120)] at hp
      exact hp S ⟨w, A, h⟩
theorem c_poke {post : Int32 → HS → Prop} {S : HS} {g : Nat} {G : Nat → Nat} {T : TS} {N : Nat} (h : RC S g G T) (hT : OkT T N) {x y z : Int32} (hp : ∀ S', RC S' g G (s_poke T x y z).2 → post (s_poke T x y z).1 S') : wp_X6_poke post S g x y z := by
  obtain ⟨w, A, h⟩ := h
  have e1 : (1 : Int32).toInt = 1 := rfl
  have e2 : (255 : Int32).toInt = 255 := rfl
  have e3 : (256 : Int32).toInt = 256 := rfl
  have e0 : (0 : Int32).toInt = 0 := rfl
  refine ⟨h.F.1, c_pack h hT (fun i f a hi hf ha hx hwa q => ⟨som, fun o ho => ?_⟩) (fun hi => ⟨fun _ => ?_, fun o ho => som ho.symm⟩)⟩
  · cases ho
    obtain ⟨k4, q2, r, c, n, q3, q4, q5, q6⟩ := id q
    have hm := hT.2.2.2.2.2.2 f (List.mem_of_getElem? hf)
    refine ⟨k4, r, q3, q6.1.1, sp_holds q6 (fun k hk hl => ⟨fun c => absurd c n01, fun _ => ?_⟩) (fun hn => ⟨fun _ => ?_, fun c => absurd rfl c⟩)⟩
    · have k1 : rg y f.1.length = some k := by rw [hk]; exact rg_n hl (by omega)
      refine ⟨fun c3 => ?_, fun c3 => ⟨fun c4 => ?_, fun c4 => ?_⟩⟩
      · have : s_poke T x y z = (0, T) := by
          simp only [s_poke, hi, hf, k1]
          cases hz : rg z 256 with
          | none => rfl
          | some m =>
            obtain ⟨m1, rfl⟩ := rg_lt hz
            have q := lt_tI.mp c3
            rw [nI_tI (by omega)] at q
            show (if m = 0 then _ else _) = _
            rw [if_pos (by omega)]
        rw [this] at hp
        exact hp S ⟨w, A, h⟩
      · obtain ⟨m, m1, m2, rfl⟩ := rg_yes (n := 256) (y := 256) (x := z) (by omega) (fun q => c3 (lt_tI.mpr (by have := lt_tI.mp q; omega))) (lt_tI.mpr (by have := le_tI.mp c4; omega))
        have m0 : ¬ m = 0 := fun q => c3 (by rw [q]; decide)
        simp only [s_poke, hi, hf, k1, m1, m0, if_false] at hp
        refine ⟨r, q3, q6.1.1, ?_⟩
        rw [hk]
        refine sp_turn q6 hl (y := gb f.1 k ^^^ m) (by rw [nI_b m2, nx_xor]) (fun S' ro hR => hp S' ⟨w, A, h.pkt ha hf ⟨q3, q6.1.1, q6.1.2.2.1, q4, q5⟩ ro hR⟩)
      · simp only [s_poke, hi, hf, k1, rg_big (x := z) (n := 256) (y := 256) (by omega) (le_tI.mpr (by have := lt_tI.mp (Int32.not_le.mp c4); omega))] at hp
        exact hp S ⟨w, A, h⟩
    · simp only [s_poke, hi, hf, rg_0 hn] at hp
      exact hp S ⟨w, A, h⟩
  · simp only [s_poke, hi] at hp
    exact hp S ⟨w, A, h⟩
/-! the lists -/
theorem RepC.lk {w' : Nat → Nat} {S S' : HS} {g : Nat} {G w : Nat → Nat} {A : Nat → List Nat} {T : TS} (h : RepC S g G w A T) {e d q : Nat} {B : List Nat} {l : List Kn} (he : e < 8) (hL0 : Lst S (G (20 + e)) d (A e)) (hd : kd S d = 192 → w d = e + 1) (f : frm S S' (wiL (G (20 + e))) (wrL (G (20 + e))) no1 (fun x => x = d)) (hL : Lst S' (G (20 + e)) q B) (hn : B.Nodup) (hwq : kd S' q = 192 → w' q = e + 1) (hw : sam S w w') (hal : Al (fun a κ => w' a = e + 1 ∧ KnAt S' a κ) (A e) (tK T e) → Al (fun a κ => w' a = e + 1 ∧ KnAt S' a κ) B l) : RepC S' g G w' (va_up A e B) (uK T e l) := by
  obtain ⟨h1, h2, h3, h4, h5, h6, h7, h8, h9, h10, h11⟩ := h.list (by omega) hL0 hd f hL hn hwq hw
  refine ⟨h1, h2, h3, h4, h5, h6, h7, fun j hj => ?_, ?_, ?_, h11⟩
  · rw [uK_at]
    by_cases z : j = e
    · subst z; rw [va_up_self, if_pos rfl]; exact hal (h8 j hj)
    · rw [va_up_ne _ _ z, if_neg z]; exact h8 j hj
  · rw [va_up_ne _ _ (by omega)]; exact h9
  · rw [va_up_ne _ _ (by omega)]; exact h10
theorem RepC.ls {w' : Nat → Nat} {S S' : HS} {g : Nat} {G w : Nat → Nat} {A : Nat → List Nat} {T : TS} (h : RepC S g G w A T) {d q : Nat} {B : List Nat} {l : List Sta} (hL0 : Lst S (G 28) d (A 8)) (hd : kd S d = 192 → w d = 9) (f : frm S S' (wiL (G 28)) (wrL (G 28)) no1 (fun x => x = d)) (hL : Lst S' (G 28) q B) (hn : B.Nodup) (hwq : kd S' q = 192 → w' q = 9) (hw : sam S w w') (hal : OS S' w' (A 8) (tS T) → OS S' w' B l) : RepC S' g G w' (va_up A 8 B) (uS T l) := by
  obtain ⟨h1, h2, h3, h4, h5, h6, h7, h8, h9, h10, h11⟩ := h.list (i := 8) (by omega) hL0 hd f hL hn hwq hw
  refine ⟨h1, h2, h3, h4, h5, h6, h7, fun j hj => ?_, ?_, ?_, h11⟩
  · rw [va_up_ne _ _ (by omega)]; exact h8 j hj
  · rw [va_up_self]; exact hal h9
  · rw [va_up_ne _ _ (by omega)]; exact h10
theorem RepC.lp {w' : Nat → Nat} {S S' : HS} {g : Nat} {G w : Nat → Nat} {A : Nat → List Nat} {T : TS} (h : RepC S g G w A T) {d q : Nat} {B : List Nat} {l : List (List Nat × Nat)} (hL0 : Lst S (G 29) d (A 9)) (hd : kd S d = 192 → w d = 10) (f : frm S S' (wiL (G 29)) (wrL (G 29)) no1 (fun x => x = d)) (hL : Lst S' (G 29) q B) (hn : B.Nodup) (hwq : kd S' q = 192 → w' q = 10) (hw : sam S w w') (hal : OP S' w' (A 9) (tF T) → OP S' w' B l) : RepC S' g G w' (va_up A 9 B) (uF T l) := by
  obtain ⟨h1, h2, h3, h4, h5, h6, h7, h8, h9, h10, h11⟩ := h.list (i := 9) (by omega) hL0 hd f hL hn hwq hw
  refine ⟨h1, h2, h3, h4, h5, h6, h7, fun j hj => ?_, ?_, ?_, h11⟩
  · rw [va_up_ne _ _ (by omega)]; exact h8 j hj
  · rw [va_up_ne _ _ (by omega)]; exact h9
  · rw [va_up_self]; exact hal h10
theorem nod_era {A : List Nat} (h : A.Nodup) (i : Nat) : (A.eraseIdx i).Nodup := h.sublist (List.eraseIdx_sublist A i)
/-- a list operation that writes no row -/
theorem lst_kr {S S' : HS} {L d : Nat} {A : List Nat} (h : Lst S L d A) (f : frm S S' (wiL L) (wrL L) no1 (fun x => x = d)) : kr S S' := f.kr (fun r hr q => by
  have := h.1
  rw [q.1] at hr; omega) (fun r hr q => by
  have := h.1
  rw [q.1] at hr; omega) (fun _ _ => id)
theorem c_rem9 {post : Option Nat → HS → Prop} {S : HS} {g : Nat} {G w : Nat → Nat} {A : Nat → List Nat} {T : TS} {i a : Nat} (h : RepC S g G w A T) (ha : (A 9)[i]? = some a) (hp : ∀ S', RepC S' g G w (va_up A 9 ((A 9).eraseIdx i)) (uF T ((tF T).eraseIdx i)) → kr S S' → (∀ x f, PkAt S w x f → PkAt S' w x f) → post (some a) S') : wp_Jx4a65c_remove_915e3 post S (G 29) (nI i) := by
  obtain ⟨hn, d, hL, hd⟩ := h.L (i := 9) (by omega)
  have k1 := hL.1
  refine sp_rem hL ha (fun S' f hL' hk => hp S' (h.lp hL hd f hL' (nod_era hn i) (fun q => hd (by rw [← hk]; exact q)) sam.rf (fun q => q.era i)) (lst_kr hL f) (fun x p q => q.fr f sam.rf (fun z => ?_) (fun z => ?_) (fun r hr _ z => ?_) (fun r hr _ z => ?_) (fun _ _ _ _ _ => id)))
  · have := q.1; rw [z.1] at this; omega
  · have := q.1; rw [z.1] at this; omega
  · rw [z.1] at hr; omega
  · rw [z.1] at hr; omega
theorem c_lose {post : Int32 → HS → Prop} {S : HS} {g : Nat} {G : Nat → Nat} {T : TS} {N : Nat} (h : RC S g G T) (hT : OkT T N) {x : Int32} (hp : ∀ S', RC S' g G (s_lose T x).2 → post (s_lose T x).1 S') : wp_X6_lose post S g x := by
  obtain ⟨w, A, h⟩ := h
  refine ⟨h.F.1, c_pack h hT (fun i f a hi hf ha hx hwa q => ⟨som, fun o ho => ?_⟩) (fun hi => ⟨fun _ => ?_, fun o ho => som ho.symm⟩)⟩
  · cases ho
    obtain ⟨-, d, hL, -⟩ := h.L (i := 9) (by omega)
    refine ⟨G 29, h.F.2.2.2.1, hL.1, ?_⟩
    rw [hx]
    simp only [s_lose, hi] at hp
    exact c_rem9 h ha (fun S' h' _ _ => ⟨a, rfl, hp S' ⟨w, _, h'⟩⟩)
  · simp only [s_lose, hi] at hp
    exact hp S ⟨w, A, h⟩
theorem c_forget {post : Int32 → HS → Prop} {S : HS} {g : Nat} {G : Nat → Nat} {T : TS} {N : Nat} (h : RC S g G T) (hT : OkT T N) {x : Int32} (hp : ∀ S', RC S' g G (s_forget T x).2 → post (s_forget T x).1 S') : wp_X6_forget post S g x := by
  obtain ⟨w, A, h⟩ := h
  have h8 := hT.1.2
  refine ⟨h.F.1, c_endp h hT (fun e he hl hx => ⟨som, fun o ho => ?_⟩) (fun he => ⟨fun _ => ?_, fun o ho => som ho.symm⟩)⟩
  · cases ho
    obtain ⟨c1, c2, c3, c4, c5, c6, c7⟩ := h.E.2 e (by omega)
    obtain ⟨hn, d, hL, hd⟩ := h.L (i := e) (by omega)
    refine ⟨c2, c2, G (20 + e), c4, hL.1, sp_size hL ⟨G (20 + e), c4, hL.1, sp_clr hL (fun S' f hL' hk => ?_)⟩⟩
    rw [(h.K e (by omega)).1]
    simp only [s_forget, he] at hp
    exact hp S' ⟨w, _, h.lk (by omega) hL hd f hL' List.nodup_nil (fun q => hd (by rw [← hk]; exact q)) sam.rf (fun _ => Al.nil)⟩
  · simp only [s_forget, he] at hp
    exact hp S ⟨w, A, h⟩
