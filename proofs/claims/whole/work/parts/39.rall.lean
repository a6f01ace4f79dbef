def wj345 : Nat → Bool := fun j => j == 3 || wj45 j
theorem Oks.up {n N : Nat} {s : Sta} (h : Oks n N s) : Oks n (N + 1) s := ⟨h.1, h.2.1, h.2.2.1, Nat.le_succ_of_le h.2.2.2.1, h.2.2.2.2⟩
theorem Oks.come {n N : Nat} {s : Sta} {b : List Nat} (h : Oks n N s) (hb : By b) (hl : b.length ≤ 120) : Oks n (N + 1) (come b s) := by
  obtain ⟨h1, h2, h3, h4, h5, h6⟩ := h
  refine ⟨h1, h2, h3, Nat.succ_le_succ h4, ?_, fun x hx => ?_⟩
  · show ((b :: s.2.2.2.2).take 6).length = min 6 (s.2.2.2.1 + 1)
    rw [List.length_take, List.length_cons, h5]; omega
  · rcases List.mem_cons.mp (List.mem_of_mem_take hx) with e | e
    · rw [e]; exact ⟨hb, hl⟩
    · exact h6 x e
theorem RV.st {S S' : HS} {o : Nat} {R : Nat → Nat} {T T' : TS} (h : RV S o R T) (hM : RM S' o R) (g : rfm S S' o R (fun _ => false) wj345) (hS : RvS S' o R T') (e1 : tN T' = tN T) (e3 : tW T' = tW T) (e4 : tQ T' = tQ T) (e5 : tT T' = tT T) (e6 : tF T' = tF T) (e7 : tK T' = tK T) (e8 : tC T' = tC T) : RV S' o R T' := by
  obtain ⟨-, h1, h2, h3, h4, h5, h6, h7, h8⟩ := h
  exact ⟨hM, by rw [e1]; exact (g.1 27 rfl).trans h1, hS, h3.fr g e3 rfl, h4.fr g e4 rfl, h5.fr g e7 ⟨rfl, rfl, rfl, rfl, rfl⟩, h6.fr g e5 rfl rfl, h7.fr g e6 rfl ⟨rfl, rfl, rfl⟩, h8.fr g e8 rfl⟩
theorem q_come {post : Unit → HS → Prop} {S : HS} {o : Nat} {R : Nat → Nat} {T : TS} {N : Nat} (h : RV S o R T) (hT : (tS T).length ≤ 32 ∧ ∀ s ∈ tS T, Oks (tN T) N s) {i : Nat} {s : Sta} (hs : (tS T)[i]? = some s) {b : List Nat} (hl : b.length ≤ 120) (hf : fi S 52 o = nI b.length) (hB : RvB S (R 19) 0 b) (hp : ∀ S', RV S' o R (uS T ((tS T).set i (come b s))) → rfm S S' o R (fun _ => false) wj345 → post () S') : wq_X7_comesTo post R S o (nI i) := by
  obtain ⟨hM, -, hSt, -⟩ := id h
  have hR := hM.inj
  have hi : i < (tS T).length := (List.getElem?_eq_some_iff.mp hs).1
  have h32 := hT.1
  obtain ⟨f0, f1, f2, f3, f4⟩ := hSt.2 i s hs
  have hin : vp_in (nI i) 32 := vp_in_nI (by omega) (by decide)
  refine ⟨hin, hin, 6, ?_⟩
  rw [nI_clamp (by omega), f3, nI_1]
  have w45 : ∀ j, wj345 j = false → wj45 j = false := fun j q => (Bool.or_eq_false_iff.mp q).2
  have M1 : RM (sai S (R 3) i (nI (s.2.2.2.1 + 1))) o R := hM.wai
  refine q_come_loop (m := b.length) (show i < 32 by omega) hl 5 _ (Nat.le_refl 5) M1 hf (fun S' M' g g5 g4 => ?_)
  have r : rfm S S' o R (fun _ => false) wj345 := (rfm.wai hM (by decide) rfl).tr (g.mono (fun _ q => q) w45)
  have a0 : ∀ j, (j == 3) = false → j < 20 → wj45 j = false → ai S' (R j) = ai S (R j) := fun j q hj q2 => by
    rw [(g.2 j hj q2).1]; exact ai_ne S (R 3) _ _ (hM.ne hj (by decide) (fun e => by rw [e] at q; cases q))
  have a3 : ∀ x, ai S' (R 3) x = if x = i then nI (s.2.2.2.1 + 1) else ai S (R 3) x := fun x => by
    rw [(g.2 3 (by decide) rfl).1, ai_r hR S (by decide) (by decide)]; simp
  have n5 : ai (sai S (R 3) i (nI (s.2.2.2.1 + 1))) (R 5) = ai S (R 5) := ai_ne S (R 3) _ _ (hM.ne (by decide) (by decide) (by decide))
  have n4 : ai (sai S (R 3) i (nI (s.2.2.2.1 + 1))) (R 4) = ai S (R 4) := ai_ne S (R 3) _ _ (hM.ne (by decide) (by decide) (by decide))
  have n19 : ai (sai S (R 3) i (nI (s.2.2.2.1 + 1))) (R 19) = ai S (R 19) := ai_ne S (R 3) _ _ (hM.ne (by decide) (by decide) (by decide))
  rw [n5] at g5
  rw [n4, n19] at g4
  refine hp S' (h.st M' r ⟨?_, fun j σ hj => ?_⟩ rfl rfl rfl rfl rfl rfl rfl) r
  · show fi S' 28 o = nI ((tS T).set i (come b s)).length
    rw [List.length_set, g.1 28 rfl]; exact hSt.1
  · have hj' : ((tS T).set i (come b s))[j]? = some σ := hj
    rw [a0 0 rfl (by decide) rfl, a0 1 rfl (by decide) rfl, a0 2 rfl (by decide) rfl, a3]
    by_cases z : j = i
    · subst z
      rw [List.getElem?_set_self hi] at hj'
      cases hj'
      rw [if_pos rfl]
      refine ⟨f0, f1, f2, rfl, fun k d hk => ?_⟩
      have hk' : ((b :: s.2.2.2.2).take 6)[k]? = some d := hk
      rw [List.getElem?_take] at hk'
      by_cases hk6 : k < 6
      · rw [if_pos hk6] at hk'
        cases k with
        | zero =>
          cases hk'
          refine ⟨by rw [g5, if_pos (by omega)], fun t ht => ?_⟩
          rw [g4, if_pos (by omega)]
          have := hB t ht
          rw [Nat.zero_add] at this
          rw [show 120 * (6 * j + 0) + t - 720 * j = t by omega]
          exact this
        | succ k =>
          have hk2 : s.2.2.2.2[k]? = some d := hk'
          obtain ⟨p1, p2⟩ := f4 k d hk2
          have hd := (hT.2 s (List.mem_of_getElem? hs)).2.2.2.2.2 d (List.mem_of_getElem? hk2)
          refine ⟨?_, fun t ht => ?_⟩
          · rw [g5, if_neg (by omega), if_pos (by omega), show 6 * j + (k + 1) - 1 = 6 * j + k by omega]; exact p1
          · rw [g4, if_neg (by omega), if_pos (by omega), show 120 * (6 * j + (k + 1)) + t - 120 = 120 * (6 * j + k) + t by omega]; exact p2 t ht
      · rw [if_neg hk6] at hk'; cases hk'
    · rw [List.getElem?_set_ne (Ne.symm z)] at hj'
      rw [if_neg z]
      obtain ⟨q0, q1, q2, q3, q4⟩ := hSt.2 j σ hj'
      have hok := hT.2 σ (List.mem_of_getElem? hj')
      refine ⟨q0, q1, q2, q3, fun k d hk => ?_⟩
      obtain ⟨p1, p2⟩ := q4 k d hk
      have hk6 : k < 6 := by
        have := (List.getElem?_eq_some_iff.mp hk).1
        rw [hok.2.2.2.2.1] at this
        omega
      have hd := hok.2.2.2.2.2 d (List.mem_of_getElem? hk)
      refine ⟨?_, fun t ht => ?_⟩
      · rw [g5, if_neg (by omega), if_neg (by omega)]; exact p1
      · rw [g4, if_neg (by omega), if_neg (by omega)]; exact p2 t ht
/-! to all of a net at an endpoint -/
def bui (but : Option Nat) : Int32 := match but with | some k => nI k | none => -1
/-- the stations when those before i have been looked at -/
def partA (l : List Sta) (e net : Nat) (but : Option Nat) (b : List Nat) (i : Nat) : List Sta := l.mapIdx (fun j s => if decide (j < i) && isTh e net but j s then come b s else s)
theorem partA_get (l : List Sta) (e net : Nat) (but : Option Nat) (b : List Nat) (i j : Nat) : (partA l e net but b i)[j]? = (l[j]?).map (fun s => if decide (j < i) && isTh e net but j s then come b s else s) := by simp [partA, List.getElem?_mapIdx]
theorem partA_0 (l : List Sta) (e net : Nat) (but : Option Nat) (b : List Nat) : partA l e net but b 0 = l := by
  apply List.ext_getElem?
  intro j
  rw [partA_get]
  cases l[j]? with
  | none => rfl
  | some s => simp
theorem partA_all (l : List Sta) (e net : Nat) (but : Option Nat) (b : List Nat) : partA l e net but b l.length = l.mapIdx (fun i s => if isTh e net but i s then come b s else s) := by
  apply List.ext_getElem?
  intro j
  rw [partA_get, List.getElem?_mapIdx]
  cases hj : l[j]? with
  | none => rfl
  | some s =>
    have := (List.getElem?_eq_some_iff.mp hj).1
    simp [this]
theorem partA_len (l : List Sta) (e net : Nat) (but : Option Nat) (b : List Nat) (i : Nat) : (partA l e net but b i).length = l.length := by simp [partA]
theorem partA_no {l : List Sta} {e net : Nat} {but : Option Nat} {b : List Nat} {i : Nat} {s : Sta} (hs : l[i]? = some s) (h : isTh e net but i s = false) : partA l e net but b (i + 1) = partA l e net but b i := by
  apply List.ext_getElem?
  intro j
  rw [partA_get, partA_get]
  cases hj : l[j]? with
  | none => rfl
  | some σ =>
    by_cases z : j = i
    · subst z; rw [hs] at hj; cases hj; simp [h]
    · have : (decide (j < i + 1)) = decide (j < i) := by
        by_cases c : j < i
        · simp [c, Nat.lt_succ_of_lt c]
        · simp [c]; omega
      simp [this]
theorem partA_yes {l : List Sta} {e net : Nat} {but : Option Nat} {b : List Nat} {i : Nat} {s : Sta} (hs : l[i]? = some s) (h : isTh e net but i s = true) : partA l e net but b (i + 1) = (partA l e net but b i).set i (come b s) := by
  have hi := (List.getElem?_eq_some_iff.mp hs).1
  apply List.ext_getElem?
  intro j
  by_cases z : j = i
  · subst z
    rw [List.getElem?_set_self (by rw [partA_len]; exact hi), partA_get, hs]
    simp [h]
  · rw [List.getElem?_set_ne (Ne.symm z), partA_get, partA_get]
    cases hj : l[j]? with
    | none => rfl
    | some σ =>
      have : (decide (j < i + 1)) = decide (j < i) := by
        by_cases c : j < i
        · simp [c, Nat.lt_succ_of_lt c]
        · simp [c]; omega
      simp [this]
theorem partA_ok {l : List Sta} {e net n N : Nat} {but : Option Nat} {b : List Nat} (h : ∀ s ∈ l, Oks n N s) (hb : By b) (hl : b.length ≤ 120) (i : Nat) : ∀ s ∈ partA l e net but b i, Oks n (N + 1) s := by
  intro σ hσ
  obtain ⟨j, hj⟩ := List.getElem?_of_mem hσ
  rw [partA_get] at hj
  cases hl2 : l[j]? with
  | none => rw [hl2] at hj; cases hj
  | some s =>
    rw [hl2] at hj
    have hs := h s (List.mem_of_getElem? hl2)
    have hj2 : (if decide (j < i) && isTh e net but j s then come b s else s) = σ := Option.some.inj hj
    rw [← hj2]
    split
    · exact hs.come hb hl
    · exact hs.up
theorem bui_ne {but : Option Nat} (hb : ∀ k, but = some k → k < 32) {i : Nat} (hi : i < 32) : (nI i = bui but) ↔ some i = but := by
  cases but with
  | none =>
    constructor
    · intro q
      have := nI_pos (n := i) (by omega)
      rw [q] at this
      exact absurd (by decide) this
    · intro q; cases q
  | some k =>
    constructor
    · intro q; exact congrArg some ((nI_eq (by omega) (by have := hb k rfl; omega)).mp q)
    · intro q; cases q; rfl
theorem q_all_loop {post : Unit → HS → Prop} {o : Nat} {R : Nat → Nat} {T : TS} {N : Nat} (hT : OkT T N) {e net : Nat} {but : Option Nat} {b : List Nat} (he : e < 8) (hnet : net < 16777216) (hbut : ∀ k, but = some k → k < 32) (hb : By b) (hl : b.length ≤ 120) : ∀ (n i : Nat) (S : HS), i + n = (tS T).length → RV S o R (uS T (partA (tS T) e net but b i)) → fi S 52 o = nI b.length → RvB S (R 19) 0 b → (∀ S', RV S' o R (t_all T e net but b) → rfm S S' o R (fun _ => false) wj345 → post () S') → wq_X7_comesToAll_3 (n + 1) post R S o (nI e) (nI net) (bui but) (nI i) := by
  have h32 := hT.2.1.1
  intro n
  induction n with
  | zero =>
    intro i S hi h hf hB hp
    have hlen : fi S 28 o = nI (tS T).length := by
      have := h.2.2.1.1
      rw [show (tS (uS T (partA (tS T) e net but b i))) = partA (tS T) e net but b i from rfl, partA_len] at this
      exact this
    refine ⟨fun _ => hp S ?_ rfm.rf, fun c => absurd ?_ c⟩
    · have : i = (tS T).length := by omega
      subst this
      rw [partA_all] at h
      exact h
    · rw [hlen]; exact (nI_leI (by omega) (by omega)).mpr (by omega)
  | succ n ih =>
    intro i S hi h hf hB hp
    have hlen : fi S 28 o = nI (tS T).length := by
      have := h.2.2.1.1
      rw [show (tS (uS T (partA (tS T) e net but b i))) = partA (tS T) e net but b i from rfl, partA_len] at this
      exact this
    obtain ⟨s, hs⟩ := get_lt (l := tS T) (i := i) (by omega)
    have hsp : (partA (tS T) e net but b i)[i]? = some s := by rw [partA_get, hs]; simp
    obtain ⟨f0, f1, -⟩ := h.2.2.1.2 i s hsp
    have hm := hT.2.1.2 s (List.mem_of_getElem? hs)
    have hin : vp_in (nI i) 32 := vp_in_nI (by omega) (by decide)
    have go : isTh e net but i s = false → wq_X7_comesToAll_3 (n + 1) post R S o (nI e) (nI net) (bui but) (nI i + 1) := fun q => by
      rw [nI_1]
      exact ih (i + 1) S (by omega) (by rw [partA_no hs q]; exact h) hf hB hp
    refine ⟨fun c => ?_, fun _ => ⟨fun c => go ?_, fun c => ⟨hin, ?_⟩⟩⟩
    · rw [hlen] at c
      exact absurd ((nI_leI (by omega) (by omega)).mp c) (by omega)
    · have := (bui_ne hbut (show i < 32 by omega)).mp c
      simp [isTh, this]
    · have hnb : ¬ some i = but := fun q => c ((bui_ne hbut (by omega)).mpr q)
      rw [nI_clamp (by omega), f0]
      refine ⟨fun c2 => go ?_, fun c2 => ⟨hin, ?_⟩⟩
      · have : ¬ s.1 = e := fun q => c2 (by rw [q])
        simp [isTh, this]
      · have e1 : s.1 = e := (nI_eq (by have := hm.1; have := hT.1.2; omega) (by omega)).mp c2
        rw [f1]
        refine ⟨fun c3 => go ?_, fun c3 => ?_⟩
        · have : ¬ s.2.1 = net := fun q => c3 (by rw [q])
          simp [isTh, this]
        · have e2 : s.2.1 = net := (nI_eq (by have := hm.2.1; omega) (by omega)).mp c3
          have hth : isTh e net but i s = true := by simp [isTh, hnb, e1, e2]
          refine q_come (N := N + 1) h ⟨by show (partA (tS T) e net but b i).length ≤ 32; rw [partA_len]; exact h32, partA_ok hT.2.1.2 hb hl i⟩ hsp hl hf hB (fun S' h' g => ?_)
          rw [nI_1]
          refine ih (i + 1) S' (by omega) ?_ ((g.1 52 rfl).trans hf) (fun t ht => by rw [(g.2 19 (by decide) rfl).1]; exact hB t ht) (fun S'' h'' g' => hp S'' h'' (g.tr g'))
          rw [partA_yes hs hth]
          exact h'
theorem q_all {post : Unit → HS → Prop} {S : HS} {o : Nat} {R : Nat → Nat} {T : TS} {N : Nat} (h : RV S o R T) (hT : OkT T N) {e net : Nat} {but : Option Nat} {b : List Nat} (he : e < 8) (hnet : net < 16777216) (hbut : ∀ k, but = some k → k < 32) (hb : By b) (hl : b.length ≤ 120) (hf : fi S 52 o = nI b.length) (hB : RvB S (R 19) 0 b) (hp : ∀ S', RV S' o R (t_all T e net but b) → rfm S S' o R (fun _ => false) wj345 → post () S') : wq_X7_comesToAll post R S o (nI e) (nI net) (bui but) := by
  refine ⟨(tS T).length + 1, q_all_loop hT he hnet hbut hb hl (tS T).length 0 S (by omega) ?_ hf hB hp⟩
  rw [partA_0]
  exact h
