/-! ===== the class: calls that look ===== -/
def RC (S : HS) (g : Nat) (G : Nat → Nat) (T : TS) : Prop := ∃ w A, RepC S g G w A T
theorem RepC.F {S : HS} {g : Nat} {G w : Nat → Nat} {A : Nat → List Nat} {T : TS} (h : RepC S g G w A T) : CF S g G (tN T) := h.1
theorem RepC.E {S : HS} {g : Nat} {G w : Nat → Nat} {A : Nat → List Nat} {T : TS} (h : RepC S g G w A T) : CE S G := h.2.1
theorem RepC.L {S : HS} {g : Nat} {G w : Nat → Nat} {A : Nat → List Nat} {T : TS} (h : RepC S g G w A T) {i : Nat} (hi : i < 10) : CL S G w i (A i) := h.2.2.2.2.2.2.1 i hi
theorem RepC.K {S : HS} {g : Nat} {G w : Nat → Nat} {A : Nat → List Nat} {T : TS} (h : RepC S g G w A T) : OK S w A (tK T) := h.2.2.2.2.2.2.2.1
theorem RepC.S {S : HS} {g : Nat} {G w : Nat → Nat} {A : Nat → List Nat} {T : TS} (h : RepC S g G w A T) : OS S w (A 8) (tS T) := h.2.2.2.2.2.2.2.2.1
theorem RepC.P {S : HS} {g : Nat} {G w : Nat → Nat} {A : Nat → List Nat} {T : TS} (h : RepC S g G w A T) : OP S w (A 9) (tF T) := h.2.2.2.2.2.2.2.2.2.1
theorem RepC.C {S : HS} {g : Nat} {G w : Nat → Nat} {A : Nat → List Nat} {T : TS} (h : RepC S g G w A T) : CC S G (tC T) := h.2.2.2.2.1
theorem RepC.T {S : HS} {g : Nat} {G w : Nat → Nat} {A : Nat → List Nat} {T : TS} (h : RepC S g G w A T) : CT S G w (tT T) := h.2.2.2.2.2.1
theorem c_endp {post : Option Nat → HS → Prop} {S : HS} {g : Nat} {G w : Nat → Nat} {A : Nat → List Nat} {T : TS} {N : Nat} (h : RepC S g G w A T) (hT : OkT T N) {x : Int32} (h1 : ∀ j, rg x (tN T) = some j → j < tN T → x = nI j → post (some (G (10 + j))) S) (h0 : rg x (tN T) = none → post none S) : wp_X6_endpointAt post S g x := by
  have h8 := hT.1.2
  obtain ⟨f0, f21, f22, f23, f24, f25, f26⟩ := h.F
  refine ⟨fun c => h0 (rg_neg c), fun c => ⟨f0, ?_⟩⟩
  rw [f26]
  have hi2 := nI_tI (j := tN T) (by omega)
  refine ⟨fun c2 => ?_, fun c2 => h0 (rg_big (Int.le_of_eq hi2.symm) (Int32.not_lt.mp c2))⟩
  obtain ⟨j, e1, e2, rfl⟩ := rg_yes (Int.le_of_eq hi2) c c2
  obtain ⟨⟨a1, a2⟩, a3⟩ := h.E
  refine ⟨G 0, f21, by rw [a1], by rw [a2]; exact vp_in_nI (by omega) (by decide), G (10 + j), ?_, h1 j e1 e2 rfl⟩
  rw [nI_clamp (by omega)]
  exact (a3 j (by omega)).1
theorem c_stat {post : Option Nat → HS → Prop} {S : HS} {g : Nat} {G w : Nat → Nat} {A : Nat → List Nat} {T : TS} {N : Nat} (h : RepC S g G w A T) (hT : OkT T N) {x : Int32} (h1 : ∀ j s a, rg x (tS T).length = some j → (tS T)[j]? = some s → (A 8)[j]? = some a → x = nI j → w a = 1 → StAt S w a s → post (some a) S) (h0 : rg x (tS T).length = none → post none S) : wp_X6_stationAt post S g x := by
  have h32 := hT.2.1.1
  obtain ⟨f0, f21, f22, f23, f24, f25, f26⟩ := h.F
  obtain ⟨-, d, hL, -⟩ := h.L (i := 8) (by omega)
  have hlen := h.S.1
  refine ⟨fun c => h0 (rg_neg c), fun c => ⟨f0, G 28, f22, hL.1, sp_size hL ?_⟩⟩
  have hi2 := nI_tI (j := (A 8).length) (by omega)
  refine ⟨fun c2 => ?_, fun c2 => h0 (rg_big (y := nI (A 8).length) (by omega) (Int32.not_lt.mp c2))⟩
  obtain ⟨j, e1, e2, rfl⟩ := rg_yes (Int.le_of_eq hi2) c c2
  obtain ⟨a, ha⟩ := get_lt e2
  obtain ⟨s, hs, q1, q2⟩ := h.S.of ha
  refine ⟨G 28, f22, hL.1, sp_get hL ha ⟨a, rfl, q2.1, h1 j s a (by rw [← hlen]; exact e1) hs ha rfl q1 q2⟩⟩
theorem c_pack {post : Option Nat → HS → Prop} {S : HS} {g : Nat} {G w : Nat → Nat} {A : Nat → List Nat} {T : TS} {N : Nat} (h : RepC S g G w A T) (hT : OkT T N) {x : Int32} (h1 : ∀ j f a, rg x (tF T).length = some j → (tF T)[j]? = some f → (A 9)[j]? = some a → x = nI j → w a = 1 → PkAt S w a f → post (some a) S) (h0 : rg x (tF T).length = none → post none S) : wp_X6_packetAt post S g x := by
  have h50 := hT.2.2.2.2.2.1
  obtain ⟨f0, f21, f22, f23, f24, f25, f26⟩ := h.F
  obtain ⟨-, d, hL, -⟩ := h.L (i := 9) (by omega)
  have hlen := h.P.1
  refine ⟨fun c => h0 (rg_neg c), fun c => ⟨f0, G 29, f23, hL.1, sp_size hL ?_⟩⟩
  have hi2 := nI_tI (j := (A 9).length) (by omega)
  refine ⟨fun c2 => ?_, fun c2 => h0 (rg_big (y := nI (A 9).length) (by omega) (Int32.not_lt.mp c2))⟩
  obtain ⟨j, e1, e2, rfl⟩ := rg_yes (Int.le_of_eq hi2) c c2
  obtain ⟨a, ha⟩ := get_lt e2
  obtain ⟨s, hs, q1, q2⟩ := h.P.of ha
  refine ⟨G 29, f23, hL.1, sp_get hL ha ⟨a, rfl, q2.1, h1 j s a (by rw [← hlen]; exact e1) hs ha rfl q1 q2⟩⟩
theorem som {α : Type} {a : α} {P : Prop} (h : some a = none) : P := by cases h
theorem c_flying {post : Int32 → HS → Prop} {S : HS} {g : Nat} {G : Nat → Nat} {T : TS} (h : RC S g G T) (hp : ∀ S', RC S' g G (s_flying T).2 → post (s_flying T).1 S') : wp_X6_flying post S g := by
  obtain ⟨w, A, h⟩ := h
  obtain ⟨f0, f21, f22, f23, f24, f25, f26⟩ := h.F
  obtain ⟨-, d, hL, -⟩ := h.L (i := 9) (by omega)
  refine ⟨f0, G 29, f23, hL.1, sp_size hL ?_⟩
  rw [h.P.1]
  exact hp S ⟨w, A, h⟩
theorem c_packet {post : Int32 → HS → Prop} {S : HS} {g : Nat} {G : Nat → Nat} {T : TS} {N : Nat} (h : RC S g G T) (hT : OkT T N) {x y : Int32} (hp : ∀ S', RC S' g G (s_packet T x y).2 → post (s_packet T x y).1 S') : wp_X6_packet post S g x y := by
  obtain ⟨w, A, h⟩ := h
  refine ⟨h.F.1, c_pack h hT (fun j f a hj hf ha hx _ q => ⟨som, fun o ho => ?_⟩) (fun hj => ⟨fun _ => ?_, fun o ho => som ho.symm⟩)⟩
  · cases ho
    obtain ⟨k4, q2, r, c, n, q3, q4, q5, q6⟩ := q
    refine ⟨k4, r, q3, q6.1.1, ?_⟩
    have h120 := (hT.2.2.2.2.2.2 f (List.mem_of_getElem? hf)).2.1
    refine sp_at q6 (fun i hi hl => ?_) (fun hn => ?_)
    · simp only [s_packet, hj, hf, hi, rg_n hl (by omega)] at hp
      exact hp S ⟨w, A, h⟩
    · simp only [s_packet, hj, hf, rg_0 hn] at hp
      exact hp S ⟨w, A, h⟩
  · simp only [s_packet, hj] at hp
    exact hp S ⟨w, A, h⟩
theorem c_size {post : Int32 → HS → Prop} {S : HS} {g : Nat} {G : Nat → Nat} {T : TS} {N : Nat} (h : RC S g G T) (hT : OkT T N) {x : Int32} (hp : ∀ S', RC S' g G (s_size T x).2 → post (s_size T x).1 S') : wp_X6_size post S g x := by
  obtain ⟨w, A, h⟩ := h
  refine ⟨h.F.1, c_pack h hT (fun j f a hj hf ha hx _ q => ⟨som, fun o ho => ?_⟩) (fun hj => ⟨fun _ => ?_, fun o ho => som ho.symm⟩)⟩
  · cases ho
    obtain ⟨k4, q2, r, c, n, q3, q4, q5, q6⟩ := q
    refine ⟨k4, r, q3, q6.1.1, ?_⟩
    rw [q6.2.1]
    simp only [s_size, hj, hf] at hp
    exact hp S ⟨w, A, h⟩
  · simp only [s_size, hj] at hp
    exact hp S ⟨w, A, h⟩
theorem c_known {post : Int32 → HS → Prop} {S : HS} {g : Nat} {G : Nat → Nat} {T : TS} {N : Nat} (h : RC S g G T) (hT : OkT T N) {x : Int32} (hp : ∀ S', RC S' g G (s_known T x).2 → post (s_known T x).1 S') : wp_X6_known post S g x := by
  obtain ⟨w, A, h⟩ := h
  have h8 := hT.1.2
  refine ⟨h.F.1, c_endp h hT (fun j hj hl hx => ⟨som, fun o ho => ?_⟩) (fun hj => ⟨fun _ => ?_, fun o ho => som ho.symm⟩)⟩
  · cases ho
    obtain ⟨c1, c2, c3, c4, c5, c6, c7⟩ := h.E.2 j (by omega)
    obtain ⟨-, d, hL, -⟩ := h.L (i := j) (by omega)
    refine ⟨c2, G (20 + j), c4, hL.1, sp_size hL ?_⟩
    rw [(h.K j (by omega)).1]
    simp only [s_known, hj] at hp
    exact hp S ⟨w, A, h⟩
  · simp only [s_known, hj] at hp
    exact hp S ⟨w, A, h⟩
theorem kE_tell {p : Nat ⊕ Nat} : okPl p → (kE p).toInt64 = (match p with | Sum.inr d => lN d | Sum.inl _ => -1) ∧ (kS p).toInt64 = (match p with | Sum.inl s => lN s | Sum.inr _ => -1) := by
  intro h
  cases p with
  | inl s => exact ⟨rfl, nI_64 (by have : s < 32 := h; omega)⟩
  | inr d => exact ⟨nI_64 (by have : d < 8 := h; omega), rfl⟩
theorem c_statI {post : Option Nat → HS → Prop} {S : HS} {g : Nat} {G w : Nat → Nat} {A : Nat → List Nat} {T : TS} (h : RepC S g G w A T) (hl : (tS T).length ≤ 32) {i a : Nat} {s : Sta} (hs : (tS T)[i]? = some s) (ha : (A 8)[i]? = some a) (hp : post (some a) S) : wp_X6_stationAt post S g (nI i) := by
  obtain ⟨f0, f21, f22, f23, f24, f25, f26⟩ := h.F
  obtain ⟨-, d, hL, -⟩ := h.L (i := 8) (by omega)
  have hlen := h.S.1
  have hi := (List.getElem?_eq_some_iff.mp ha).1
  have q := (h.S.2 i a s ha hs).2
  exact ⟨fun c => absurd c (nI_pos (by omega)), fun _ => ⟨f0, G 28, f22, hL.1, sp_size hL ⟨fun _ => ⟨G 28, f22, hL.1, sp_get hL ha ⟨a, rfl, q.1, hp⟩⟩, fun c => absurd ((nI_ltI (by omega) (by omega)).mpr hi) c⟩⟩⟩
theorem c_kn {post : Option Nat → HS → Prop} {S : HS} {g : Nat} {G w : Nat → Nat} {A : Nat → List Nat} {T : TS} (h : RepC S g G w A T) {e : Nat} (he : e < 8) (hl : (tK T e).length ≤ 24) {x : Int32} (h1 : ∀ j κ a, rg x (tK T e).length = some j → (tK T e)[j]? = some κ → (A e)[j]? = some a → KnAt S a κ → post (some a) S) (h0 : rg x (tK T e).length = none → post none S) : wp_X0_knownAt post S (G (10 + e)) x := by
  obtain ⟨b1, b2, b3, b4, b5, b6, b7⟩ := h.E.2 e he
  obtain ⟨-, d, hL, -⟩ := h.L (i := e) (by omega)
  have hlen := (h.K e he).1
  refine ⟨fun c => h0 (rg_neg c), fun c => ⟨b2, G (20 + e), b4, hL.1, sp_size hL ?_⟩⟩
  have hi2 := nI_tI (j := (A e).length) (by omega)
  refine ⟨fun c2 => ?_, fun c2 => h0 (rg_big (y := nI (A e).length) (by omega) (Int32.not_lt.mp c2))⟩
  obtain ⟨j, e1, e2, rfl⟩ := rg_yes (Int.le_of_eq hi2) c c2
  obtain ⟨a, ha⟩ := get_lt e2
  obtain ⟨s, hs, q1, q2⟩ := (h.K e he).of ha
  exact ⟨G (20 + e), b4, hL.1, sp_get hL ha ⟨a, rfl, q2.1, h1 j s a (by rw [← hlen]; exact e1) hs ha q2⟩⟩
theorem c_knI {post : Option Nat → HS → Prop} {S : HS} {g : Nat} {G w : Nat → Nat} {A : Nat → List Nat} {T : TS} (h : RepC S g G w A T) {e : Nat} (he : e < 8) (hl : (tK T e).length ≤ 24) {k a : Nat} {κ : Kn} (hκ : (tK T e)[k]? = some κ) (ha : (A e)[k]? = some a) (hp : post (some a) S) : wp_X0_knownAt post S (G (10 + e)) (nI k) := by
  have hk := (List.getElem?_eq_some_iff.mp hκ).1
  refine c_kn h he hl (fun j κ' a' hj _ ha' _ => ?_) (fun hn => ?_)
  · rw [rg_n hk (by omega)] at hj
    cases hj
    rw [ha] at ha'; cases ha'
    exact hp
  · rw [rg_n hk (by omega)] at hn; cases hn
theorem c_knN {post : Option Nat → HS → Prop} {S : HS} {x : Nat} (hp : post none S) : wp_X0_knownAt post S x (-1) := ⟨fun _ => hp, fun c => absurd (by decide) c⟩
theorem c_knows {post : Int64 → HS → Prop} {S : HS} {g : Nat} {G : Nat → Nat} {T : TS} {N : Nat} (h : RC S g G T) (hT : OkT T N) {x y z : Int32} (hp : ∀ S', RC S' g G (s_knows T x y z).2 → post (s_knows T x y z).1 S') : wp_X6_knows post S g x y z := by
  obtain ⟨w, A, h⟩ := h
  have h8 := hT.1.2
  refine ⟨h.F.1, c_endp h hT (fun j hj hl hx => ⟨som, fun o ho => ?_⟩) (fun hj => ⟨fun _ => ?_, fun o ho => som ho.symm⟩)⟩
  · cases ho
    obtain ⟨c1, c2, -⟩ := h.E.2 j (by omega)
    have h24 := hT.2.2.1 j (by omega)
    refine ⟨c2, c_kn h (by omega) h24.1 (fun k κ a e1 hκ ha q => ⟨som, fun o ho => ?_⟩) (fun hn => ⟨fun _ => ?_, fun o ho => som ho.symm⟩)⟩
    · cases ho
      obtain ⟨k3, q2, q3, q4, q5, q6⟩ := q
      refine ⟨k3, ?_⟩
      have hm := h24.2.1 κ (List.mem_of_getElem? hκ)
      obtain ⟨t1, t2⟩ := kE_tell (hm.pl hT.1.2 hT.2.1.1)
      simp only [s_knows, hj, e1, hκ] at hp
      have hq := hp S ⟨w, A, h⟩
      unfold wp_X1_tell
      rw [q2, q3, q4, q5, q6, t1, t2, nI_64 (by have := hm.1; omega), nI_64 (by have := hm.2.2.1; omega)]
      refine ⟨fun c3 => ⟨k3, ?_⟩, fun c3 => ⟨k3, ?_⟩, fun c3 => ⟨k3, ?_⟩, fun c3 => ⟨k3, ?_⟩, fun c3 => ⟨k3, ?_⟩, fun d0 d1 d2 d3 d4 => ?_⟩
      · subst c3; exact hq
      · subst c3; exact hq
      · subst c3; exact hq
      · subst c3; exact hq
      · subst c3; exact hq
      · unfold tell at hq
        rw [if_neg d0, if_neg d1, if_neg d2, if_neg d3, if_neg d4] at hq
        exact hq
    · simp only [s_knows, hj, hn] at hp
      exact hp S ⟨w, A, h⟩
  · simp only [s_knows, hj] at hp
    exact hp S ⟨w, A, h⟩
theorem c_got {post : Int32 → HS → Prop} {S : HS} {g : Nat} {G : Nat → Nat} {T : TS} {N : Nat} (h : RC S g G T) (hT : OkT T N) {x : Int32} (hp : ∀ S', RC S' g G (s_got T x).2 → post (s_got T x).1 S') : wp_X6_got post S g x := by
  obtain ⟨w, A, h⟩ := h
  refine ⟨h.F.1, c_stat h hT (fun j s a hj hs ha hx _ q => ⟨som, fun o ho => ?_⟩) (fun hj => ⟨fun _ => ?_, fun o ho => som ho.symm⟩)⟩
  · cases ho
    refine ⟨q.1, ?_⟩
    rw [q.2.2.2.2.1]
    simp only [s_got, hj, hs] at hp
    exact hp S ⟨w, A, h⟩
  · simp only [s_got, hj] at hp
    exact hp S ⟨w, A, h⟩
theorem c_frat {post : Option Nat → HS → Prop} {S : HS} {g : Nat} {G w : Nat → Nat} {A : Nat → List Nat} {T : TS} {N : Nat} (h : RepC S g G w A T) (hT : OkT T N) {x y : Int32} (h1 : ∀ i s k b r c n, rg x (tS T).length = some i → (tS T)[i]? = some s → rg y s.2.2.2.2.length = some k → s.2.2.2.2[k]? = some b → RowAt S r c n b → b.length ≤ 120 → post (some r) S) (h0 : s_length T x y = (-1, T) → (∀ z, s_frame T x y z = (-1, T)) → post none S) : wp_X6_frameAt post S g x y := by
  refine ⟨h.F.1, c_stat h hT (fun j s a hj hs ha hx _ q => ⟨som, fun o ho => ?_⟩) (fun hj => ⟨fun _ => ?_, fun o ho => som ho.symm⟩)⟩
  · cases ho
    refine ⟨q.1, ?_⟩
    obtain ⟨k6, q1, q2, q3, q4, fa, q5, q6, k160, q7, q8⟩ := q
    obtain ⟨m1, m2, m3, m4, m5, m6⟩ := hT.2.1.2 s (List.mem_of_getElem? hs)
    have nope : rg y s.2.2.2.2.length = none → post none S := fun z => h0 (by simp only [s_length, hj, hs, z]) (fun u => by simp only [s_frame, hj, hs, z])
    have e6 : (6 : Int32).toInt = 6 := rfl
    refine ⟨fun c => ⟨fun _ => nope (rg_neg c), fun o ho => som ho.symm⟩, fun c => ⟨fun c2 => ⟨k6, fa, q5, by rw [k160], ?_⟩, fun c2 => ⟨fun _ => nope (rg_big (y := 6) (by omega) (Int32.not_lt.mp c2)), fun o ho => som ho.symm⟩⟩⟩
    obtain ⟨k, e1, e2, rfl⟩ := rg_yes (n := 6) (y := 6) (by omega) c c2
    rw [q7]
    refine ⟨vp_in_nI (by omega) (by decide), ?_⟩
    rw [nI_clamp (by omega)]
    cases hb : s.2.2.2.2[k]? with
    | none =>
      rw [(q8 k e2).2 hb]
      refine ⟨fun _ => ⟨fun _ => nope (rg_0 (fun i hi e => ?_)), fun o ho => som ho.symm⟩, fun o ho => som ho.symm⟩
      have : k = i := (nI_eq (by omega) (by omega)).mp e
      rw [List.getElem?_eq_none_iff] at hb
      omega
    | some b =>
      obtain ⟨r, cc, n, z1, z2, z3, z4⟩ := (q8 k e2).1 b hb
      rw [z1]
      refine ⟨som, fun o ho => ⟨som, fun o' ho' => ?_⟩⟩
      cases ho; cases ho'
      have hl := (List.getElem?_eq_some_iff.mp hb).1
      exact h1 j s k b r cc n hj hs (rg_n hl (by omega)) hb z4 (m6 b (List.mem_of_getElem? hb)).2
  · exact h0 (by simp only [s_length, hj]) (fun z => by simp only [s_frame, hj])
theorem c_length {post : Int32 → HS → Prop} {S : HS} {g : Nat} {G : Nat → Nat} {T : TS} {N : Nat} (h : RC S g G T) (hT : OkT T N) {x y : Int32} (hp : ∀ S', RC S' g G (s_length T x y).2 → post (s_length T x y).1 S') : wp_X6_length post S g x y := by
  obtain ⟨w, A, h⟩ := h
  refine ⟨h.F.1, c_frat h hT (fun i s k b r c n hi hs hk hb hr _ => ⟨som, fun o ho => ?_⟩) (fun q _ => ⟨fun _ => ?_, fun o ho => som ho.symm⟩)⟩
  · cases ho
    refine ⟨hr.1.1, ?_⟩
    rw [hr.2.1]
    simp only [s_length, hi, hs, hk, hb] at hp
    exact hp S ⟨w, A, h⟩
  · rw [q] at hp; exact hp S ⟨w, A, h⟩
theorem c_frame {post : Int32 → HS → Prop} {S : HS} {g : Nat} {G : Nat → Nat} {T : TS} {N : Nat} (h : RC S g G T) (hT : OkT T N) {x y z : Int32} (hp : ∀ S', RC S' g G (s_frame T x y z).2 → post (s_frame T x y z).1 S') : wp_X6_frame post S g x y z := by
  obtain ⟨w, A, h⟩ := h
  refine ⟨h.F.1, c_frat h hT (fun i s k b r c n hi hs hk hb hr hl => ⟨som, fun o ho => ?_⟩) (fun _ q => ⟨fun _ => ?_, fun o ho => som ho.symm⟩)⟩
  · cases ho
    refine ⟨hr.1.1, sp_at hr (fun j hj hjl => ?_) (fun hn => ?_)⟩
    · simp only [s_frame, hi, hs, hk, hb, hj, rg_n hjl (by omega)] at hp
      exact hp S ⟨w, A, h⟩
    · simp only [s_frame, hi, hs, hk, hb, rg_0 hn] at hp
      exact hp S ⟨w, A, h⟩
  · rw [q z] at hp; exact hp S ⟨w, A, h⟩
theorem c_count {post : Int32 → HS → Prop} {S : HS} {g : Nat} {G : Nat → Nat} {T : TS} (h : RC S g G T) {x : Int32} (hp : ∀ S', RC S' g G (s_count T x).2 → post (s_count T x).1 S') : wp_X6_count post S g x := by
  obtain ⟨w, A, h⟩ := h
  have e13 : (13 : Int32).toInt = 13 := rfl
  refine ⟨fun c => ?_, fun c => ⟨fun c2 => ?_, fun c2 => ?_⟩⟩
  · simp only [s_count, rg_neg c] at hp
    exact hp S ⟨w, A, h⟩
  · obtain ⟨k, k1, k2, rfl⟩ := rg_yes (n := 13) (y := 13) (by omega) c c2
    obtain ⟨a1, a2, a3⟩ := h.C
    refine ⟨h.F.1, G 3, h.F.2.2.2.2.2.1, by rw [a1], by rw [a2]; exact vp_in_nI (by omega) (by decide), ?_⟩
    rw [nI_clamp (by omega), a3 k k2]
    simp only [s_count, k1] at hp
    exact hp S ⟨w, A, h⟩
  · simp only [s_count, rg_big (x := x) (n := 13) (y := 13) (by omega) (Int32.not_lt.mp c2)] at hp
    exact hp S ⟨w, A, h⟩
