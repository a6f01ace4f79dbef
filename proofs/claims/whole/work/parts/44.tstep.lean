/-! ===== the calls, over the state ===== -/
def rg (x : Int32) (n : Nat) : Option Nat := if 0 ≤ x.toInt ∧ x.toInt < (n : Int) then some x.toInt.toNat else none
def rl (x : Int64) (n : Nat) : Option Nat := if 0 ≤ x.toInt ∧ x.toInt < (n : Int) then some x.toInt.toNat else none
def s_begin (T : TS) (x : Int32) : Int32 × TS := match rg x 9 with
  | some n => if 2 ≤ n then (1, t_begin T n) else (0, T)
  | none => (0, T)
def s_station (T : TS) (x y z : Int32) : Int32 × TS := match rg x (tN T) with
  | some e => match rg y 16777216 with
    | some net => if (tS T).length = 32 then (-1, T) else (nI (tS T).length, uS T (tS T ++ [(e, net, 2199023255552 + z.toBitVec.toNat, 0, [])]))
    | none => (-1, T)
  | none => (-1, T)
def s_move (T : TS) (x y : Int32) : Int32 × TS := match rg x (tS T).length with
  | some i => match rg y (tN T) with
    | some e => (1, uS T ((tS T).modify i (fun s => (e, s.2))))
    | none => (0, T)
  | none => (0, T)
def s_way (T : TS) (x y z : Int32) : Int32 × TS := match rg x (tN T) with
  | some e => match rg y (tN T) with
    | some d => match rg z 3 with
      | some w => if e = d then (0, T) else (1, uW T e d w)
      | none => (0, T)
    | none => (0, T)
  | none => (0, T)
def s_feed (T : TS) (x : Int32) : Int32 × TS := match rg x 256 with
  | some b => if (tT T).length = 120 then (0, T) else (1, uT T (tT T ++ [b]))
  | none => (0, T)
def s_send (T : TS) (x : Int32) (w : Int64) (z : Int32) : Int32 × TS := match rg x (tS T).length with
  | some st => match rl w 281474976710656 with
    | some dst => match rg z 65536 with
      | some ty => if (tT T).length ≤ 40 then (match (tS T)[st]? with
        | some s => (nI (t_send T st dst ty s).1, (t_send T st dst ty s).2)
        | none => (-1, T)) else (-1, T)
      | none => (-1, T)
    | none => (-1, T)
  | none => (-1, T)
def s_deliver (T : TS) (x : Int32) : Int32 × TS := match rg x (tF T).length with
  | some i => match (tF T)[i]? with
    | some f => (nI (t_arr (uF T ((tF T).eraseIdx i)) f.1 f.2).1, (t_arr (uF T ((tF T).eraseIdx i)) f.1 f.2).2)
    | none => (-1, T)
  | none => (-1, T)
def s_twice (T : TS) (x : Int32) : Int32 × TS := match rg x (tF T).length with
  | some i => match (tF T)[i]? with
    | some f => (nI (t_arr T f.1 f.2).1, (t_arr T f.1 f.2).2)
    | none => (-1, T)
  | none => (-1, T)
def s_lose (T : TS) (x : Int32) : Int32 × TS := match rg x (tF T).length with
  | some i => (1, uF T ((tF T).eraseIdx i))
  | none => (0, T)
def s_inject (T : TS) (x : Int32) : Int32 × TS := match rg x (tN T) with
  | some e => (nI (t_arr (uT T []) (tT T) e).1, (t_arr (uT T []) (tT T) e).2)
  | none => (-1, T)
def s_poke (T : TS) (x y z : Int32) : Int32 × TS := match rg x (tF T).length with
  | some i => match (tF T)[i]? with
    | some f => match rg y f.1.length with
      | some k => match rg z 256 with
        | some m => if m = 0 then (0, T) else (1, uF T ((tF T).set i (f.1.set k (gb f.1 k ^^^ m), f.2)))
        | none => (0, T)
      | none => (0, T)
    | none => (0, T)
  | none => (0, T)
def s_flying (T : TS) : Int32 × TS := (nI (tF T).length, T)
def s_packet (T : TS) (x y : Int32) : Int32 × TS := match rg x (tF T).length with
  | some i => match (tF T)[i]? with
    | some f => match rg y f.1.length with
      | some k => (nI (gb f.1 k), T)
      | none => (-1, T)
    | none => (-1, T)
  | none => (-1, T)
def s_size (T : TS) (x : Int32) : Int32 × TS := match rg x (tF T).length with
  | some i => match (tF T)[i]? with
    | some f => (nI f.1.length, T)
    | none => (-1, T)
  | none => (-1, T)
def s_tick (T : TS) (x : Int32) : Int32 × TS := match rg x 1001 with
  | some t => if t = 0 then (-1, T) else (nI (t_tickN T t (tN T)), t_tick T t (tN T))
  | none => (-1, T)
def s_forget (T : TS) (x : Int32) : Int32 × TS := match rg x (tN T) with
  | some e => (nI (tK T e).length, uK T e [])
  | none => (-1, T)
def s_known (T : TS) (x : Int32) : Int32 × TS := match rg x (tN T) with
  | some e => (nI (tK T e).length, T)
  | none => (-1, T)
def tell (κ : Kn) (z : Int32) : Int64 := if z = 0 then lN κ.1 else if z = 1 then lN κ.2.1 else if z = 2 then (match κ.2.2.1 with | Sum.inr d => lN d | Sum.inl _ => -1) else if z = 3 then (match κ.2.2.1 with | Sum.inl s => lN s | Sum.inr _ => -1) else if z = 4 then lN κ.2.2.2 else -1
def s_knows (T : TS) (x y z : Int32) : Int64 × TS := match rg x (tN T) with
  | some e => match rg y (tK T e).length with
    | some k => match (tK T e)[k]? with
      | some κ => (tell κ z, T)
      | none => (-1, T)
    | none => (-1, T)
  | none => (-1, T)
def s_got (T : TS) (x : Int32) : Int32 × TS := match rg x (tS T).length with
  | some i => match (tS T)[i]? with
    | some s => (nI s.2.2.2.1, T)
    | none => (-1, T)
  | none => (-1, T)
def s_length (T : TS) (x y : Int32) : Int32 × TS := match rg x (tS T).length with
  | some i => match (tS T)[i]? with
    | some s => match rg y s.2.2.2.2.length with
      | some k => match s.2.2.2.2[k]? with
        | some b => (nI b.length, T)
        | none => (-1, T)
      | none => (-1, T)
    | none => (-1, T)
  | none => (-1, T)
def s_frame (T : TS) (x y z : Int32) : Int32 × TS := match rg x (tS T).length with
  | some i => match (tS T)[i]? with
    | some s => match rg y s.2.2.2.2.length with
      | some k => match s.2.2.2.2[k]? with
        | some b => match rg z b.length with
          | some j => (nI (gb b j), T)
          | none => (-1, T)
        | none => (-1, T)
      | none => (-1, T)
    | none => (-1, T)
  | none => (-1, T)
def s_count (T : TS) (x : Int32) : Int32 × TS := match rg x 13 with
  | some k => (nI (tC T k), T)
  | none => (-1, T)
theorem nI_tI {j : Nat} (h : j < 2 ^ 31) : (nI j).toInt = (j : Int) := Int32.toInt_ofNat_of_lt (by omega)
theorem rg_n {j n : Nat} (h : j < n) (hn : n ≤ 2 ^ 31) : rg (nI j) n = some j := by
  have e : (nI j).toInt = (j : Int) := Int32.toInt_ofNat_of_lt (by omega)
  unfold rg
  rw [e, if_pos (by omega)]
  rfl
theorem rg_0 {x : Int32} {n : Nat} (h : ∀ j : Nat, j < n → ¬ x = nI j) : rg x n = none := by
  unfold rg
  rw [if_neg]
  rintro ⟨h1, h2⟩
  refine h x.toInt.toNat (by omega) ?_
  apply Int32.toInt_inj.mp
  rw [nI_tI (by have := x.toInt_lt; omega)]
  omega
theorem rg_lt {x : Int32} {n j : Nat} (h : rg x n = some j) : j < n ∧ x = nI j := by
  unfold rg at h
  split at h
  · rename_i q
    cases h
    refine ⟨by omega, ?_⟩
    apply Int32.toInt_inj.mp
    rw [nI_tI (by have := x.toInt_lt; omega)]
    omega
  · cases h
theorem rg_no {x : Int32} {n : Nat} (h : rg x n = none) (hn : n ≤ 2 ^ 31) : ∀ j : Nat, j < n → ¬ x = nI j := fun j hj e => by
  rw [e, rg_n hj hn] at h; cases h
theorem rl_lt {x : Int64} {n j : Nat} (h : rl x n = some j) (hn : n ≤ 2 ^ 62) : j < n ∧ x = lN j := by
  unfold rl at h
  split at h
  · rename_i q
    cases h
    refine ⟨by omega, ?_⟩
    apply Int64.toInt_inj.mp
    rw [pf_lI (by omega)]
    omega
  · cases h
theorem rl_no {x : Int64} {n : Nat} (h : rl x n = none) : ¬ (0 ≤ x.toInt ∧ x.toInt < (n : Int)) := fun q => by
  unfold rl at h
  rw [if_pos q] at h; cases h
/-- comparing with a bound -/
theorem lt_tI {x y : Int32} : x < y ↔ x.toInt < y.toInt := Int32.lt_iff_toInt_lt
theorem le_tI {x y : Int32} : x ≤ y ↔ x.toInt ≤ y.toInt := Int32.le_iff_toInt_le
theorem rg_neg {x : Int32} {n : Nat} (h : x < 0) : rg x n = none := by
  unfold rg
  rw [if_neg]
  rintro ⟨h1, -⟩
  have h2 : x.toInt < 0 := lt_tI.mp h
  omega
theorem rg_big {x : Int32} {n : Nat} {y : Int32} (hy : (n : Int) ≤ y.toInt) (h : y ≤ x) : rg x n = none := by
  unfold rg
  rw [if_neg]
  rintro ⟨-, h1⟩
  have h2 := le_tI.mp h
  omega
theorem rg_yes {x : Int32} {n : Nat} {y : Int32} (hy : y.toInt ≤ (n : Int)) (h0 : ¬ x < 0) (h : x < y) : ∃ j, rg x n = some j ∧ j < n ∧ x = nI j := by
  have h1 : ¬ x.toInt < 0 := fun q => h0 (lt_tI.mpr q)
  have h2 := lt_tI.mp h
  refine ⟨x.toInt.toNat, by unfold rg; rw [if_pos (by omega)], by omega, ?_⟩
  apply Int32.toInt_inj.mp
  rw [nI_tI (by have := x.toInt_lt; omega)]
  omega
/-! what holds of every state goes on to hold -/
theorem OkT.up {T : TS} {N M : Nat} (h : OkT T N) (hM : N ≤ M) : OkT T M := ⟨h.1, ⟨h.2.1.1, fun s hs => by
  have q := h.2.1.2 s hs
  exact ⟨q.1, q.2.1, q.2.2.1, Nat.le_trans q.2.2.2.1 hM, q.2.2.2.2⟩⟩, h.2.2⟩
theorem OkT.c {T : TS} {N k : Nat} (h : OkT T N) : OkT (uC T k) N := h
theorem OkT.q {T : TS} {N e : Nat} (h : OkT T N) : OkT (uQ T e) N := h
theorem OkT.f {T : TS} {N : Nat} {f : List (List Nat × Nat)} (h : OkT T N) (h1 : f.length ≤ 50) (h2 : ∀ x ∈ f, By x.1 ∧ x.1.length ≤ 120 ∧ x.2 < tN T) : OkT (uF T f) N := ⟨h.1, h.2.1, h.2.2.1, h.2.2.2.1, h.2.2.2.2.1, h1, h2⟩
theorem OkT.t {T : TS} {N : Nat} {t : List Nat} (h : OkT T N) (h1 : By t) (h2 : t.length ≤ 120) : OkT (uT T t) N := ⟨h.1, h.2.1, h.2.2.1, h.2.2.2.1, ⟨h1, h2⟩, h.2.2.2.2.2⟩
theorem OkT.w {T : TS} {N e d w : Nat} (h : OkT T N) (hw : w ≤ 2) : OkT (uW T e d w) N := ⟨h.1, h.2.1, h.2.2.1, fun a b => by
  show va_up (tW T) e (va_up (tW T e) d w) a b ≤ 2
  unfold va_up
  by_cases q : a = e
  · subst q
    rw [if_pos rfl]
    by_cases q2 : b = d
    · rw [if_pos q2]; exact hw
    · rw [if_neg q2]; exact h.2.2.2.1 _ _
  · rw [if_neg q]; exact h.2.2.2.1 _ _, h.2.2.2.2⟩
theorem OkT.k {T : TS} {N e : Nat} {l : List Kn} (h : OkT T N) (h1 : l.length ≤ 24) (h2 : ∀ k ∈ l, Okk (tN T) e (tS T).length k) (h3 : tN T ≤ e → l = []) : OkT (uK T e l) N := ⟨h.1, h.2.1, fun d hd => by
  show (tK (uK T e l) d).length ≤ 24 ∧ (∀ k ∈ tK (uK T e l) d, Okk (tN T) d (tS T).length k) ∧ (tN T ≤ d → tK (uK T e l) d = [])
  rw [uK_at]
  by_cases q : d = e
  · subst q; rw [if_pos rfl]; exact ⟨h1, h2, h3⟩
  · rw [if_neg q]; exact h.2.2.1 d hd, h.2.2.2⟩
theorem OkT.s {T : TS} {N : Nat} {l : List Sta} (h : OkT T N) (h1 : l.length ≤ 32) (h0 : (tS T).length ≤ l.length) (h2 : ∀ s ∈ l, Oks (tN T) N s) : OkT (uS T l) N := ⟨h.1, ⟨h1, h2⟩, fun d hd => ⟨(h.2.2.1 d hd).1, fun k hk => by
  have q := (h.2.2.1 d hd).2.1 k hk
  refine ⟨q.1, q.2.1, q.2.2.1, ?_⟩
  have q4 := q.2.2.2
  show (match k.2.2.1 with | Sum.inl s => s < l.length | Sum.inr d' => d' < tN T ∧ d' ≠ d)
  revert q4
  cases k.2.2.1 with
  | inl s => exact fun z => Nat.lt_of_lt_of_le z h0
  | inr s => exact fun z => z, (h.2.2.1 d hd).2.2⟩, h.2.2.2⟩
theorem OkT.learn {T : TS} {N e net mac : Nat} {pl : Nat ⊕ Nat} (h : OkT T N) (he : e < tN T) (hk : Okk (tN T) e (tS T).length (net, mac, pl, 0)) : OkT (t_learn T e net mac pl) N := by
  have h8 := h.1.2
  obtain ⟨l1, l2, -⟩ := h.2.2.1 e (by omega)
  have h3 : ∀ l : List Kn, tN T ≤ e → l = [] := fun l q => absurd q (by omega)
  have ha : ∀ l : List Kn, (∀ k ∈ l, Okk (tN T) e (tS T).length k) → ∀ k ∈ l ++ [(net, mac, pl, 0)], Okk (tN T) e (tS T).length k := fun l q k hx => by
    rcases List.mem_append.mp hx with z | z
    · exact q k z
    · rw [List.mem_singleton.mp z]; exact hk
  unfold t_learn
  cases hf : fnd (tK T e) net mac with
  | some k =>
    obtain ⟨κ, hκ, -⟩ := fnd_spec hf
    have hkl := (List.getElem?_eq_some_iff.mp hκ).1
    show OkT (if _ then _ else _) N
    split
    · refine h.k (by rw [List.length_set]; exact l1) (fun x hx => ?_) (h3 _)
      rcases List.mem_or_eq_of_mem_set hx with z | z
      · exact l2 x z
      · rw [z]; exact hk
    · refine (OkT.k h ?_ (ha _ (eras_sub l2)) (h3 _)).c
      rw [List.length_append, List.length_eraseIdx, if_pos hkl]
      simp; omega
  | none =>
    show OkT (if _ then _ else _) N
    split
    · rename_i q
      refine ((OkT.k h ?_ (ha _ (eras_sub l2)) (h3 _)).c).c
      have := om_le (tK T e) 23
      rw [List.length_append, List.length_eraseIdx, if_pos (by omega)]
      simp; omega
    · refine (OkT.k h ?_ (ha _ l2) (h3 _)).c
      rw [List.length_append]; simp; omega
theorem t_learn_N (T : TS) (e net mac : Nat) (pl : Nat ⊕ Nat) : tN (t_learn T e net mac pl) = tN T ∧ tS (t_learn T e net mac pl) = tS T ∧ tW (t_learn T e net mac pl) = tW T ∧ tF (t_learn T e net mac pl) = tF T ∧ tT (t_learn T e net mac pl) = tT T ∧ tC (t_learn T e net mac pl) 0 = tC T 0 := by
  unfold t_learn
  split
  · split
    · exact ⟨rfl, rfl, rfl, rfl, rfl, rfl⟩
    · exact ⟨rfl, rfl, rfl, rfl, rfl, rfl⟩
  · split
    · exact ⟨rfl, rfl, rfl, rfl, rfl, rfl⟩
    · exact ⟨rfl, rfl, rfl, rfl, rfl, rfl⟩
theorem OkT.all {T : TS} {N e net : Nat} {but : Option Nat} {b : List Nat} (h : OkT T N) (hb : By b) (hl : b.length ≤ 120) : OkT (t_all T e net but b) (N + 1) := by
  unfold t_all
  rw [← partA_all]
  refine (h.up (Nat.le_succ N)).s (by rw [partA_len]; exact h.2.1.1) (by rw [partA_len]; exact Nat.le_refl _) (partA_ok h.2.1.2 hb hl _)
theorem OkT.one {T : TS} {N e st : Nat} {b : List Nat} (h : OkT T N) (hb : By b) (hl : b.length ≤ 120) : OkT (t_one T e st b) (N + 1) := by
  unfold t_one
  split
  · rename_i s hs
    split
    · refine (h.up (Nat.le_succ N)).s (by rw [List.length_set]; exact h.2.1.1) (by rw [List.length_set]; exact Nat.le_refl _) (fun x hx => ?_)
      rcases List.mem_or_eq_of_mem_set hx with z | z
      · exact (h.2.1.2 x z).up
      · rw [z]; exact (h.2.1.2 s (List.mem_of_getElem? hs)).come hb hl
    · exact h.up (Nat.le_succ N)
  · exact h.up (Nat.le_succ N)
theorem By.take {b : List Nat} (h : By b) (k : Nat) : By (b.take k) := By.of (fun x hx => h.mem (List.mem_of_mem_take hx))
theorem set2_by {p : List Nat} {j v : Nat} (h : By p) (hv : v < 65536) : By (set2 p j v) := (h.set (by omega)).set (by omega)
theorem csum_by {l : List Nat} (h : By l) (hl : l.length ≤ 120) : csum (sl l) < 65536 := csum_lt (by
  have := sl_le l (fun x hx => h.mem hx)
  omega)
theorem headIp_by {size num fol src dst : Nat} (hf : fol < 256) : By (headIp size num fol src dst) := by
  unfold headIp
  exact (((((((((By.one (by omega)).app (By.one (by omega))).app (be_by _ _)).app (be_by _ _)).app (be_by _ _)).app (By.one (by omega))).app (By.one hf)).app (be_by _ _)).app (be_by _ _)).app (be_by _ _)
theorem ipOf_by {size num fol src dst : Nat} (hf : fol < 256) : By (ipOf size num fol src dst) := set2_by (headIp_by hf) (csum_by (headIp_by hf) (by rw [headIp_len]; omega))
theorem ipOf_len (size num fol src dst : Nat) : (ipOf size num fol src dst).length = 20 := by unfold ipOf; rw [set2_len, headIp_len]
theorem pkt_ok {way num src dst net : Nat} {b : List Nat} (hb : By b) (hl : b.length ≤ 54) : By (pkt way num src dst net b) ∧ (pkt way num src dst net b).length ≤ 120 := by
  have g1 : ∀ size num src dst mid, By mid → By (ipOf size num 47 src dst ++ mid ++ b) := fun _ _ _ _ _ q => ((ipOf_by (by omega)).app q).app hb
  have l2 : (midSum net (mixB b 12)).length = 12 := by simp [midSum, be_len]
  unfold pkt
  split
  · refine ⟨((ipOf_by (by omega)).app midU_by).app hb, ?_⟩
    rw [List.length_append, List.length_append, ipOf_len]
    have : (midUdp (16 + b.length) net (mixB b 12)).length = 16 := by simp [midUdp, be_len]
    omega
  · split
    · have hlen : (ipOf (32 + b.length) num 47 src dst ++ midSum net (mixB b 12) ++ b).length ≤ 120 := by
        rw [List.length_append, List.length_append, ipOf_len, l2]; omega
      refine ⟨set2_by (g1 _ _ _ _ _ midS_by) (csum_by ((g1 _ _ _ _ _ midS_by).drop 20) (by rw [List.length_drop]; omega)), ?_⟩
      rw [set2_len]; exact hlen
    · refine ⟨g1 _ _ _ _ _ midG_by, ?_⟩
      rw [List.length_append, List.length_append, ipOf_len]
      have : (midGre net (mixB b 12)).length = 8 := by simp [midGre, be_len]
      omega
theorem OkT.go {T : TS} {N e d net : Nat} {b : List Nat} (h : OkT T N) (hd : d < tN T) (hb : By b) (hl : b.length ≤ 54) : OkT (t_go T e d net b) N := by
  obtain ⟨p1, p2⟩ := pkt_ok (way := tW T e d) (num := tQ T e) (src := e) (dst := d) (net := net) hb hl
  obtain ⟨f1, f2⟩ := h.2.2.2.2.2
  have ha : ∀ l : List (List Nat × Nat), (∀ x ∈ l, By x.1 ∧ x.1.length ≤ 120 ∧ x.2 < tN T) → ∀ x ∈ l ++ [(pkt (tW T e d) (tQ T e) e d net b, d)], By x.1 ∧ x.1.length ≤ 120 ∧ x.2 < tN T := fun l q x hx => by
    rcases List.mem_append.mp hx with z | z
    · exact q x z
    · rw [List.mem_singleton.mp z]; exact ⟨p1, p2, hd⟩
  unfold t_go
  show OkT (if _ then _ else _) N
  split
  · refine (OkT.f ((h.q).c) ?_ (ha _ (fun x hx => f2 x (List.mem_of_mem_eraseIdx hx)))).c
    rw [List.length_append, List.length_eraseIdx, if_pos (by omega)]
    simp; omega
  · refine OkT.f ((h.q).c) ?_ (ha _ f2)
    rw [List.length_append]; simp; omega
theorem t_go_N (T : TS) (e d net : Nat) (b : List Nat) : tN (t_go T e d net b) = tN T ∧ tS (t_go T e d net b) = tS T ∧ tK (t_go T e d net b) = tK T ∧ tT (t_go T e d net b) = tT T ∧ tC (t_go T e d net b) 0 = tC T 0 + 1 ∧ tW (t_go T e d net b) = tW T := by
  unfold t_go
  show tN (if _ then _ else _) = tN T ∧ _
  split
  · exact ⟨rfl, rfl, rfl, rfl, rfl, rfl⟩
  · exact ⟨rfl, rfl, rfl, rfl, rfl, rfl⟩
theorem OkT.begin {T : TS} {N M n : Nat} (h : OkT T N) (h2 : 2 ≤ n) (h8 : n ≤ 8) : OkT (t_begin T n) M := ⟨⟨h2, h8⟩, ⟨Nat.zero_le _, fun s hs => by cases hs⟩, fun e _ => ⟨Nat.zero_le _, fun k hk => (List.not_mem_nil hk).elim, fun _ => rfl⟩, fun _ _ => Nat.zero_le _, h.2.2.2.2.1, Nat.zero_le _, fun f hf => (List.not_mem_nil hf).elim⟩
