/-! ===== rows of bytes: a list of numbers below 256 ===== -/
def gb (b : List Nat) (i : Nat) : Nat := b.getD i 0
theorem gb_lt (b d : List Nat) {i : Nat} (h : i < b.length) : gb (b ++ d) i = gb b i := by simp [gb, List.getD_eq_getElem?_getD, List.getElem?_append_left h]
theorem gb_ge (b d : List Nat) (i : Nat) : gb (b ++ d) (b.length + i) = gb d i := by simp [gb, List.getD_eq_getElem?_getD, List.getElem?_append_right]
theorem gb_at (b : List Nat) (x : Nat) : gb (b ++ [x]) b.length = x := by simp [gb, List.getD_eq_getElem?_getD]
theorem gb_set {b : List Nat} {i j x : Nat} (hj : j < b.length) : gb (b.set j x) i = if i = j then x else gb b i := by
  by_cases h : i = j
  · subst h; simp [gb, List.getD_eq_getElem?_getD, hj]
  · simp [gb, List.getD_eq_getElem?_getD, List.getElem?_set_ne (Ne.symm h), h]
theorem gb_drop (b : List Nat) (k i : Nat) : gb (b.drop k) i = gb b (k + i) := by simp [gb, List.getD_eq_getElem?_getD]
def By (b : List Nat) : Prop := ∀ i, gb b i < 256
theorem By.nil : By [] := fun i => by simp [gb]
theorem By.of {b : List Nat} (h : ∀ x ∈ b, x < 256) : By b := fun i => by
  unfold gb
  rw [List.getD_eq_getElem?_getD]
  cases e : b[i]? with
  | none => simp
  | some x => exact h x (List.mem_of_getElem? e)
theorem By.mem {b : List Nat} (h : By b) {x : Nat} (hx : x ∈ b) : x < 256 := by
  obtain ⟨i, hi⟩ := List.getElem?_of_mem hx
  have := h i
  simpa [gb, List.getD_eq_getElem?_getD, hi] using this
theorem By.app {b d : List Nat} (hb : By b) (hd : By d) : By (b ++ d) := By.of (fun x hx => (List.mem_append.mp hx).elim hb.mem hd.mem)
theorem By.one {x : Nat} (h : x < 256) : By [x] := By.of (fun y hy => by rw [List.mem_singleton.mp hy]; exact h)
theorem By.drop {b : List Nat} (h : By b) (k : Nat) : By (b.drop k) := fun i => by rw [gb_drop]; exact h _
theorem By.set {b : List Nat} (h : By b) {j x : Nat} (hx : x < 256) : By (b.set j x) := By.of (fun y hy => (List.mem_or_eq_of_mem_set hy).elim h.mem (fun e => by rw [e]; exact hx))
/-- the view differs in one row's count and in its cells alone -/
def ron (S S' : HS) (r c : Nat) : Prop := es S' = es S ∧ kd S' = kd S ∧ ln S' = ln S ∧ (∀ f a, f ≠ 15 ∨ a ≠ r → fi S' f a = fi S f a) ∧ fl S' = fl S ∧ fr S' = fr S ∧ (∀ a, a ≠ c → ai S' a = ai S a) ∧ al S' = al S ∧ ar S' = ar S
theorem ron.rf {S : HS} {r c : Nat} : ron S S r c := ⟨rfl, rfl, rfl, fun _ _ _ => rfl, rfl, rfl, fun _ _ => rfl, rfl, rfl⟩
theorem ron.tr {S S' S'' : HS} {r c : Nat} (h : ron S S' r c) (g : ron S' S'' r c) : ron S S'' r c := by
  obtain ⟨a0, a1, a2, a3, a4, a5, a6, a7, a8⟩ := h
  obtain ⟨b0, b1, b2, b3, b4, b5, b6, b7, b8⟩ := g
  exact ⟨b0.trans a0, b1.trans a1, b2.trans a2, fun f a q => (b3 f a q).trans (a3 f a q), b4.trans a4, b5.trans a5, fun a q => (b6 a q).trans (a6 a q), b7.trans a7, b8.trans a8⟩
theorem ron.u {S : HS} {r c : Nat} {v : Int32} : ron S (sfi S 15 r v) r c := ⟨rfl, rfl, rfl, fun f a q => by
  rcases q with q | q
  · exact up2_oth (fi S) 15 r v q a
  · exact up2_ne (fi S) 15 r v q f, rfl, rfl, fun _ _ => rfl, rfl, rfl⟩
theorem ron.c {S : HS} {r c i : Nat} {v : Int32} : ron S (sai S c i v) r c := ⟨rfl, rfl, rfl, fun _ _ _ => rfl, rfl, rfl, fun _ q => va_up_ne _ _ q, rfl, rfl⟩
theorem fi_self (S : HS) (f a : Nat) (v : Int32) : fi (sfi S f a v) f a = v := up2_self (fi S) f a v
theorem fi_ne (S : HS) (f a : Nat) (v : Int32) {g b : Nat} (h : g ≠ f ∨ b ≠ a) : fi (sfi S f a v) g b = fi S g b := by
  rcases h with h | h
  · exact up2_oth (fi S) f a v h b
  · exact up2_ne (fi S) f a v h g
theorem ai_self (S : HS) (a i : Nat) (v : Int32) (j : Nat) : ai (sai S a i v) a j = if j = i then v else ai S a j := by
  show va_up (ai S) a (upd (ai S a) i v) a j = _
  rw [va_up_self]; rfl
theorem ai_ne (S : HS) (a i : Nat) (v : Int32) {b : Nat} (h : b ≠ a) : ai (sai S a i v) b = ai S b := va_up_ne _ _ h
/-- a row at r: its cells at c, room for n, the bytes b -/
def RowAt (S : HS) (r c n : Nat) (b : List Nat) : Prop := (kd S r = 5 ∧ fr S 14 r = some c ∧ kd S c = 33 ∧ ln S c = n ∧ n ≤ 120) ∧ fi S 15 r = nI b.length ∧ b.length ≤ n ∧ ∀ i, i < b.length → ai S c i = nI (gb b i)
theorem RowAt.ne {S : HS} {r c n : Nat} {b : List Nat} (h : RowAt S r c n b) : r ≠ c := fun e => by
  have h1 := h.1.1
  have h2 := h.1.2.2.1
  rw [e, h2] at h1
  cases h1
/-- another row stays -/
theorem RowAt.keep {S S' : HS} {r c r2 c2 n : Nat} {b : List Nat} (h : RowAt S r2 c2 n b) (g : ron S S' r c) (h1 : r2 ≠ r) (h2 : c2 ≠ c) : RowAt S' r2 c2 n b := by
  obtain ⟨b0, b1, b2, b3, b4, b5, b6, b7, b8⟩ := g
  obtain ⟨⟨a1, a2, a3, a4, a5⟩, a6, a7, a8⟩ := h
  exact ⟨⟨by rw [b1]; exact a1, by rw [b5]; exact a2, by rw [b1]; exact a3, by rw [b2]; exact a4, a5⟩, by rw [b3 15 r2 (Or.inr h1)]; exact a6, a7, fun i hi => by rw [b6 c2 h2]; exact a8 i hi⟩
theorem k33 {S : HS} {c : Nat} (h : kd S c = 33) : kd S c / 32 = 1 := by rw [h]
theorem sp_holds {post : Int32 → HS → Prop} {S : HS} {r c n : Nat} {b : List Nat} (h : RowAt S r c n b) {i : Int32} (h1 : ∀ j : Nat, i = nI j → j < b.length → post 1 S) (h0 : (∀ j : Nat, j < b.length → ¬ i = nI j) → post 0 S) : wp_X3_holds post S r i := by
  have hl : b.length < 2 ^ 31 := by have := h.1.2.2.2.2; have := h.2.2.1; omega
  refine ⟨fun c => h0 (fun j hj e => ?_), fun c => ⟨h.1.1, fun c2 => h0 (fun j hj e => ?_), fun c2 => ?_⟩⟩
  · subst e; exact nI_pos (by omega) c
  · subst e
    rw [h.2.1] at c2
    exact absurd ((nI_leI hl (by omega)).mp c2) (by omega)
  · obtain ⟨j, hj, rfl⟩ := nI_of c
    rw [h.2.1] at c2
    exact h1 j rfl (Nat.not_le.mp fun q => c2 ((nI_leI hl hj).mpr q))
theorem sp_at {post : Int32 → HS → Prop} {S : HS} {r c n : Nat} {b : List Nat} (h : RowAt S r c n b) {i : Int32} (h1 : ∀ j : Nat, i = nI j → j < b.length → post (nI (gb b j)) S) (h0 : (∀ j : Nat, j < b.length → ¬ i = nI j) → post (-1) S) : wp_X3_at post S r i := by
  have hl : b.length < 2 ^ 31 := by have := h.1.2.2.2.2; have := h.2.2.1; omega
  refine ⟨fun c => h0 (fun j hj e => ?_), fun c => ⟨h.1.1, fun c2 => h0 (fun j hj e => ?_), fun c2 => ?_⟩⟩
  · subst e; exact nI_pos (by omega) c
  · subst e
    rw [h.2.1] at c2
    exact absurd ((nI_leI hl (by omega)).mp c2) (by omega)
  · obtain ⟨j, hj, rfl⟩ := nI_of c
    rw [h.2.1] at c2
    have hjl : j < b.length := Nat.not_le.mp fun q => c2 ((nI_leI hl hj).mpr q)
    refine ⟨_, h.1.2.1, k33 h.1.2.2.1, vp_in_nI (by rw [h.1.2.2.2.1]; exact Nat.lt_of_lt_of_le hjl h.2.2.1) (by rw [h.1.2.2.2.1]; have := h.1.2.2.2.2; omega), ?_⟩
    rw [nI_clamp hj, h.2.2.2 j hjl]
    exact h1 j rfl hjl
/-- a byte that is there -/
theorem sp_atN {post : Int32 → HS → Prop} {S : HS} {r c n : Nat} {b : List Nat} (h : RowAt S r c n b) {j : Nat} {i : Int32} (hi : i = nI j) (hj : j < b.length) (hp : post (nI (gb b j)) S) : wp_X3_at post S r i := by
  have hl : b.length < 2 ^ 31 := by have := h.1.2.2.2.2; have := h.2.2.1; omega
  subst hi
  refine sp_at h (fun k e hk => ?_) (fun q => absurd rfl (q j hj))
  have : j = k := (nI_eq (by omega) (by omega)).mp e
  subst this
  exact hp
theorem sp_append {post : Unit → HS → Prop} {S : HS} {r c n : Nat} {b : List Nat} (h : RowAt S r c n b) (hn : b.length < n) {x : Int32} {y : Nat} (hy : x &&& 255 = nI y) (hp : ∀ S', ron S S' r c → RowAt S' r c n (b ++ [y]) → post () S') : wp_X3_append post S r x := by
  obtain ⟨⟨a1, a2, a3, a4, a5⟩, a6, a7, a8⟩ := id h
  have hln : ln S c < 2 ^ 31 := by omega
  have hcl : (fi S 15 r).toNatClampNeg = b.length := by rw [a6, nI_clamp (by omega)]
  refine ⟨a1, c, a2, ⟨by rw [a3]; decide, by rw [a3]; decide⟩, fun c2 => ?_, fun _ => ⟨c, a2, k33 a3, by rw [a6]; exact vp_in_nI (by omega) hln, ?_⟩⟩
  · rw [a6] at c2
    exact absurd ((nI_leI hln (by omega)).mp c2) (by omega)
  · rw [hcl, hy]
    refine hp _ (ron.c.tr ron.u) ⟨⟨a1, a2, a3, a4, a5⟩, ?_, by simp; omega, fun i hi => ?_⟩
    · rw [fi_self]
      show fi S 15 r + 1 = _
      rw [a6, nI_1]; simp
    · show ai (sai S c b.length (nI y)) c i = _
      rw [ai_self]
      by_cases e : i = b.length
      · subst e; rw [if_pos rfl, gb_at]
      · rw [if_neg e, gb_lt _ _ (by simp at hi; omega)]
        exact a8 i (by simp at hi; omega)
theorem sp_clear {post : Unit → HS → Prop} {S : HS} {r c n : Nat} {b : List Nat} (h : RowAt S r c n b) (hp : ∀ S', ron S S' r c → RowAt S' r c n [] → post () S') : wp_X3_clear post S r :=
  ⟨h.1.1, hp _ ron.u ⟨h.1, fi_self _ _ _ _, Nat.zero_le _, fun i hi => absurd hi (Nat.not_lt_zero i)⟩⟩
theorem sp_turn {post : Unit → HS → Prop} {S : HS} {r c n : Nat} {b : List Nat} (h : RowAt S r c n b) {j : Nat} {mk : Int32} {y : Nat} (hj : j < b.length) (hy : nI (gb b j) ^^^ (mk &&& 255) = nI y) (hp : ∀ S', ron S S' r c → RowAt S' r c n (b.set j y) → post () S') : wp_X3_turn post S r (nI j) mk := by
  obtain ⟨⟨a1, a2, a3, a4, a5⟩, a6, a7, a8⟩ := id h
  have hin : vp_in (nI j) (ln S c) := vp_in_nI (by omega) (by omega)
  refine ⟨fun c => absurd c (nI_pos (by omega)), fun _ => ⟨a1, fun c2 => ?_, fun _ => ⟨c, a2, k33 a3, hin, hin, ?_⟩⟩⟩
  · rw [a6] at c2
    exact absurd ((nI_leI (by omega) (by omega)).mp c2) (by omega)
  · rw [nI_clamp (by omega), a8 j hj, hy]
    refine hp _ ron.c ⟨⟨a1, a2, a3, a4, a5⟩, by rw [List.length_set]; exact a6, by rw [List.length_set]; exact a7, fun i hi => ?_⟩
    rw [List.length_set] at hi
    rw [ai_self, gb_set hj]
    by_cases e : i = j
    · rw [if_pos e, if_pos e]
    · rw [if_neg e, if_neg e]; exact a8 i hi
theorem sp_putPair {post : Unit → HS → Prop} {S : HS} {r c n : Nat} {b : List Nat} (h : RowAt S r c n b) {j v : Nat} (hj : j + 1 < b.length) (hv : v < 65536) (hp : ∀ S', ron S S' r c → RowAt S' r c n ((b.set j (v / 256)).set (j + 1) (v % 256)) → post () S') : wp_X3_putPair post S r (nI j) (nI v) := by
  obtain ⟨⟨a1, a2, a3, a4, a5⟩, a6, a7, a8⟩ := id h
  have e1 : ((nI v).toUInt32 >>> ((8 : Int32).toUInt32 &&& Int32.toUInt32 31)).toInt32 &&& 255 = nI (v / 256) := by
    rw [pk_ushrN (by omega) 8 8 (by decide), pk_andN (by omega) 8 (by decide)]
    congr 1
    omega
  have e2 : nI v &&& 255 = nI (v % 256) := by rw [pk_andN (by omega) 8 (by decide)]
  refine ⟨fun c => absurd c (nI_pos (by omega)), fun _ => ⟨a1, fun c2 => ?_, fun _ => ⟨c, a2, k33 a3, vp_in_nI (by omega) (by omega), c, a2, k33 a3, ?_, ?_⟩⟩⟩
  · rw [a6] at c2
    have : nI b.length - 1 = nI (b.length - 1) := by
      have := pk_sub (a := b.length) (b := 1) (by omega)
      exact this
    rw [this] at c2
    exact absurd ((nI_leI (by omega) (by omega)).mp c2) (by omega)
  · rw [nI_1]; exact vp_in_nI (show j + 1 < ln S c by omega) (show ln S c < 2 ^ 31 by omega)
  · rw [nI_1, nI_clamp (by omega), nI_clamp (by omega), e1, e2]
    refine hp _ (ron.c.tr ron.c) ⟨⟨a1, a2, a3, a4, a5⟩, by simp only [List.length_set]; exact a6, by simp only [List.length_set]; exact a7, fun i hi => ?_⟩
    simp only [List.length_set] at hi
    rw [ai_self, gb_set (by simp only [List.length_set]; exact hj), gb_set (by omega), ai_self]
    by_cases e : i = j + 1
    · rw [if_pos e, if_pos e]
    · rw [if_neg e, if_neg e]
      by_cases e' : i = j
      · rw [if_pos e', if_pos e']
      · rw [if_neg e', if_neg e']; exact a8 i hi
