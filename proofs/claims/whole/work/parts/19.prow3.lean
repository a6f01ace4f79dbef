/-! ===== the sum; a new row ===== -/
def sl : List Nat → Nat
  | x :: y :: t => x * 256 + y + sl t
  | [x] => x * 256
  | [] => 0
theorem sl_le : ∀ (l : List Nat), (∀ x ∈ l, x < 256) → sl l ≤ 65535 * ((l.length + 1) / 2)
  | [], _ => by simp [sl]
  | [x], h => by have := h x (by simp); simp [sl]; omega
  | x :: y :: t, h => by
    have h1 := h x (by simp)
    have h2 := h y (by simp)
    have h3 := sl_le t (fun z hz => h z (by simp [hz]))
    simp only [sl, List.length_cons]
    omega
def fold1 (t : Nat) : Nat := t % 65536 + t / 65536
def csum (t : Nat) : Nat := fold1 (fold1 t) ^^^ 65535
theorem fold_lt {t : Nat} (h : t < 2 ^ 22) : fold1 (fold1 t) < 65536 := by unfold fold1; omega
theorem csum_lt {t : Nat} (h : t < 2 ^ 22) : csum t < 65536 := Nat.xor_lt_two_pow (n := 16) (fold_lt h) (by decide)
theorem fold_m {t : Nat} (h : t < 2 ^ 31) : (nI t &&& 65535) + ((nI t).toUInt32 >>> ((16 : Int32).toUInt32 &&& Int32.toUInt32 31)).toInt32 = nI (fold1 t) := by
  rw [nx_mod, pk_ushrN (by omega) 16 16 (by decide), nI_add]
  rfl
theorem fin_m {u : Nat} (h : u < 65536) : (nI u ^^^ (-1)) &&& 65535 = nI (u ^^^ 65535) := by
  have e : (-1 : Int32) = nI 4294967295 := by decide
  rw [e, nx_xor, nx_mod]
  congr 1
  have h2 := Nat.xor_mod_two_pow (a := u) (b := 4294967295) (n := 16)
  rw [Nat.mod_eq_of_lt (show u < 2 ^ 16 by omega)] at h2
  exact h2
theorem drop_c {l : List Nat} {i : Nat} (h : i < l.length) : l.drop i = gb l i :: l.drop (i + 1) := by
  rw [List.drop_eq_getElem_cons h]
  congr 1
  simp [gb, List.getD_eq_getElem?_getD, List.getElem?_eq_getElem h]
theorem gb_take {b : List Nat} {t i : Nat} (h : i < t) : gb (b.take t) i = gb b i := by
  simp [gb, List.getD_eq_getElem?_getD, List.getElem?_take, h]
theorem sp_sum53 {post : Int32 → HS → Prop} {S : HS} {t : Nat} (ht : t < 2 ^ 22) (hp : post (nI (csum t)) S) : ∃ n9, wp_X3_sum_53 n9 post S (nI t) 0 := by
  refine ⟨3, fun c => absurd c (by decide), fun _ => ⟨fun c => absurd c (by decide), fun _ => ⟨fun _ => ?_, fun c => absurd (by decide) c⟩⟩⟩
  rw [fold_m (by omega), fold_m (by unfold fold1; omega), fin_m (fold_lt ht)]
  exact hp
theorem sp_sum_loop {post : Int32 → HS → Prop} {S : HS} {r c n : Nat} {b : List Nat} (h : RowAt S r c n b) (hb : By b) {t tot : Nat} (ht : t ≤ b.length) (htot : tot < 2 ^ 22) (hp : post (nI (csum tot)) S) : ∀ (k i acc : Nat), i ≤ t + 1 → t - i ≤ 2 * k → acc + sl ((b.take t).drop i) = tot → wp_X3_sum_5 (k + 1) post S r (nI t) (nI acc) (nI i) := by
  have hl : b.length ≤ 120 := by have := h.1.2.2.2.2; have := h.2.2.1; omega
  have htk : (b.take t).length = t := by simp; omega
  intro k
  induction k with
  | zero =>
    intro i acc hi hk he
    refine ⟨fun _ => ?_, fun c => absurd ((nI_leI (by omega) (by omega)).mpr (by omega)) c⟩
    rw [List.drop_eq_nil_of_le (by omega)] at he
    simp only [sl, Nat.add_zero] at he
    subst he
    exact sp_sum53 htot hp
  | succ k ih =>
    intro i acc hi hk he
    refine ⟨fun c => ?_, fun c => ?_⟩
    · have : t ≤ i := (nI_leI (by omega) (by omega)).mp c
      rw [List.drop_eq_nil_of_le (by omega)] at he
      simp only [sl, Nat.add_zero] at he
      subst he
      exact sp_sum53 htot hp
    · have hit : i < t := Nat.not_le.mp fun q => c ((nI_leI (by omega) (by omega)).mpr q)
      have e2 : nI i + 2 = nI (i + 2) := nI_add i 2
      refine ⟨h.1.1, sp_atN h rfl (by omega) ⟨fun c2 => ?_, fun c2 => sp_atN (j := i + 1) h (nI_1 i) ?_ ?_⟩⟩
      · rw [nI_1] at c2
        have h1 : t ≤ i + 1 := (nI_leI (by omega) (by omega)).mp c2
        have e0 : (0 : Int32) = nI 0 := rfl
        rw [e0, or8i (by have := hb i; omega) (by decide), nI_add, e2]
        refine ih (i + 2) _ (by omega) (by omega) ?_
        rw [drop_c (by omega), gb_take hit, List.drop_eq_nil_of_le (by omega)] at he
        rw [List.drop_eq_nil_of_le (by omega)]
        rw [show sl [gb b i] = gb b i * 256 from rfl] at he
        rw [show sl [] = 0 from rfl, Nat.add_zero, Nat.add_zero]
        exact he
      · rw [nI_1] at c2
        exact Nat.lt_of_lt_of_le (Nat.not_le.mp fun q => c2 ((nI_leI (by omega) (by omega)).mpr q)) ht
      · rw [nI_1] at c2
        have h1 : i + 1 < t := Nat.not_le.mp fun q => c2 ((nI_leI (by omega) (by omega)).mpr q)
        rw [or8i (by have := hb i; omega) (hb _), nI_add, e2]
        refine ih (i + 2) _ (by omega) (by omega) ?_
        rw [drop_c (by omega), drop_c (i := i + 1) (by omega), gb_take hit, gb_take h1] at he
        rw [show ∀ (x y : Nat) (l : List Nat), sl (x :: y :: l) = x * 256 + y + sl l from fun _ _ _ => rfl, show i + 1 + 1 = i + 2 from rfl] at he
        omega
theorem sp_sum {post : Int32 → HS → Prop} {S : HS} {r c n : Nat} {b : List Nat} (h : RowAt S r c n b) (hb : By b) {f t : Nat} (hf : f ≤ t) (ht : t ≤ b.length) (hp : post (nI (csum (sl ((b.take t).drop f)))) S) : wp_X3_sum post S r (nI f) (nI t) := by
  have h1 : sl ((b.take t).drop f) ≤ 65535 * ((((b.take t).drop f).length + 1) / 2) := sl_le _ (fun x hx => hb.mem (List.mem_of_mem_take (List.mem_of_mem_drop hx)))
  have h2 : ((b.take t).drop f).length ≤ 120 := by have := h.1.2.2.2.2; have := h.2.2.1; simp; omega
  exact ⟨t + 1, sp_sum_loop h hb ht (by omega) hp t f 0 (by omega) (by omega) (by omega)⟩
theorem fr_self (S : HS) (f a : Nat) (v : Option Nat) : fr (sfr S f a v) f a = v := up2_self (fr S) f a v
theorem fr_ne (S : HS) (f a : Nat) (v : Option Nat) {g b : Nat} (h : g ≠ f ∨ b ≠ a) : fr (sfr S f a v) g b = fr S g b := by
  rcases h with h | h
  · exact up2_oth (fr S) f a v h b
  · exact up2_ne (fr S) f a v h g
theorem fl_self (S : HS) (f a : Nat) (v : Int64) : fl (sfl S f a v) f a = v := up2_self (fl S) f a v
theorem fl_ne (S : HS) (f a : Nat) (v : Int64) {g b : Nat} (h : g ≠ f ∨ b ≠ a) : fl (sfl S f a v) g b = fl S g b := by
  rcases h with h | h
  · exact up2_oth (fl S) f a v h b
  · exact up2_ne (fl S) f a v h g
/-- new Row(n): its cells are new -/
theorem sp_rinit {post : Unit → HS → Prop} {S : HS} {r n : Nat} (hk : kd S r = 5) (hu : fi S 15 r = 0) (hn : n ≤ 120) (hp : ∀ c, kd S c = 0 → RowAt (sfr (snw S c 33 n) 14 r (some c)) r c n [] → post () (sfr (snw S c 33 n) 14 r (some c))) : wp_X3_init post S r (nI n) := by
  have key : ∀ c, kd S c = 0 → RowAt (sfr (snw S c 33 n) 14 r (some c)) r c n [] := by
    intro c hc
    have hrc : r ≠ c := fun e => by rw [e, hc] at hk; cases hk
    refine ⟨⟨?_, fr_self _ _ _ _, va_up_self _ _ _, va_up_self _ _ _, hn⟩, ?_, Nat.zero_le _, fun i hi => absurd hi (Nat.not_lt_zero i)⟩
    · exact (va_up_ne _ _ hrc).trans hk
    · exact (va_up_ne _ _ hrc).trans hu
  have hkn : ∀ c, kd S c = 0 → kd (snw S c 33 n) r = 5 := fun c hc => (va_up_ne _ _ (fun e => by rw [e, hc] at hk; cases hk)).trans hk
  refine ⟨fun c => fun c0 hc => ?_, fun c => ⟨⟨nI_pos (by omega), by rw [nI_clamp (by omega)]; exact hn⟩, fun c0 hc => ?_⟩⟩
  · have : n = 0 := Nat.le_zero.mp ((nI_leI (by omega) (by decide)).mp c)
    subst this
    exact ⟨hkn c0 hc, hp c0 hc (key c0 hc)⟩
  · rw [nI_clamp (by omega)]
    exact ⟨hkn c0 hc, hp c0 hc (key c0 hc)⟩
