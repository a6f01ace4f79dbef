/-! ===== rows: numbers in bytes, the sum ===== -/
theorem nI_255 (m : Nat) : nI m &&& 255 = nI (m % 256) := by
  rw [pk_and (nI m) (m := 255) 8 (by decide)]
  congr 1
  show (BitVec.ofNat 32 m).toNat % 2 ^ 8 = m % 256
  rw [BitVec.toNat_ofNat]
  omega
theorem nI_b {m : Nat} (h : m < 256) : nI m &&& 255 = nI m := by rw [nI_255, Nat.mod_eq_of_lt h]
theorem nI_8 (k : Nat) : (8 : Int32) * nI k = nI (8 * k) := pk_mul 8 k
/-- w as k bytes, the highest first -/
def be (w : Nat) : Nat → List Nat
  | 0 => []
  | k + 1 => (w / 256 ^ k) % 256 :: be w k
theorem be_len (w : Nat) : ∀ k, (be w k).length = k
  | 0 => rfl
  | k + 1 => by simp [be, be_len w k]
theorem be_by (w : Nat) : ∀ k, By (be w k)
  | 0 => By.nil
  | k + 1 => By.of (fun x hx => (List.mem_cons.mp hx).elim (fun e => by rw [e]; exact Nat.mod_lt _ (by decide)) (be_by w k).mem)
theorem byte_c {w : Nat} (hw : w < 2 ^ 64) {k : Nat} (hk : k < 8) : (((lN w).toUInt64 >>> (((8 : Int32) * nI k).toInt64.toUInt64 &&& Int64.toUInt64 63)).toInt64).toInt32 &&& 255 = nI ((w / 256 ^ k) % 256) := by
  rw [nI_8, wb_shr hw (by omega), lN_i, nI_255]
  have : 2 ^ (8 * k) = 256 ^ k := by rw [Nat.pow_mul]
  rw [this]
theorem sp_an_loop {post : Unit → HS → Prop} {r c n w : Nat} (hw : w < 2 ^ 64) : ∀ (k : Nat), k ≤ 8 → ∀ (S : HS) (b : List Nat), RowAt S r c n b → b.length + k ≤ n → (∀ S', ron S S' r c → RowAt S' r c n (b ++ be w k) → post () S') → wp_X3_appendNumber_5 (k + 1) post S r (lN w) (nI k - 1) := by
  intro k
  induction k with
  | zero =>
    intro _ S b h _ hp
    exact ⟨fun _ => hp S ron.rf (by simpa [be] using h), fun c => absurd (by decide) c⟩
  | succ k ih =>
    intro hk S b h hb hp
    rw [nI_pred]
    refine ⟨fun c => absurd c (nI_pos (by omega)), fun _ => ⟨h.1.1, ?_⟩⟩
    refine sp_append h (by omega) (byte_c hw (by omega)) (fun S' g h' => ?_)
    have e : nI k + (-1) = nI k - 1 := by rw [Int32.sub_eq_add_neg]
    rw [e]
    refine ih (by omega) S' _ h' (by simp; omega) (fun S'' g' h'' => hp S'' (g.tr g') ?_)
    simpa [be, List.append_assoc] using h''
theorem sp_an {post : Unit → HS → Prop} {S : HS} {r c n : Nat} {b : List Nat} {w k : Nat} (h : RowAt S r c n b) (hw : w < 2 ^ 64) (hk : k ≤ 8) (hb : b.length + k ≤ n) (hp : ∀ S', ron S S' r c → RowAt S' r c n (b ++ be w k) → post () S') : wp_X3_appendNumber post S r (lN w) (nI k) :=
  ⟨k + 1, sp_an_loop hw k hk S b h hb hp⟩
theorem sp_ar_loop {post : Unit → HS → Prop} {r c n o co no : Nat} {d : List Nat} (hd : By d) (ho : o ≠ r) (hco : co ≠ c) : ∀ (k f : Nat), f + k = d.length → ∀ (S : HS) (b : List Nat), RowAt S r c n b → RowAt S o co no d → b.length + k ≤ n → (∀ S', ron S S' r c → RowAt S' r c n (b ++ d.drop f) → post () S') → wp_X3_appendRest_2 (k + 1) post S r o (nI f) := by
  intro k
  induction k with
  | zero =>
    intro f hf S b h g _ hp
    have hl : d.length < 2 ^ 31 := by have := g.1.2.2.2.2; have := g.2.2.1; omega
    refine ⟨g.1.1, fun _ => hp S ron.rf ?_, fun c => ?_⟩
    · rw [List.drop_eq_nil_of_le (by omega), List.append_nil]; exact h
    · rw [g.2.1] at c
      exact absurd ((nI_leI hl (by omega)).mpr (by omega)) c
  | succ k ih =>
    intro f hf S b h g hb hp
    have hl : d.length < 2 ^ 31 := by have := g.1.2.2.2.2; have := g.2.2.1; omega
    refine ⟨g.1.1, fun c => ?_, fun _ => sp_atN g rfl (by omega) ⟨h.1.1, sp_append h (by omega) (nI_b (hd f)) (fun S' q h' => ?_)⟩⟩
    · rw [g.2.1] at c
      exact absurd ((nI_leI hl (by omega)).mp c) (by omega)
    · rw [nI_1]
      refine ih (f + 1) (by omega) S' _ h' (g.keep q ho hco) (by simp; omega) (fun S'' q' h'' => hp S'' (q.tr q') ?_)
      have e : d.drop f = gb d f :: d.drop (f + 1) := by
        rw [List.drop_eq_getElem_cons (by omega : f < d.length)]
        congr 1
        simp [gb, List.getD_eq_getElem?_getD, List.getElem?_eq_getElem (by omega : f < d.length)]
      rw [e]
      simpa [List.append_assoc] using h''
theorem sp_ar {post : Unit → HS → Prop} {S : HS} {r c n o co no : Nat} {b d : List Nat} {f : Nat} (h : RowAt S r c n b) (g : RowAt S o co no d) (hd : By d) (ho : o ≠ r) (hco : co ≠ c) (hf : f ≤ d.length) (hb : b.length + (d.length - f) ≤ n) (hp : ∀ S', ron S S' r c → RowAt S' r c n (b ++ d.drop f) → post () S') : wp_X3_appendRest post S r o (nI f) :=
  ⟨d.length - f + 1, sp_ar_loop hd ho hco (d.length - f) f (by omega) S b h g hb hp⟩
/-- k bytes from f on, as a number -/
def nb (b : List Nat) (f : Nat) : Nat → Nat
  | 0 => 0
  | k + 1 => nb b f k * 256 + gb b (f + k)
theorem nb_lt {b : List Nat} (h : By b) (f : Nat) : ∀ k, nb b f k < 256 ^ k
  | 0 => by simp [nb]
  | k + 1 => by
    have := nb_lt h f k
    have := h (f + k)
    simp only [nb, Nat.pow_succ]
    omega
theorem or8 {a x : Nat} (ha : a < 2 ^ 48) (hx : x < 256) : (lN a <<< ((8 : Int32).toInt64 &&& 63)) ||| (nI x).toInt64 = lN (a * 256 + x) := by
  have e1 : lN a <<< ((8 : Int32).toInt64 &&& 63) = lN (a * 256) := by
    have := wb_shl a (k := 8) (by decide)
    exact this
  rw [e1, nI_l (by omega)]
  exact g_or (k := 8) (p := 256) (by decide) hx (by omega)
theorem sp_nb_loop {post : Int64 → HS → Prop} {S : HS} {r c n : Nat} {b : List Nat} (h : RowAt S r c n b) (hb : By b) {f t : Nat} (ht : f + t ≤ b.length) (ht6 : t ≤ 6) (hp : post (lN (nb b f t)) S) : ∀ (k j : Nat), j + k = t → wp_X3_number_5 (k + 1) post S r (nI f) (nI t) (lN (nb b f j)) (nI (f + j)) := by
  have hl : b.length < 2 ^ 31 := by have := h.1.2.2.2.2; have := h.2.2.1; omega
  intro k
  induction k with
  | zero =>
    intro j hj
    have : j = t := by omega
    subst this
    refine ⟨fun _ => hp, fun c => absurd ?_ c⟩
    rw [nI_add]; exact (nI_leI (by omega) (by omega)).mpr (Nat.le_refl _)
  | succ k ih =>
    intro j hj
    refine ⟨fun c => ?_, fun _ => ⟨h.1.1, sp_atN h rfl (by omega) ?_⟩⟩
    · rw [nI_add] at c
      exact absurd ((nI_leI (by omega) (by omega)).mp c) (by omega)
    · rw [nI_b (hb _), nI_1]
      have hlt := nb_lt hb f j
      have h6 : 256 ^ j ≤ 256 ^ 5 := Nat.pow_le_pow_right (by decide) (by omega)
      rw [or8 (by omega) (hb _)]
      exact ih (j + 1) (by omega)
theorem sp_nb {post : Int64 → HS → Prop} {S : HS} {r c n : Nat} {b : List Nat} (h : RowAt S r c n b) (hb : By b) {f t : Nat} (ht : f + t ≤ b.length) (ht6 : t ≤ 6) (hp : post (lN (nb b f t)) S) : wp_X3_number post S r (nI f) (nI t) :=
  ⟨t + 1, sp_nb_loop h hb ht ht6 hp t 0 (by omega)⟩
def pr2 (b : List Nat) (j : Nat) : Nat := gb b j * 256 + gb b (j + 1)
theorem pr2_lt {b : List Nat} (h : By b) (j : Nat) : pr2 b j < 65536 := by
  have := h j
  have := h (j + 1)
  unfold pr2
  omega
theorem nI_or (a b : Nat) : nI a ||| nI b = nI (a ||| b) := by
  apply Int32.toBitVec_inj.mp
  show BitVec.ofNat 32 a ||| BitVec.ofNat 32 b = BitVec.ofNat 32 (a ||| b)
  apply BitVec.eq_of_toNat_eq
  simp [Nat.or_mod_two_pow]
theorem or8i {a x : Nat} (ha : a < 2 ^ 22) (hx : x < 256) : (nI a <<< ((8 : Int32) &&& 31)) ||| nI x = nI (a * 256 + x) := by
  rw [pk_shlN (n := a) ((8 : Int32) &&& 31) 8 (by decide) (by omega)]
  have e : nI (a * 2 ^ 8) ||| nI x = nI (a * 2 ^ 8 ||| x) := nI_or _ _
  rw [e]
  congr 1
  have h2 := Nat.two_pow_add_eq_or_of_lt (i := 8) (b := x) (by omega) a
  rw [Nat.mul_comm] at h2
  omega
theorem sp_pr {post : Int32 → HS → Prop} {S : HS} {r c n : Nat} {b : List Nat} (h : RowAt S r c n b) (hb : By b) {j : Nat} (hj : j + 1 < b.length) (hp : post (nI (pr2 b j)) S) : wp_X3_pair post S r (nI j) := by
  refine ⟨h.1.1, sp_atN h rfl (by omega) (sp_atN (j := j + 1) h (nI_1 j) hj ?_)⟩
  rw [nI_b (hb _), nI_b (hb _), or8i (by have := hb j; omega) (hb _)]
  exact hp
