/-! ===== the reference's layout: one object, twenty arrays, each of a kind of its own ===== -/
def tf (j : Nat) : Nat := [29, 30, 31, 32, 33, 34, 35, 36, 37, 38, 39, 40, 41, 42, 44, 45, 46, 48, 49, 51].getD j 0
def tk (j : Nat) : Nat := [36, 37, 38, 39, 64, 40, 41, 42, 43, 44, 96, 45, 97, 65, 66, 46, 47, 48, 67, 68].getD j 0
def tl (j : Nat) : Nat := [32, 32, 32, 32, 23040, 192, 64, 8, 8, 192, 192, 192, 192, 120, 6000, 50, 50, 13, 120, 120].getD j 0
def RM (S : HS) (o : Nat) (R : Nat → Nat) : Prop := kd S o = 8 ∧ ∀ j, j < 20 → fr S (tf j) o = some (R j) ∧ kd S (R j) = tk j ∧ ln S (R j) = tl j
theorem RM.f {S : HS} {o : Nat} {R : Nat → Nat} (h : RM S o R) (j : Nat) (hj : j < 20) : fr S (tf j) o = some (R j) := (h.2 j hj).1
theorem RM.t {S : HS} {o : Nat} {R : Nat → Nat} (h : RM S o R) (j : Nat) (hj : j < 20) : kd S (R j) / 32 = tk j / 32 := by rw [(h.2 j hj).2.1]
theorem RM.i {S : HS} {o : Nat} {R : Nat → Nat} (h : RM S o R) (j : Nat) (hj : j < 20) {i : Int32} (hi : vp_in i (tl j)) : vp_in i (ln S (R j)) := by rw [(h.2 j hj).2.2]; exact hi
theorem RM.wfi {S : HS} {o : Nat} {R : Nat → Nat} (h : RM S o R) {f a : Nat} {v : Int32} : RM (sfi S f a v) o R := h
theorem RM.wai {S : HS} {o : Nat} {R : Nat → Nat} (h : RM S o R) {a i : Nat} {v : Int32} : RM (sai S a i v) o R := h
theorem RM.wal {S : HS} {o : Nat} {R : Nat → Nat} (h : RM S o R) {a i : Nat} {v : Int64} : RM (sal S a i v) o R := h
theorem tk_inj : ∀ i, i < 20 → ∀ j, j < 20 → tk i = tk j → i = j := by decide
theorem RM.ne {S : HS} {o : Nat} {R : Nat → Nat} (h : RM S o R) {i j : Nat} (hi : i < 20) (hj : j < 20) (hij : i ≠ j) : R i ≠ R j := fun e => hij (tk_inj i hi j hj (by rw [← (h.2 i hi).2.1, ← (h.2 j hj).2.1, e]))
theorem mo_sum54 {p q : Int32 → HS → Prop} (h : ∀ r S, p r S → q r S) : ∀ n S x, wp_X7_sum_54 n p S x → wp_X7_sum_54 n q S x := by
  intro n
  induction n with
  | zero => intro S x w; exact w.elim
  | succ n ih => intro S x w; exact ⟨fun c => h _ _ (w.1 c), fun c => ih _ _ (w.2 c)⟩
theorem mo_sum5 {p q : Int32 → HS → Prop} (h : ∀ r S, p r S → q r S) : ∀ n S b x y z, wp_X7_sum_5 n p S b x y z → wp_X7_sum_5 n q S b x y z := by
  intro n
  induction n with
  | zero => intro S b x y z w; exact w.elim
  | succ n ih =>
    intro S b x y z w
    refine ⟨fun c => ?_, fun c => ?_⟩
    · obtain ⟨n9, w9⟩ := w.1 c
      exact ⟨n9, mo_sum54 h _ _ _ w9⟩
    · obtain ⟨w1, w2, w3⟩ := w.2 c
      exact ⟨w1, w2, fun c2 => ih _ _ _ _ _ (w3.1 c2), fun c2 => ⟨(w3.2 c2).1, ih _ _ _ _ _ (w3.2 c2).2⟩⟩
theorem mo_X7_sum {p q : Int32 → HS → Prop} {S : HS} {a : Nat} {x y : Int32} (w : wp_X7_sum p S a x y) (h : ∀ r S, p r S → q r S) : wp_X7_sum q S a x y := by
  obtain ⟨n9, w9⟩ := w
  exact ⟨n9, mo_sum5 h _ _ _ _ _ _ w9⟩
theorem mo_mac5 {p q : Int64 → HS → Prop} (h : ∀ r S, p r S → q r S) : ∀ n S b x y z, wp_X7_macAt_5 n p S b x y z → wp_X7_macAt_5 n q S b x y z := by
  intro n
  induction n with
  | zero => intro S b x y z w; exact w.elim
  | succ n ih => intro S b x y z w; exact ⟨fun c => h _ _ (w.1 c), fun c => ⟨(w.2 c).1, (w.2 c).2.1, ih _ _ _ _ _ (w.2 c).2.2⟩⟩
theorem mo_X7_macAt {p q : Int64 → HS → Prop} {S : HS} {a b : Nat} {x : Int32} (w : wp_X7_macAt p S a b x) (h : ∀ r S, p r S → q r S) : wp_X7_macAt q S a b x := by
  obtain ⟨n9, w9⟩ := w
  exact ⟨n9, mo_mac5 h _ _ _ _ _ _ w9⟩
