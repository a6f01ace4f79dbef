/-! ===== a new reference ===== -/
def T00 : TS := mkT 0 [] (fun _ => []) (fun _ _ => 0) (fun _ => 0) [] [] (fun _ => 0)
def T0 : TS := t_begin T00 4
theorem OkT0 : OkT T0 0 := ⟨⟨(by decide : 2 ≤ 4), (by decide : 4 ≤ 8)⟩, ⟨Nat.zero_le _, fun s hs => by cases hs⟩, fun e _ => ⟨Nat.zero_le _, fun k hk => (List.not_mem_nil hk).elim, fun _ => rfl⟩, fun _ _ => Nat.zero_le _, ⟨By.nil, Nat.zero_le _⟩, Nat.zero_le _, fun f hf => (List.not_mem_nil hf).elim⟩
def RMp (S : HS) (o : Nat) (R : Nat → Nat) (n : Nat) : Prop := (kd S o = 8 ∧ fi S 43 o = 0) ∧ ∀ j, j < n → fr S (tf j) o = some (R j) ∧ kd S (R j) = tk j ∧ ln S (R j) = tl j
theorem tf_inj : ∀ i, i < 20 → ∀ j, j < 20 → tf i = tf j → i = j := by decide
theorem tk_0 : ∀ i, i < 20 → tk i ≠ 0 := by decide
theorem RMp.add {S : HS} {o : Nat} {R : Nat → Nat} {n : Nat} (h : RMp S o R n) (hn : n < 20) (a : Nat) (ha : kd S a = 0) : RMp (sfr (snw S a (tk n) (tl n)) (tf n) o (some a)) o (va_up R n a) (n + 1) := by
  have hao : o ≠ a := fun e => by have := h.1.1; rw [e, ha] at this; cases this
  refine ⟨⟨(va_up_ne _ _ hao).trans h.1.1, (va_up_ne _ _ hao).trans h.1.2⟩, fun j hj => ?_⟩
  by_cases e : j = n
  · subst e
    rw [va_up_self]
    exact ⟨fr_self _ _ _ _, va_up_self _ _ _, va_up_self _ _ _⟩
  · rw [va_up_ne _ _ e]
    obtain ⟨a1, a2, a3⟩ := h.2 j (by omega)
    have hra : R j ≠ a := fun q => by rw [q, ha] at a2; exact tk_0 j (by omega) a2.symm
    refine ⟨?_, (va_up_ne _ _ hra).trans a2, (va_up_ne _ _ hra).trans a3⟩
    rw [fr_ne _ _ _ _ (Or.inl (fun q => e (tf_inj j (by omega) n hn q)))]
    exact (va_up_ne _ _ hao).trans a1
theorem RMp.k {S : HS} {o : Nat} {R : Nat → Nat} {n a k m : Nat} (h : RMp S o R n) (ha : kd S a = 0) : kd (snw S a k m) o = 8 := (va_up_ne _ _ (fun e => by have := h.1.1; rw [e, ha] at this; cases this)).trans h.1.1
theorem q_i155 {post : Unit → HS → Prop} {S : HS} {o : Nat} {R : Nat → Nat} (h : RMp S o R 18) (hp : ∀ R S', RV S' o R T0 → post () S') : wp_X7_init_155a post S o := by
  intro a0 h0
  refine ⟨h.k h0, fun a1 h1 => ?_⟩
  have p2 := (h.add (by decide) a0 h0).add (by decide) a1 h1
  refine wr_X7_begin (R := va_up (va_up R 18 a0) 19 a1) ⟨p2.1.1, p2.2⟩ (q_begin (T := T00) (n := 4) ⟨p2.1.1, p2.2⟩ ⟨p2.1.2, fun j hj => absurd hj (Nat.not_lt_zero j)⟩ (by decide) (by decide) (fun S' h' => (h' : RV S' o _ T0))) (fun r S' _ q => hp _ S' q)
theorem q_i131 {post : Unit → HS → Prop} {S : HS} {o : Nat} {R : Nat → Nat} (h : RMp S o R 15) (hp : ∀ R S', RV S' o R T0 → post () S') : wp_X7_init_131a post S o := by
  intro a0 h0
  refine ⟨h.k h0, fun a1 h1 a2 h2 => ?_⟩
  exact q_i155 (((h.add (by decide) a0 h0).add (by decide) a1 h1).add (by decide) a2 h2) hp
theorem q_i105 {post : Unit → HS → Prop} {S : HS} {o : Nat} {R : Nat → Nat} (h : RMp S o R 12) (hp : ∀ R S', RV S' o R T0 → post () S') : wp_X7_init_105a post S o := by
  intro a0 h0
  refine ⟨h.k h0, fun a1 h1 a2 h2 => ?_⟩
  exact q_i131 (((h.add (by decide) a0 h0).add (by decide) a1 h1).add (by decide) a2 h2) hp
theorem q_i78 {post : Unit → HS → Prop} {S : HS} {o : Nat} {R : Nat → Nat} (h : RMp S o R 9) (hp : ∀ R S', RV S' o R T0 → post () S') : wp_X7_init_78a post S o := by
  intro a0 h0
  refine ⟨h.k h0, fun a1 h1 a2 h2 => ?_⟩
  exact q_i105 (((h.add (by decide) a0 h0).add (by decide) a1 h1).add (by decide) a2 h2) hp
theorem q_i54 {post : Unit → HS → Prop} {S : HS} {o : Nat} {R : Nat → Nat} (h : RMp S o R 6) (hp : ∀ R S', RV S' o R T0 → post () S') : wp_X7_init_54a post S o := by
  intro a0 h0
  refine ⟨h.k h0, fun a1 h1 a2 h2 => ?_⟩
  exact q_i78 (((h.add (by decide) a0 h0).add (by decide) a1 h1).add (by decide) a2 h2) hp
theorem q_i28 {post : Unit → HS → Prop} {S : HS} {o : Nat} {R : Nat → Nat} (h : RMp S o R 3) (hp : ∀ R S', RV S' o R T0 → post () S') : wp_X7_init_28a post S o := by
  intro a0 h0
  refine ⟨h.k h0, fun a1 h1 a2 h2 => ?_⟩
  exact q_i54 (((h.add (by decide) a0 h0).add (by decide) a1 h1).add (by decide) a2 h2) hp
theorem v_init {post : Unit → HS → Prop} {S : HS} {o : Nat} (hk : kd S o = 8) (h43 : fi S 43 o = 0) (hp : ∀ R S', RV S' o R T0 → post () S') : wp_X7_init post S o := by
  have h : RMp S o (fun _ => 0) 0 := ⟨⟨hk, h43⟩, fun j hj => absurd hj (Nat.not_lt_zero j)⟩
  intro a0 h0
  refine ⟨h.k h0, fun a1 h1 a2 h2 => ?_⟩
  exact q_i28 (((h.add (by decide) a0 h0).add (by decide) a1 h1).add (by decide) a2 h2) hp
